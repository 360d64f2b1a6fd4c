/-! PURE, for p7: the reference's reckoning, calls and steps. -/
def SHR (T : Tr7) (gs gm gw : Fn7) : Prop := ∀ kk, kk < 3 → gm kk = nI (selT T (nI kk)).1 ∧ ((selT T (nI kk)).1 = 0 ∨ ((selT T (nI kk)).1 = mS (bt (selT T (nI kk)).2.1 (selT T (nI kk)).2.2) ∧ VS1 gs gm gw kk (selT T (nI kk)).2.1 (bt (selT T (nI kk)).2.1 (selT T (nI kk)).2.2)))
theorem shb_of {T : Tr7} {gs gm gw : Fn7} (h : SHR T gs gm gw) : SHB T gs := fun kk hk => (h kk hk).2.imp id (fun z => ⟨z.2.1, z.2.2.2.2.2.2⟩)
theorem top2 {t : Nat} {g : Fn7} (h : 2 ≤ t) : topP (vS t g) = g (t - 2 + 1) ∧ topP (popP (vS t g)) = g (t - 2) ∧ popP (popP (vS t g)) = vS (t - 2) g := by
  refine ⟨?_, ?_, ?_⟩
  · rw [top_v (by omega), show t - 1 = t - 2 + 1 by omega]
  · rw [pop_v (by omega), top_v (by omega), show t - 1 - 1 = t - 2 by omega]
  · rw [pop_v (by omega), pop_v (by omega), show t - 1 - 1 = t - 2 by omega]
theorem choo_v {t : Nat} {g : Fn7} (h : 4 ≤ t) : chooP (vS t g) = pushP (vS (t - 4) g) (if g (t - 4 + 3) < g (t - 4 + 2) then g (t - 4 + 1) else g (t - 4)) := by
  unfold chooP
  rw [pop_v (by omega), pop_v (by omega), pop_v (by omega), pop_v (by omega), top_v (by omega), top_v (by omega), top_v (by omega), top_v (by omega)]
  rw [show t - 1 - 1 - 1 - 1 = t - 4 by omega, show t - 1 - 1 - 1 = t - 4 + 1 by omega, show t - 1 - 1 = t - 4 + 2 by omega, show t - 1 = t - 4 + 3 by omega]
theorem rs_no {c t : Nat} {g p : Fn7} {w w' : Int32} {X : Vs7} (h : ¬ takN c = 0) (ht : t < takN c) (hx : w' = failW (-4) w) : (mR w' X).map (fun q => (q, p)) = reckP c (vS t g) p := by
  rw [rk_s h (show (vS t g).1 < takN c from ht), mR_no (by rw [hx]; exact failW_n (by decide))]; rfl
theorem mfail {α : Type} {w w' x : Int32} {X : α} (hx : w' = failW x w) (h : ¬ x = 0) : mR w' X = none := mR_no (by rw [hx]; exact failW_n h) X
/-- a value is taken and laid twice -/
theorem dup_ok {t t1 t2 : Nat} {g g1 g2 : Fn7} {w w1 w2 : Int32} (h : 1 ≤ t) (ht : t ≤ 48) (hw : w = 0) (h1 : Tel w w1 (vS t1 g1) (pushP (vS (t - 1) g) (g (t - 1)))) (h2 : Tel w1 w2 (vS t2 g2) (pushP (vS t1 g1) (g (t - 1)))) : mR w2 (vS t2 g2) = pushP (vS t g) (topP (vS t g)) := by
  have q := h1.1 hw
  rw [pushP, if_pos (show (vS (t - 1) g).1 < 48 by show t - 1 < 48; omega)] at q
  have w0 : w1 = 0 := Classical.byContradiction (fun y => by rw [mR_no y] at q; cases q)
  rw [mR_0 w0] at q
  have e : vS t1 g1 = vS t g := by
    rw [Option.some.inj q]
    show (t - 1 + 1, upd (trunc (t - 1) g) (t - 1) (g (t - 1))) = vS t g
    rw [← trunc_push, show t - 1 + 1 = t by omega, vS]
    refine Prod.ext rfl (trunc_ext (fun j _ => ?_))
    by_cases r : j = t - 1
    · rw [r, pk_us]
    · rw [pk_un r]
  rw [h2.1 w0, e, top_v (by omega)]
theorem exch_ok {t1 t2 : Nat} {g1 g2 : Fn7} {v : Vs7} {a b w w1 w2 : Int32} (hw : w = 0) (h1 : Tel w w1 (vS t1 g1) (pushP v b)) (h2 : Tel w1 w2 (vS t2 g2) (pushP (vS t1 g1) a)) : mR w2 (vS t2 g2) = (pushP v b).bind (fun q => pushP q a) := by
  rw [← h1.1 hw]
  by_cases q : w1 = 0
  · rw [mR_0 q, h2.1 q]; rfl
  · rw [mR_no q, mR_no (h2.2 q)]; rfl
theorem bl_ok {t j : Nat} {g : Fn7} {x : Int32} (ht : t ≤ 48) (hj : j < 2 ^ 31) (e : iMax x 0 = nI j) : belowP (iMax x 0) (vS t g) = (if t < j + 1 then none else pushP (vS t g) (g (t - 1 - j))) := by
  rw [e, belowP]
  by_cases h : t < j + 1
  · rw [if_pos h, if_pos (show nI (vS t g).1 ≤ nI j by show nI t ≤ nI j; exact nI_le (by omega) hj)]
  · rw [if_neg h, if_neg (show ¬ nI (vS t g).1 ≤ nI j by show ¬ nI t ≤ nI j; exact nI_ge (by omega) (by omega)), nI_clamp hj]
    show pushP (vS t g) (trunc t g (t - 1 - j)) = _
    rw [trunc_at (by omega)]
theorem iMax_neg {x : Int32} (c : ¬ x ≥ 0) : iMax x 0 = nI 0 := if_neg c
theorem iMax_pos {x : Int32} (c : x ≥ 0) : iMax x 0 = x := if_pos c
/-! the wheel -/
def shf (gs gi : Fn7) (T k : Nat) : Prop := ∀ j, gi j = if k < j ∧ j < T then gs (j - 1) else gs j
theorem shf_0 {gs : Fn7} {T : Nat} : shf gs gs T (T - 1) := fun j => by rw [if_neg (by omega)]
theorem shf_s {gs gi : Fn7} {T k : Nat} (h : shf gs gi T k) (hk : k < T) (h0 : 0 < k) : shf gs (upd gi k (gi (k - 1))) T (k - 1) := fun j => by
  by_cases q : j = k
  · subst q
    rw [pk_us, h (j - 1), if_neg (by omega), if_pos (by omega)]
  · rw [pk_un q, h j]
    by_cases r : k < j ∧ j < T
    · rw [if_pos r, if_pos (by omega)]
    · rw [if_neg r, if_neg (by omega)]
theorem shf_end {gs gi : Fn7} {T n : Nat} (h : shf gs gi T (T - n)) (hn : n ≤ T) (h0 : 0 < n) : upd gi (T - n) (gs (T - 1)) = roll1 gs T n := by
  funext j
  unfold roll1
  by_cases q : j = T - n
  · rw [q, pk_us, if_pos (by omega), if_pos rfl]
  · rw [pk_un q, h j]
    by_cases r : T - n ≤ j ∧ j < T
    · rw [if_pos (by omega), if_pos r, if_neg q]
    · rw [if_neg (by omega), if_neg r]
theorem fm_ref {x : Int32} {k : Nat} (h0 : 0 < k) (h1 : k < 2 ^ 20) : (x - x / nI k * nI k + nI k) - (x - x / nI k * nI k + nI k) / nI k * nI k = nI (fmN x k) := by
  apply int_nI
  have e1 := j32_rem x (nI k)
  rw [nI_int (by omega)] at e1
  have hb1 : x.toInt.tmod k < k := Int.tmod_lt_of_pos _ (by omega)
  have hb2 : -(k : Int) < x.toInt.tmod k := by
    have := Int.tmod_lt_of_pos (-x.toInt) (show (0 : Int) < (k : Int) by omega)
    rw [Int.neg_tmod] at this
    omega
  have e2 : (x - x / nI k * nI k + nI k).toInt = x.toInt.tmod k + k := by
    rw [Int32.toInt_add, e1, nI_int (by omega)]
    exact Int.bmod_eq_of_le (by omega) (by omega)
  rw [j32_rem, e2, nI_int (by omega), fm_tmod h0, Int.tmod_eq_emod_of_nonneg (by omega), Int.add_emod_right]
  rw [Int.tmod_eq_emod]
  split
  · rw [show ((0 : Nat) : Int) = 0 from rfl, Int.sub_zero, Int.emod_emod_of_dvd _ (Int.dvd_refl _)]
  · rw [show ((k : Int).natAbs : Int) = k by omega, Int.sub_emod_right, Int.emod_emod_of_dvd _ (Int.dvd_refl _)]
theorem rl_no {t : Nat} {g : Fn7} {a b : Int32} (ht : t ≤ 48) (h : a < 0 ∨ ¬ a ≤ nI t) : rollP (vS t g) a b = none := by
  unfold rollP
  by_cases q : a < 0
  · rw [if_pos q]
  · obtain ⟨j, hj, rfl⟩ := nI_of q
    rw [if_neg q, nI_clamp hj, if_pos]
    show t < j
    exact Nat.not_le.mp (fun z => (h.resolve_left q) (nI_le z (by omega)))
theorem rl_ok {t n : Nat} {g g' : Fn7} {b : Int32} (hn : n ≤ t) (hn1 : n < 2 ^ 31) (h : (n = 0 ∧ g' = g) ∨ (0 < n ∧ g' = rollN g t n (fmN b n))) : rollP (vS t g) (nI n) b = some (vS t g') := by
  unfold rollP
  rw [if_neg (nI_pos hn1), nI_clamp hn1, if_neg (show ¬ (vS t g).1 < n from Nat.not_lt.mpr hn)]
  rcases h with ⟨h0, e⟩ | ⟨h0, e⟩
  · rw [if_pos h0, e]
  · rw [if_neg (by omega), e]
    refine congrArg some ?_
    show (t, rollN (trunc t g) t n (fmN b n)) = (t, trunc t (rollN g t n (fmN b n)))
    rw [trunc_roll hn (fm_lt h0)]
/-! the root -/
theorem rootB_spec {v : Nat} : ∀ (j a : Nat), a * a ≤ v → v < (a + 2 ^ j) * (a + 2 ^ j) → rootB v j a * rootB v j a ≤ v ∧ v < (rootB v j a + 1) * (rootB v j a + 1)
  | 0, a, h1, h2 => ⟨h1, h2⟩
  | j + 1, a, h1, h2 => by
    have e : 2 ^ (j + 1) = 2 ^ j + 2 ^ j := by rw [Nat.pow_succ]; omega
    unfold rootB
    by_cases c : (a + 2 ^ j) * (a + 2 ^ j) ≤ v
    · rw [if_pos c]
      exact rootB_spec j _ c (by rw [Nat.add_assoc, ← e]; exact h2)
    · rw [if_neg c]
      exact rootB_spec j _ h1 (Nat.not_le.mp c)
theorem rootN_eq {v r : Nat} (hv : v < 2 ^ 48) (h1 : r * r ≤ v) (h2 : v < (r + 1) * (r + 1)) : r = rootN v := by
  have q := rootB_spec (v := v) 24 0 (by omega) (by rw [Nat.zero_add, ← Nat.pow_add]; exact hv)
  exact root_uniq h1 h2 q.1 q.2
/-! calls -/
theorem start_bS {l k : Nat} {f : Fn7} (h : shOk l (bt l f)) (h0 : 0 < mS (bt l f)) (hk : k ≤ mS (bt l f)) (hl : l ≤ 16384) : startX (mS (bt l f)) l f (nI k) = nI (bS (bt l f) k) := by
  have q := bS_le h h0 hk
  have hkw : k * bt l f 2 ≤ 2000 * 4 := Nat.mul_le_mul (by omega) (by omega)
  have hmw : (mS (bt l f) + 1) * bt l f 2 ≤ 2001 * 4 := Nat.mul_le_mul (by omega) (by omega)
  unfold startX bS
  rw [pk_mul, show (3 : Int32) = nI 3 from rfl, nI_add, numX_N f (by omega) _ (by omega), lN_i, show (1 : Int32) = nI 1 from rfl, nI_add, pk_mul, nI_add, nI_add]
  exact pk_sub (by show 1 ≤ 3 + (mS (bt l f) + 1) * bt l f 2 + oS (bt l f) k; omega)
def mS7 {α : Type} (w e : Int32) (s : α) : Option (Int32 × α) := if w = 0 then some (e, s) else none
theorem mS_map {α β : Type} {w e : Int32} {s : α} {o : Option α} (g : α → β) (he : e = 0) (h : mR w s = o) : mS7 w e (g s) = gP (o.map g) := by
  rw [← h]
  unfold mS7 mR
  by_cases q : w = 0
  · rw [if_pos q, if_pos q, he]; rfl
  · rw [if_neg q, if_neg q]; rfl
theorem lr0 {x y : Int64} : x - x / y * y = 0 ↔ x % y = 0 := by
  rw [j64_rem]
  constructor
  · intro h
    have := congrArg (fun z => z + x / y * y) h
    have h2 : x = x / y * y := by simpa using this
    exact h2.symm
  · intro h
    rw [h]
    simp
theorem gt_31 {i : Int32} (h : ¬ i ≤ 31) : 32 ≤ i := by
  rw [Int32.le_iff_toInt_le] at *
  have e1 : (31 : Int32).toInt = 31 := by decide
  have e2 : (32 : Int32).toInt = 32 := by decide
  omega
theorem le_31 {i : Int32} (h : i ≤ 31) : ¬ 32 ≤ i := by
  rw [Int32.le_iff_toInt_le] at *
  have e1 : (31 : Int32).toInt = 31 := by decide
  have e2 : (32 : Int32).toInt = 32 := by decide
  omega
theorem rl_step {g gs gi : Fn7} {T n k kk : Nat} (hg : gs = rollN g T n k) (h : shf gs gi T kk) (e : kk = T - n) (hn : n ≤ T) (h0 : 0 < n) (hk : k + 1 ≤ n) : upd gi (T - n) (gs (T - 1)) = rollN g T n (k + 1) := by
  subst e
  rw [shf_end h hn h0, hg, rollN_1 hn hk]
theorem rt_le2 {m x : Nat} (h : m ≤ 33554432) (hx : x < 2 ^ 47) (c : ¬ lg_cmp (lN (m * m)) (lN x) > 0) : m * m ≤ x := by
  have := Nat.mul_le_mul h h
  exact Nat.not_lt.mp (fun z => c (lcmp_gt.mpr ((pk_lLT (by omega) (by omega)).mpr z)))
theorem rt_gt2 {m x : Nat} (h : m ≤ 33554432) (hx : x < 2 ^ 47) (c : lg_cmp (lN (m * m)) (lN x) > 0) : x < m * m := by
  have := Nat.mul_le_mul h h
  exact (pk_lLT (by omega) (by omega)).mp (lcmp_gt.mp c)
theorem rt_fin {lo hi x : Nat} (h : lo ≤ hi) (hh : hi ≤ 33554432) (c : lg_cmp (lN lo) (lN hi) ≥ 0) (h2 : x < (hi + 1) * (hi + 1)) : x < (lo + 1) * (lo + 1) := by
  have : hi ≤ lo := (pk_lLE (by omega) (by omega)).mp ((lg_cmp_ge _ _).mp c)
  rw [show lo = hi by omega]
  exact h2
theorem cq_eq {T : Tr7} {kind K : Int32} {t : Nat} {g : Fn7} {s : Ss7} (h : 0 < t) (e : shr16 (g (t - 1)) + (if nI (selT T kind).1 < 1240 then 107 else 1131) = K) : callP T kind (vS t g) s = (enterP T s kind K).map (fun q => (vS (t - 1) g, q)) := by
  rw [callP, if_neg (show ¬ (vS t g).1 = 0 by show ¬ t = 0; omega), top_v h, pop_v h, e]
theorem em_no {T : Tr7} {kind K : Int32} {s : Ss7} (h : K < 0 ∨ ¬ K < nI (selT T kind).1) : enterP T s kind K = none := by
  rw [enterP, if_pos]
  unfold hasS
  by_cases q : K < 0
  · rw [if_pos q]
  · rw [if_neg q, if_pos (Int32.not_lt.mp (h.resolve_left q))]
theorem em_deep {T : Tr7} {kind K : Int32} {d : Nat} {k a e : Fn7} (h : 10 ≤ d) : enterP T (sS d k a e) kind K = none := by
  unfold enterP
  split
  · rfl
  · rw [if_pos (show 10 ≤ (sS d k a e).1 from h)]
theorem em_ok {T : Tr7} {K : Int32} {kk kn d : Nat} {k a e gs gm gw : Fn7} (hK : K = nI kn) (hkb : kn < mS (bt (selT T (nI kk)).2.1 (selT T (nI kk)).2.2)) (hms : (selT T (nI kk)).1 = mS (bt (selT T (nI kk)).2.1 (selT T (nI kk)).2.2)) (hv : VS1 gs gm gw kk (selT T (nI kk)).2.1 (bt (selT T (nI kk)).2.1 (selT T (nI kk)).2.2)) (hd : ¬ 10 ≤ d) : enterP T (sS d k a e) (nI kk) K = some (d + 1, upd (trunc d k) d (nI kk), upd (trunc d a) d (nI (bS (bt (selT T (nI kk)).2.1 (selT T (nI kk)).2.2) kn)), upd (trunc d e) d (nI (bS (bt (selT T (nI kk)).2.1 (selT T (nI kk)).2.2) (kn + 1)))) := by
  have hm := mS_le hv.2.1
  have hh : ¬ hasS (selT T (nI kk)).1 K = 0 := by
    rw [hasS, hK, if_neg (nI_pos (by omega)), if_neg (nI_ge (by omega) (by omega))]
    decide
  rw [enterP, if_neg hh, if_neg (show ¬ 10 ≤ (sS d k a e).1 from hd), hms, hK, show (1 : Int32) = nI 1 from rfl, nI_add, start_bS hv.2.2.1 (by omega) (by omega) hv.1, start_bS hv.2.2.1 (by omega) (by omega) hv.1]
  rfl
theorem lv_m {d : Nat} {k a e : Fn7} {w : Int32} (hw : w = 0) (h : ¬ d ≤ 1) : mR w (sS (d - 1) k a e) = leaveP (sS d k a e) := by
  have q := le_ok (fk := k) (fl := a) (fz := e) h
  rw [pR_0] at q
  rw [mR_0 hw]
  cases r : leaveP (sS d k a e) with
  | none => rw [r] at q; cases q
  | some y => rw [r] at q; cases q; rfl
theorem mS_fail {α : Type} {w w' e x : Int32} {s : α} (hx : w' = failW x w) (h : ¬ x = 0) : mS7 w' e s = gP none := by
  unfold mS7
  rw [if_neg (by rw [hx]; exact failW_n h)]; rfl
theorem op_hint {w e : Int32} {V : Vs7} {s : Ss7} {u : Us7} {p : Fn7} {h : Int32} {ps mv : Bool} {t : Nat} {o : Option (Vs7 × Int32 × Bool)} (he : e = 0) (hx : mR w (V, h, ps) = (if t < 2 then none else o)) : mS7 w e (⟨V, s, u, p, h, ps, mv⟩ : Ms7) = (if t < 2 then gP none else gP (o.map (fun q => (⟨q.1, s, u, p, q.2.1, q.2.2, mv⟩ : Ms7)))) := by
  by_cases c : t < 2
  · rw [if_pos c] at hx ⊢
    exact mS_map (fun q => (⟨q.1, s, u, p, q.2.1, q.2.2, mv⟩ : Ms7)) he hx
  · rw [if_neg c] at hx ⊢
    exact mS_map (fun q => (⟨q.1, s, u, p, q.2.1, q.2.2, mv⟩ : Ms7)) he hx
theorem op_mv {w e f m : Int32} {V : Vs7} {s : Ss7} {u : Us7} {p : Fn7} {h : Int32} {o : Option (Vs7 × Us7)} (he : e = 0) (hx : mR w (V, u) = o) (hz : w = 0 → f = 0 ∧ m = 1) : mS7 w e (⟨V, s, u, p, h, decide (f = 0), decide (m ≠ 0)⟩ : Ms7) = gP (o.map (fun q => (⟨q.1, s, q.2, p, h, true, true⟩ : Ms7))) := by
  by_cases c : w = 0
  · rw [(hz c).1, (hz c).2]
    exact mS_map (fun q => (⟨q.1, s, q.2, p, h, true, true⟩ : Ms7)) he hx
  · rw [mR_no c] at hx
    rw [← hx]
    unfold mS7
    rw [if_neg c]; rfl
theorem op_end {w e f : Int32} {V : Vs7} {s : Ss7} {u : Us7} {p : Fn7} {h : Int32} {b mv : Bool} (hx : mR w V = (if b = false then none else some (0, zero7))) (hz : w = 0 → f = 0 ∧ e = 1) : mS7 w e (⟨V, s, u, p, h, decide (f = 0), mv⟩ : Ms7) = (if b = false then gP none else some (1, (⟨(0, zero7), s, u, p, h, true, mv⟩ : Ms7))) := by
  by_cases c : w = 0
  · rw [mR_0 c] at hx
    cases b with
    | false => cases hx
    | true =>
      have hV : V = (0, zero7) := Option.some.inj hx
      rw [(hz c).1, (hz c).2, hV]
      unfold mS7
      rw [if_pos c]; rfl
  · rw [mR_no c] at hx
    unfold mS7
    rw [if_neg c]
    cases b with
    | false => rfl
    | true => cases hx
def longP (C : Nat) (v : Vs7) (u : Us7) (p : Fn7) (mv : Bool) : Option (Vs7 × Us7 × Fn7) := if isDr C = true then (drawP C v u mv).map (fun q => (q.1, q.2, p)) else (reckP C v p).map (fun q => (q.1, u, q.2))
theorem lg_dr {C : Nat} {v : Vs7} {u : Us7} {p : Fn7} {mv : Bool} (h : isDr C = true) : longP C v u p mv = (drawP C v u mv).map (fun q => (q.1, q.2, p)) := if_pos h
theorem lg_re {C : Nat} {v : Vs7} {u : Us7} {p : Fn7} {mv : Bool} (h : ¬ isDr C = true) : longP C v u p mv = (reckP C v p).map (fun q => (q.1, u, q.2)) := if_neg h
theorem lg_p {w : Int32} {V : Vs7} {u : Us7} {p : Fn7} {o : Option (Vs7 × Fn7)} (h : (mR w V).map (fun q => (q, p)) = o) : mR w (V, u, p) = o.map (fun q => (q.1, u, q.2)) := by
  rw [← h]
  unfold mR
  split <;> rfl
theorem lg_q {w : Int32} {V : Vs7} {u : Us7} {p : Fn7} {o : Option (Vs7 × Fn7)} (h : (mR w p).map (fun q => (V, q)) = o) : mR w (V, u, p) = o.map (fun q => (q.1, u, q.2)) := by
  rw [← h]
  unfold mR
  split <;> rfl
theorem lg_nd {c : Nat} (h : ¬ (c = 34 ∨ c = 35 ∨ c = 36 ∨ c = 37)) : ¬ isDr (256 + c) = true := fun z => by have := isDr_ok z; omega
theorem lg_0 {c : Nat} (h : ¬ (3 ≤ c ∧ c ≤ 37)) : takN (256 + c) = 0 := by
  unfold takN
  rw [if_neg (by omega), if_neg (by omega), if_neg (by omega)]
def numV (T : Tr7) (c : Nat) (s : Ss7) : Option (Int32 × Ss7) := if hasP s (nI (behP c)) = true then some (valP c (numB T s (behP c)), passN s (behP c)) else none
/-! numbers behind a byte -/
def NU (T : Tr7) (s0 : Ss7) (k : Nat) (w : Int32) (s : Ss7) (g : Int32) : Prop := Ch7 s0 k w s ∧ (w = 0 → g = numB T s0 k)
theorem nu_step {T : Tr7} {s0 s s' : Ss7} {p z k : Nat} {w w' r g g' : Int32} (hv : NV s0 p z) (h : NU T s0 k w s g) (hx : Tel w w' (r, s') (nxP T s)) (e : g <<< (8 &&& 31) ||| r = g') (hk : k ≤ 60000) : NU T s0 (k + 1) w' s' g' := by
  have q := ch_next hv h.1 hx hk
  refine ⟨q.1, fun y => ?_⟩
  have := q.2 y
  rw [← e, h.2 this.1, this.2]; rfl
theorem nu_byte {T : Tr7} {s0 s s' : Ss7} {p z k : Nat} {w w' r g : Int32} (hv : NV s0 p z) (h : NU T s0 k w s g) (hx : Tel w w' (r, s') (nxP T s)) (hk : k ≤ 60000) (y : w' = 0) : w = 0 ∧ ∃ b : Nat, b ≤ 255 ∧ r = nI b := by
  have q := (ch_next hv h.1 hx hk).2 y
  exact ⟨q.1, _, (cur_byte T (passN s0 k)).1, q.2.trans (cur_byte T (passN s0 k)).2⟩
theorem nu_fin {T : Tr7} {s0 s : Ss7} {c k : Nat} {w r g : Int32} (hb : behP c = k) (h : NU T s0 k w s g) (hval : w = 0 → r = valP c g) : mR w (r, s) = numV T c s0 := by
  unfold numV
  rw [hb]
  by_cases y : w = 0
  · have q := h.1.1 y
    rw [mR_0 y, if_pos q.1, hval y, h.2 y, q.2]
  · rw [mR_no y, h.1.2 y, if_neg (by decide)]
theorem beh_0 {c : Nat} (h : ¬ c = 28) (h2 : c < 247) : behP c = 0 := by
  unfold behP
  rw [if_neg h, if_neg (by omega), if_pos h2]
theorem beh_1 {c : Nat} (h : ¬ c < 247) (h2 : c < 255) : behP c = 1 := by
  unfold behP
  rw [if_neg (by omega), if_neg (by omega), if_neg h]
theorem val_0 {c : Nat} {x : Int32} (h : ¬ c = 28) (h2 : c < 247) : (nI c - 139) * 65536 = valP c x := by
  unfold valP
  rw [if_neg (by omega), if_neg h, if_pos h2, Int32.mul_comm]
theorem or_0 (x : Int32) : (0 : Int32) <<< (8 &&& 31) ||| x = x := by
  rw [show (0 : Int32) <<< (8 &&& 31) = 0 by decide]
  simp
theorem val_1 {c : Nat} {r : Int32} (h : ¬ c < 247) (h2 : c < 251) : ((256 : Int32) * (nI c - (247 : Int32)) + r + (108 : Int32)) * (65536 : Int32) = valP c ((0 : Int32) <<< (8 &&& 31) ||| r) := by
  unfold valP
  rw [or_0, if_neg (by omega), if_neg (by omega), if_neg h, if_pos h2, Int32.mul_comm]
theorem val_2 {c : Nat} {r : Int32} (h : ¬ c < 251) (h2 : c < 255) : ((-256 : Int32) * (nI c - (251 : Int32)) - r - (108 : Int32)) * (65536 : Int32) = valP c ((0 : Int32) <<< (8 &&& 31) ||| r) := by
  unfold valP
  rw [or_0, if_neg (by omega), if_neg (by omega), if_neg (by omega), if_neg h, Int32.mul_comm]
theorem or_nI {a b : Nat} (ha : a ≤ 255) (hb : b ≤ 255) : nI a <<< (8 &&& 31) ||| nI b = nI (a * 256 + b) := by
  rw [pk_shlN _ 8 (by decide) (by omega)]
  apply Int32.toBitVec_inj.mp
  apply BitVec.eq_of_toNat_eq
  rw [Int32.toBitVec_or, BitVec.toNat_or, pk_tn (by omega), pk_tn (by omega), pk_tn (by omega)]
  have q := Nat.shiftLeft_add_eq_or_of_lt (i := 8) (b := b) (by omega) a
  rw [Nat.shiftLeft_eq] at q
  exact q.symm
theorem short_nI {n : Nat} (h : n < 65536) : (nI n).toInt16.toInt32 * 65536 = nI (n * 65536) := by
  apply Int32.toInt_inj.mp
  rw [Int32.toInt_mul, Int16.toInt_toInt32, Int32.toInt_toInt16, nI_int (by omega), show (65536 : Int32).toInt = 65536 by decide]
  show _ = (Int32.ofNat (n * 65536)).toInt
  rw [Int32.toInt_ofNat']
  have e : ((2 ^ 32 : Nat) : Int) = 4294967296 := by decide
  have e16 : ((2 ^ 16 : Nat) : Int) = 65536 := by decide
  have key : ((n : Int).bmod (2 ^ 16) * 65536) % ((2 ^ 32 : Nat) : Int) = ((n * 65536 : Nat) : Int) % ((2 ^ 32 : Nat) : Int) := by
    rw [e, Int.bmod_def, e16]
    split <;> omega
  rw [← Int.emod_bmod, key, Int.emod_bmod]
theorem val_28 {a b : Nat} (ha : a ≤ 255) (hb : b ≤ 255) : ((256 : Int32) * nI a + nI b).toInt16.toInt32 * (65536 : Int32) = valP 28 (((0 : Int32) <<< (8 &&& 31) ||| nI a) <<< (8 &&& 31) ||| nI b) := by
  show _ = (((0 : Int32) <<< (8 &&& 31) ||| nI a) <<< (8 &&& 31) ||| nI b) <<< (16 &&& 31)
  rw [or_0, or_nI ha hb, pk_shlN _ 16 (by decide) (by omega), show (256 : Int32) = nI 256 from rfl, pk_mul, nI_add, short_nI (by omega), Nat.mul_comm 256 a]
theorem val_28r {T : Tr7} {s0 s s' s'' : Ss7} {p z : Nat} {w w' w'' r r2 g : Int32} (hv : NV s0 p z) (h : NU T s0 0 w s g) (hx : Tel w w' (r, s') (nxP T s)) (h1 : NU T s0 1 w' s' ((0 : Int32) <<< (8 &&& 31) ||| r)) (hx2 : Tel w' w'' (r2, s'') (nxP T s')) (y : w'' = 0) : ((256 : Int32) * r + r2).toInt16.toInt32 * (65536 : Int32) = valP 28 (((0 : Int32) <<< (8 &&& 31) ||| r) <<< (8 &&& 31) ||| r2) := by
  obtain ⟨y1, b, hb, eb⟩ := nu_byte hv h1 hx2 (by omega) y
  obtain ⟨-, a, ha, ea⟩ := nu_byte hv h hx (by omega) y1
  rw [ea, eb]
  exact val_28 ha hb
/-! steps and runs of the reference -/
theorem nx_inv {T : Tr7} {s s' : Ss7} {w r : Int32} (h : mR w (r, s') = nxP T s) (c : w = 0) : hasP s 1 = true ∧ r = curP T s ∧ s' = passP s 1 := by
  rw [mR_0 c, nxP] at h
  by_cases q : hasP s 1 = true
  · rw [if_pos q] at h
    have h := Option.some.inj h
    exact ⟨q, congrArg Prod.fst h, congrArg Prod.snd h⟩
  · rw [if_neg q] at h; cases h
theorem nx_none {T : Tr7} {s s' : Ss7} {w r : Int32} (h : mR w (r, s') = nxP T s) (c : ¬ w = 0) : hasP s 1 = false := by
  rw [mR_no c, nxP] at h
  cases q : hasP s 1 with
  | false => rfl
  | true => rw [q, if_pos rfl] at h; cases h
theorem sp_work {T : Tr7} {sp : Nat} {m : Ms7} (h : 20000 ≤ sp) : stepP T sp m = gP none := by
  rw [stepP, rd_work h]; rfl
theorem sp_short {T : Tr7} {sp : Nat} {m : Ms7} {w e : Int32} {X : Ms7} (c : ¬ w = 0) (h : hasP m.2.1 1 = false) : mS7 w e X = stepP T sp m := by
  rw [stepP, readP, if_pos h]
  unfold mS7
  rw [if_neg c]; rfl
theorem sp_go {T : Tr7} {sp bb : Nat} (m : Ms7) {s' : Ss7} (hs : ¬ 20000 ≤ sp) (hh : hasP m.2.1 1 = true) (eb : curN T m.2.1 = bb) (es : s' = passP m.2.1 1) (hb : ¬ bb = 12) : stepP T sp m = perfP T bb (⟨m.1, s', m.2.2.1, m.2.2.2.1, m.2.2.2.2.1, m.2.2.2.2.2.1, m.2.2.2.2.2.2⟩ : Ms7) := by
  rw [stepP, readP, if_neg (by rw [hh]; decide), if_neg hs, if_neg (by rw [eb]; exact hb), eb, es]; rfl
theorem sp_e0 {T : Tr7} {sp bb : Nat} (m : Ms7) {s' : Ss7} {w e : Int32} {X : Ms7} (hs : ¬ 20000 ≤ sp) (hh : hasP m.2.1 1 = true) (eb : curN T m.2.1 = bb) (es : s' = passP m.2.1 1) (hb : bb = 12) (c : ¬ w = 0) (h : hasP s' 1 = false) : mS7 w e X = stepP T sp m := by
  rw [stepP, readP, if_neg (by rw [hh]; decide), if_neg hs, if_pos (by rw [eb]; exact hb), if_pos (by rw [← es]; exact h)]
  unfold mS7
  rw [if_neg c]; rfl
theorem sp_e1 {T : Tr7} {sp bb bc : Nat} (m : Ms7) {s' s'' : Ss7} (hs : ¬ 20000 ≤ sp) (hh : hasP m.2.1 1 = true) (eb : curN T m.2.1 = bb) (es : s' = passP m.2.1 1) (hb : bb = 12) (hh2 : hasP s' 1 = true) (ec : curN T s' = bc) (es2 : s'' = passP s' 1) : stepP T sp m = perfP T (256 + bc) (⟨m.1, s'', m.2.2.1, m.2.2.2.1, m.2.2.2.2.1, m.2.2.2.2.2.1, m.2.2.2.2.2.2⟩ : Ms7) := by
  rw [stepP, readP, if_neg (by rw [hh]; decide), if_neg hs, if_pos (by rw [eb]; exact hb), if_neg (by rw [← es, hh2]; decide), ← es, ec, es2]; rfl
theorem num_m {T : Tr7} {c : Nat} {V V' : Vs7} {s1 s2 : Ss7} {w2 w3 r : Int32} (hn : mR w2 (r, s2) = numV T c s1) (hp : Tel w2 w3 V' (pushP V r)) : mR w3 (V', s2) = numP T c V s1 := by
  unfold numV at hn
  unfold numP
  by_cases y : w2 = 0
  · rw [mR_0 y] at hn
    cases q : hasP s1 (nI (behP c)) with
    | false => rw [q, if_neg (by decide)] at hn; cases hn
    | true =>
      rw [q, if_pos rfl] at hn
      have hn := Option.some.inj hn
      have e1 : r = valP c (numB T s1 (behP c)) := congrArg Prod.fst hn
      have e2 : s2 = passN s1 (behP c) := congrArg Prod.snd hn
      rw [if_neg (by decide), ← e1, ← hp.1 y, e2]
      unfold mR
      split <;> rfl
  · rw [mR_no y] at hn
    cases q : hasP s1 (nI (behP c)) with
    | false => rw [if_pos rfl, mR_no (hp.2 y)]
    | true => rw [q, if_pos rfl] at hn; cases hn
theorem lg_step {T : Tr7} {w e : Int32} {V V' : Vs7} {s : Ss7} {u u' : Us7} {p p' : Fn7} {h : Int32} {ps mv : Bool} {bc : Nat} (he : e = 0) (hc : bc ≤ 255) (hx : mR w (V', u', p') = longP (256 + bc) V u p mv) : mS7 w e (⟨V', s, u', p', h, ps, mv⟩ : Ms7) = perfP T (256 + bc) (⟨V, s, u, p, h, ps, mv⟩ : Ms7) := by
  by_cases q : isDr (256 + bc) = true
  · rw [pf_draw (by omega) q]
    rw [lg_dr q] at hx
    have k := mS_map (e := e) (fun q : Vs7 × Us7 × Fn7 => (⟨q.1, s, q.2.1, q.2.2, h, ps, mv⟩ : Ms7)) he hx
    rw [Option.map_map] at k
    exact k
  · rw [pf_els (by omega) q (by omega)]
    rw [lg_re q] at hx
    have k := mS_map (e := e) (fun q : Vs7 × Us7 × Fn7 => (⟨q.1, s, q.2.1, q.2.2, h, ps, mv⟩ : Ms7)) he hx
    rw [Option.map_map] at k
    exact k
/-! PURE, for the reference's face. -/
theorem cp_step {n k kk : Nat} {gs gr gsh : Nat → Int32} (h : (∀ j, j < k → gs (16384 * kk + j) = gr j) ∧ ∀ i, (i < 16384 * kk ∨ 16384 * kk + 16384 ≤ i) → gs i = gsh i) (hk : k < n) (hn : n ≤ 16384) : (∀ j, j < k + 1 → upd gs (16384 * kk + k) (gr k) (16384 * kk + j) = gr j) ∧ ∀ i, (i < 16384 * kk ∨ 16384 * kk + 16384 ≤ i) → upd gs (16384 * kk + k) (gr k) i = gsh i := by
  constructor
  · intro j hj
    by_cases q : j = k
    · subst q; exact pk_us
    · rw [pk_un (by omega)]; exact h.1 j (by omega)
  · intro i hi
    rw [pk_un (by omega)]
    exact h.2 i hi
theorem VSH_take {gs gm gw gs' : Nat → Int32} {kk n : Nat} {b : Nat → Nat} {wv : Int32} {gr : Nat → Int32} (h : VSH gs gm gw) (hkk : kk < 3) (hn : n ≤ 16384) (hb : ∀ j, b j ≤ 255) (hs : shOk n b) (hr : rowOk n gr b) (h1 : ∀ j, j < n → gs' (16384 * kk + j) = gr j) (h2 : ∀ i, (i < 16384 * kk ∨ 16384 * kk + 16384 ≤ i) → gs' i = gs i) (hw : 0 < mS b → wv = nI (b 2)) : VSH gs' (upd gm kk (nI (mS b))) (upd gw kk wv) := by
  intro q hq
  by_cases e : q = kk
  · subst e
    exact Or.inr ⟨n, b, hn, hb, hs, pk_us, fun z => by rw [pk_us]; exact hw z, fun j hj => by rw [h1 j hj]; exact hr j hj⟩
  · rcases h q hq with h | ⟨n', b', a1, a2, a3, a4, a5, a6⟩
    · exact Or.inl (by rw [pk_un e]; exact h)
    · exact Or.inr ⟨n', b', a1, a2, a3, by rw [pk_un e]; exact a4, fun z => by rw [pk_un e]; exact a5 z, fun j hj => by rw [h2 _ (by omega)]; exact a6 j hj⟩
theorem VSH_0 (gs gw : Nat → Int32) : VSH gs (fun _ => 0) gw := fun _ _ => Or.inl rfl
theorem pk_m0 (x : Int32) : x - 0 = x := by simp
theorem pk_s2 {n j : Nat} (h : j ≤ n) : nI n - nI (n - j) = nI j := by
  rw [pk_sub (by omega)]
  congr 1
  omega
theorem isK_ok {k : Int32} (h1 : ¬ k < 0) (h2 : k ≤ 2) : ¬ isK k = 0 := by
  unfold isK
  rw [if_neg h1, if_neg (Int32.not_lt.mpr h2)]
  decide
theorem meas_run {w w' : Int32} {s s' fu : Nat} (h0 : w = 0) (hfu : (if w = 0 then 1 else 0) + 2 * (20001 - s) < fu + 1) (hz : s + 1 ≤ s' ∨ (¬ w' = 0 ∧ s ≤ s')) (hs : s ≤ 20000) : (if w' = 0 then 1 else 0) + 2 * (20001 - s') < fu := by
  rw [if_pos h0] at hfu
  by_cases q : w' = 0
  · rw [if_pos q]
    have := hz.resolve_right (fun z => z.1 q)
    omega
  · rw [if_neg q]
    omega
