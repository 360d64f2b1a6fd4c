/-! PURE, for p7: what the rows of drawing and reckoning need. -/
def zB7 {α : Type} (r : Int32) (o : Option α) : Option α := if r = 0 then none else o
theorem zB_1 {α : Type} (o : Option α) : zB7 1 o = o := if_neg (by decide)
theorem dr_step {c : Nat → Cmd} {s i k k' : Nat} {rm r : Int32} {U U' : Us7} {X : Option Us7} (h : zB7 rm (drawAll U (cmdsL c s i k)) = X) (h0 : ¬ rm = 0) (hk : k = k' + 1) (hx : zR r U' = cmdP U (c i)) : zB7 r (drawAll U' (cmdsL c s (i + s) k')) = X := by
  rw [← h, hk]
  show _ = zB7 rm ((cmdP U (c i)).bind (fun w => drawAll w (cmdsL c s (i + s) k')))
  rw [← hx]
  unfold zB7 zR
  rw [if_neg h0]
  by_cases q : r = 0
  · rw [if_pos q, if_pos q]; rfl
  · rw [if_neg q, if_neg q]; rfl
theorem dr_stepC {c : Nat → Cmd} {q : Cmd} {s i k k' : Nat} {rm r : Int32} {U U' : Us7} {X : Option Us7} (h : zB7 rm (drawAll U (cmdsL c s i k)) = X) (h0 : ¬ rm = 0) (hc : c i = q) (hk : k = k' + 1) (hx : zR r U' = cmdP U q) : zB7 r (drawAll U' (cmdsL c s (i + s) k')) = X := dr_step h h0 hk (by rw [hc]; exact hx)
theorem dr_end {c : Nat → Cmd} {s i k : Nat} {rm : Int32} {U : Us7} {X : Option Us7} (h0 : rm = 0 ∨ k = 0) (h : zB7 rm (drawAll U (cmdsL c s i k)) = X) : zR rm U = X := by
  rw [← h]
  unfold zB7 zR
  by_cases q : rm = 0
  · rw [if_pos q, if_pos q]
  · rw [if_neg q, if_neg q, h0.resolve_left q]; rfl
theorem tur_0 {f : Fn7} {zb : Bool} {i : Nat} {ac : Int32} (h : ac = 0 ↔ ¬ decide (i % 2 = 0) = zb) (c : ac = 0) : turC f zb i = lineC 0 (f i) := if_neg (h.mp c)
theorem tur_1 {f : Fn7} {zb : Bool} {i : Nat} {ac : Int32} (h : ac = 0 ↔ ¬ decide (i % 2 = 0) = zb) (c : ¬ ac = 0) : turC f zb i = lineC (f i) 0 := if_pos (Classical.byContradiction (fun z => c (h.mpr z)))
theorem wav_0 {f : Fn7} {zb : Bool} {i n : Nat} {ac mo : Int32} (h : ac = 0 ↔ ¬ decide (i % 8 = 0) = zb) (c : ac = 0) (hm : (if i + 5 = n then f (i + 4) else 0) = mo) : wavC f n zb i = curveC 0 (f i) (f (i + 1)) (f (i + 2)) (f (i + 3)) mo := by
  unfold wavC
  rw [if_neg (h.mp c), hm]
theorem wav_1 {f : Fn7} {zb : Bool} {i n : Nat} {ac mo : Int32} (h : ac = 0 ↔ ¬ decide (i % 8 = 0) = zb) (c : ¬ ac = 0) (hm : (if i + 5 = n then f (i + 4) else 0) = mo) : wavC f n zb i = curveC (f i) 0 (f (i + 1)) (f (i + 2)) mo (f (i + 3)) := by
  unfold wavC
  rw [if_pos (Classical.byContradiction (fun z => c (h.mpr z))), hm]
theorem ac_ini {z : Int32} {zb : Bool} {p : Nat} (h : z = (if zb = true then 1 else 0)) : z = 0 ↔ ¬ decide (0 % p = 0) = zb := by
  subst h
  rw [Nat.zero_mod]
  cases zb <;> decide
theorem par2 (i : Nat) : decide ((i + 1) % 2 = 0) = !decide (i % 2 = 0) := by
  rw [← decide_not]
  exact decide_eq_decide.mpr (by omega)
theorem par8 {i : Nat} (h4 : i % 4 = 0) : decide ((i + 4) % 8 = 0) = !decide (i % 8 = 0) := by
  rw [← decide_not]
  exact decide_eq_decide.mpr (by omega)
theorem ac_2a {ac : Int32} {zb : Bool} {i : Nat} (h : ac = 0 ↔ ¬ decide (i % 2 = 0) = zb) (c : ac = 0) : (1 : Int32) = 0 ↔ ¬ decide ((i + 1) % 2 = 0) = zb := by
  have q := h.mp c
  rw [par2]
  revert q
  cases decide (i % 2 = 0) <;> cases zb <;> decide
theorem ac_2b {ac : Int32} {zb : Bool} {i : Nat} (h : ac = 0 ↔ ¬ decide (i % 2 = 0) = zb) (c : ¬ ac = 0) : (0 : Int32) = 0 ↔ ¬ decide ((i + 1) % 2 = 0) = zb := by
  have q : decide (i % 2 = 0) = zb := Classical.byContradiction (fun z => c (h.mpr z))
  rw [par2, q]
  cases zb <;> decide
theorem ac_8a {ac : Int32} {zb : Bool} {i : Nat} (h : ac = 0 ↔ ¬ decide (i % 8 = 0) = zb) (c : ac = 0) (h4 : i % 4 = 0) : (1 : Int32) = 0 ↔ ¬ decide ((i + 4) % 8 = 0) = zb := by
  have q := h.mp c
  rw [par8 h4]
  revert q
  cases decide (i % 8 = 0) <;> cases zb <;> decide
theorem ac_8b {ac : Int32} {zb : Bool} {i : Nat} (h : ac = 0 ↔ ¬ decide (i % 8 = 0) = zb) (c : ¬ ac = 0) (h4 : i % 4 = 0) : (0 : Int32) = 0 ↔ ¬ decide ((i + 4) % 8 = 0) = zb := by
  have q : decide (i % 8 = 0) = zb := Classical.byContradiction (fun z => c (h.mpr z))
  rw [par8 h4, q]
  cases zb <;> decide
theorem acr_c {f : Fn7} {i : Nat} {mo : Int32} (hm : (if i = 1 then f 0 else 0) = mo) : acrC f i = curveC (f i) mo (f (i + 1)) (f (i + 2)) (f (i + 3)) 0 := by
  unfold acrC
  rw [hm]
theorem upr_c {f : Fn7} {i : Nat} {mo : Int32} (hm : (if i = 1 then f 0 else 0) = mo) : uprC f i = curveC mo (f i) (f (i + 1)) (f (i + 2)) 0 (f (i + 3)) := by
  unfold uprC
  rw [hm]
theorem dl_24 {n : Nat} {f : Fn7} : drawL 24 n f = cmdsL (sixC f) 6 0 ((n - 2) / 6) ++ [linC f (n - 2)] := rfl
theorem dl_25 {n : Nat} {f : Fn7} : drawL 25 n f = cmdsL (linC f) 2 0 ((n - 6) / 2) ++ [sixC f (n - 6)] := rfl
theorem dl_290 {n : Nat} {f : Fn7} : drawL 290 n f = [curveC (f 0) 0 (f 1) (f 2) (f 3) 0, curveC (f 4) 0 (f 5) (-(f 2)) (f 6) 0] := rfl
theorem dl_292 {n : Nat} {f : Fn7} : drawL 292 n f = [curveC (f 0) (f 1) (f 2) (f 3) (f 4) 0, curveC (f 5) 0 (f 6) (f 7) (f 8) (-(f 1 + f 3 + f 7))] := rfl
theorem dl_293a {n : Nat} {f : Fn7} (h : ¬ lg_cmp (absL (0 + f 0 + f 2 + f 4 + f 6 + f 8)) (absL (0 + f 1 + f 3 + f 5 + f 7 + f 9)) ≤ 0) : drawL 293 n f = [sixC f 0, curveC (f 6) (f 7) (f 8) (f 9) (f 10) (-(0 + f 1 + f 3 + f 5 + f 7 + f 9))] := by
  have q := lcmp_gt.mp (Int32.not_le.mp h)
  show fleE f _ _ = _
  unfold fleE
  rw [if_pos q, if_pos q]
theorem dl_293b {n : Nat} {f : Fn7} (h : lg_cmp (absL (0 + f 0 + f 2 + f 4 + f 6 + f 8)) (absL (0 + f 1 + f 3 + f 5 + f 7 + f 9)) ≤ 0) : drawL 293 n f = [sixC f 0, curveC (f 6) (f 7) (f 8) (f 9) (-(0 + f 0 + f 2 + f 4 + f 6 + f 8)) (f 10)] := by
  have q : ¬ absL (0 + f 1 + f 3 + f 5 + f 7 + f 9) < absL (0 + f 0 + f 2 + f 4 + f 6 + f 8) := fun z => Int32.not_lt.mpr h (lcmp_gt.mpr z)
  show fleE f _ _ = _
  unfold fleE
  rw [if_neg q, if_neg q]
theorem dl_31 {c n : Nat} {f : Fn7} (h : c = 31) : drawL c n f = cmdsL (wavC f n true) 4 0 (n / 4) := by subst h; rfl
theorem dl_30 {c n : Nat} {f : Fn7} (h : c = 30) : drawL c n f = cmdsL (wavC f n false) 4 0 (n / 4) := by subst h; rfl
theorem dr2_no {L : List Cmd} {a b : Cmd} {U X : Us7} (e : L = [a, b]) (h : cmdP U a = none) : zR 0 X = drawAll U L := by
  subst e
  rw [zR_0]
  show none = (cmdP U a).bind _
  rw [h]; rfl
theorem dr2_0 {L : List Cmd} {a b : Cmd} {U U1 X : Us7} (e : L = [a, b]) (h : cmdP U a = some U1) (h2 : cmdP U1 b = none) : zR 0 X = drawAll U L := by
  subst e
  rw [zR_0]
  show none = (cmdP U a).bind (fun w => (cmdP w b).bind (fun w => drawAll w []))
  rw [h]
  show none = (cmdP U1 b).bind _
  rw [h2]; rfl
theorem dr2_1 {L : List Cmd} {a b : Cmd} {U U1 U2 : Us7} (e : L = [a, b]) (h : cmdP U a = some U1) (h2 : cmdP U1 b = some U2) : zR 1 U2 = drawAll U L := by
  subst e
  rw [zR_1]
  show some U2 = (cmdP U a).bind (fun w => (cmdP w b).bind (fun w => drawAll w []))
  rw [h]
  show some U2 = (cmdP U1 b).bind _
  rw [h2]; rfl
theorem da_app (U : Us7) (L2 : List Cmd) : ∀ (L1 : List Cmd), drawAll U (L1 ++ L2) = (drawAll U L1).bind (fun w => drawAll w L2) := by
  intro L1
  induction L1 generalizing U with
  | nil => rfl
  | cons a L1 ih =>
    show (cmdP U a).bind (fun w => drawAll w (L1 ++ L2)) = ((cmdP U a).bind (fun w => drawAll w L1)).bind _
    cases cmdP U a with
    | none => rfl
    | some w => exact ih w
theorem da_no {L L1 : List Cmd} {q : Cmd} {U X : Us7} (e : L = L1 ++ [q]) (h : drawAll U L1 = none) : zR 0 X = drawAll U L := by
  rw [e, da_app, h, zR_0]; rfl
theorem da_0 {L L1 L2 : List Cmd} {q : Cmd} {U U1 X : Us7} (e : L = L1 ++ [q]) (h : drawAll U L1 = some U1) (e2 : L2 = [q]) (h2 : drawAll U1 L2 = none) : zR 0 X = drawAll U L := by
  rw [e, da_app, h, ← e2, zR_0]
  exact h2.symm
theorem da_1 {L L1 L2 : List Cmd} {q : Cmd} {U U1 U2 : Us7} (e : L = L1 ++ [q]) (h : drawAll U L1 = some U1) (e2 : L2 = [q]) (h2 : drawAll U1 L2 = some U2) : zR 1 U2 = drawAll U L := by
  rw [e, da_app, h, ← e2, zR_1]
  exact h2.symm
theorem takD_ok {c n : Nat} (h : takD c n = true) : (c = 24 → 8 ≤ n ∧ n % 6 = 2) ∧ (c = 25 → 8 ≤ n ∧ n % 2 = 0) ∧ (c = 290 → n = 7) ∧ (c = 291 → n = 13) ∧ (c = 292 → n = 9) ∧ (c = 293 → n = 11) := by
  refine ⟨?_, ?_, ?_, ?_, ?_, ?_⟩ <;> (intro e; subst e; exact of_decide_eq_true h)
theorem isDr_ok {c : Nat} (h : isDr c = true) : c = 5 ∨ c = 6 ∨ c = 7 ∨ c = 8 ∨ c = 24 ∨ c = 25 ∨ c = 26 ∨ c = 27 ∨ c = 30 ∨ c = 31 ∨ c = 290 ∨ c = 291 ∨ c = 292 ∨ c = 293 := of_decide_eq_true h
/-! reckoning -/
theorem takN_le (c : Nat) : takN c ≤ 4 := by
  unfold takN
  split
  · decide
  · split
    · decide
    · split <;> decide
theorem iMax_nn (x : Int32) : ¬ iMax x 0 < 0 := by
  unfold iMax
  split
  · exact Int32.not_lt.mpr (by assumption)
  · decide
theorem sq_l {j : Nat} (h : j < 2 ^ 31) : (nI j).toInt64 * 65536 = lN (j * 65536) := by
  rw [nI_l h, show (65536 : Int64) = lN 65536 from rfl, lN_mul]
theorem fm_lt {x : Int32} {k : Nat} (h : 0 < k) : fmN x k < k := by
  unfold fmN
  have := Int.emod_lt_of_pos x.toInt (show (0 : Int) < (k : Int) by omega)
  have := Int.emod_nonneg x.toInt (show (k : Int) ≠ 0 by omega)
  omega
theorem nI_int {k : Nat} (h : k < 2 ^ 31) : (nI k).toInt = k := Int32.toInt_ofNat_of_lt h
theorem int_nI {x : Int32} {k : Nat} (h : x.toInt = k) : x = nI k := by
  have h1 := Int32.toInt_lt x
  apply Int32.toInt_inj.mp
  rw [nI_int (by omega), h]
theorem i32_msb (x : Int32) : x < 0 ↔ x.toBitVec.msb = true := by
  rw [Int32.lt_iff_toInt_lt, BitVec.msb_eq_toInt, decide_eq_true_iff]
  exact Iff.rfl
theorem i32_xor (x y : Int32) : x ^^^ y < 0 ↔ (¬ (x < 0 ↔ y < 0)) := by
  rw [i32_msb, i32_msb, i32_msb, Int32.toBitVec_xor, BitVec.msb_xor]
  cases x.toBitVec.msb <;> cases y.toBitVec.msb <;> simp
theorem fm_tmod {x : Int32} {k : Nat} (h : 0 < k) : ((fmN x k : Nat) : Int) = x.toInt % k := by
  unfold fmN
  have := Int.emod_nonneg x.toInt (show (k : Int) ≠ 0 by omega)
  omega
theorem fm_same {x : Int32} {k : Nat} (h0 : 0 < k) (h1 : k < 2 ^ 31) (h : x ^^^ nI k ≥ 0) : x - x / nI k * nI k = nI (fmN x k) := by
  apply int_nI
  rw [j32_rem, nI_int h1, fm_tmod h0]
  have hx : ¬ x < 0 := fun z => by
    have : x ^^^ nI k < 0 := (i32_xor _ _).mpr (fun q => absurd (q.mp z) (nI_pos h1))
    exact Int32.not_lt.mpr h this
  have hx2 : 0 ≤ x.toInt := by
    have := Int32.not_lt.mp hx
    rw [Int32.le_iff_toInt_le] at this
    exact this
  exact Int.tmod_eq_emod_of_nonneg hx2
theorem fm_zero {x : Int32} {k : Nat} (h0 : 0 < k) (h1 : k < 2 ^ 31) (h : x - x / nI k * nI k = 0) : x - x / nI k * nI k = nI (fmN x k) := by
  have q := congrArg Int32.toInt h
  rw [j32_rem, nI_int h1] at q
  have q2 : x.toInt.tmod k = 0 := q
  apply int_nI
  rw [j32_rem, nI_int h1, fm_tmod h0, q2]
  exact (Int.emod_eq_zero_of_dvd (Int.dvd_of_tmod_eq_zero q2)).symm
theorem fm_add {x : Int32} {k : Nat} (h0 : 0 < k) (h1 : k < 2 ^ 31) (h : ¬ x ^^^ nI k ≥ 0) (hz : ¬ x - x / nI k * nI k = 0) : x - x / nI k * nI k + nI k = nI (fmN x k) := by
  have hx : x < 0 := Classical.byContradiction (fun z => by
    have : ¬ x ^^^ nI k < 0 := fun y => (i32_xor _ _).mp y ⟨fun a => absurd a z, fun a => absurd a (nI_pos h1)⟩
    exact h (Int32.not_lt.mp this))
  have hx2 : x.toInt < 0 := by
    rw [Int32.lt_iff_toInt_lt] at hx
    exact hx
  have e := j32_rem x (nI k)
  rw [nI_int h1] at e
  have hz2 : ¬ x.toInt.tmod k = 0 := fun z => hz (Int32.toInt_inj.mp (e.trans z))
  apply int_nI
  have hl := Int.emod_lt_of_pos x.toInt (show (0 : Int) < (k : Int) by omega)
  have hn := Int.emod_nonneg x.toInt (show (k : Int) ≠ 0 by omega)
  have ht : x.toInt.tmod k = x.toInt % k - k := by
    rw [Int.tmod_eq_emod]
    rw [if_neg (by
      intro z
      rcases z with z | z
      · omega
      · exact hz2 (by obtain ⟨c, hc⟩ := z; rw [hc]; exact Int.mul_tmod_right _ _))]
    omega
  rw [Int32.toInt_add, e, nI_int h1, ht, fm_tmod h0]
  rw [show x.toInt % (k : Int) - k + k = x.toInt % (k : Int) by omega]
  exact Int.bmod_eq_of_le (by omega) (by omega)
theorem bit_add (g i : Nat) : lN g + bitL (i + 1) = lN (g + 2 ^ i) := lN_add g (2 ^ i)
theorem bit_end {j : Nat} (h : lg_cmp (bitL j) 0 ≤ 0) (hj : j ≤ 24) : j = 0 := by
  cases j with
  | zero => rfl
  | succ i => exact absurd h ((show ∀ i, i < 24 → ¬ lg_cmp (bitL (i + 1)) 0 ≤ 0 by decide +kernel) i (by omega))
theorem rb_ok {x i g : Nat} {R : Nat} (h : rootB x (i + 1) g = R) (c : (g + 2 ^ i) * (g + 2 ^ i) ≤ x) : rootB x i (g + 2 ^ i) = R := by
  rw [← h]
  show _ = if _ then _ else _
  rw [if_pos c]
theorem rb_no {x i g : Nat} {R : Nat} (h : rootB x (i + 1) g = R) (c : ¬ (g + 2 ^ i) * (g + 2 ^ i) ≤ x) : rootB x i g = R := by
  rw [← h]
  show _ = if _ then _ else _
  rw [if_neg c]
theorem sq_lt {g i : Nat} (h : g + 2 ^ (i + 1) ≤ 2 ^ 24) (hp : 2 ^ (i + 1) = 2 * 2 ^ i) : (g + 2 ^ i) * (g + 2 ^ i) < 2 ^ 63 := by
  have h1 : g + 2 ^ i ≤ 2 ^ 24 := by omega
  have := Nat.mul_le_mul h1 h1
  omega
theorem rt_le {g i x : Nat} (h : g + 2 ^ (i + 1) ≤ 2 ^ 24) (hp : 2 ^ (i + 1) = 2 * 2 ^ i) (_hpi : 2 ^ i ≤ 2 ^ 23) (hx : x < 2 ^ 47) (c : ¬ lg_cmp (lN ((g + 2 ^ i) * (g + 2 ^ i))) (lN x) > 0) : (g + 2 ^ i) * (g + 2 ^ i) ≤ x := by
  have hq := sq_lt h hp
  refine Nat.not_lt.mp (fun z => c (lcmp_gt.mpr ((pk_lLT (by omega) (by omega)).mpr z)))
theorem rt_gt {g i x : Nat} (h : g + 2 ^ (i + 1) ≤ 2 ^ 24) (hp : 2 ^ (i + 1) = 2 * 2 ^ i) (_hpi : 2 ^ i ≤ 2 ^ 23) (hx : x < 2 ^ 47) (c : lg_cmp (lN ((g + 2 ^ i) * (g + 2 ^ i))) (lN x) > 0) : ¬ (g + 2 ^ i) * (g + 2 ^ i) ≤ x := by
  have hq := sq_lt h hp
  exact Nat.not_le.mpr ((pk_lLT (by omega) (by omega)).mp (lcmp_gt.mp c))
theorem be_no {n i : Nat} {f : Fn7} (h : n ≤ i) (hi : i < 2 ^ 31) : qR (-4) (vS n f) = gP (belowP (nI i) (vS n f)) := by
  rw [pR_no (by decide) (by decide), belowP, if_pos (show nI (vS n f).1 ≤ nI i from nI_le h hi)]
theorem be_ok {n i : Nat} {f : Fn7} {r : Int32} {w : Vs7} (h : i < n) (hn : n < 2 ^ 31) (hx : qR r w = gP (pushP (vS n f) (trunc n f (n - 1 - i)))) : qR r w = gP (belowP (nI i) (vS n f)) := by
  rw [belowP, if_neg (show ¬ nI (vS n f).1 ≤ nI i from nI_ge h hn), nI_clamp (by omega)]
  exact hx
theorem ro_neg {v : Vs7} {j b : Int32} (h : j < 0) : qR (-4) v = gP (rollP v j b) := by
  rw [pR_no (by decide) (by decide), rollP, if_pos h]
theorem ro_big {n jj : Nat} {f : Fn7} {b : Int32} (hj : jj < 2 ^ 31) (h : n < jj) : qR (-4) (vS n f) = gP (rollP (vS n f) (nI jj) b) := by
  rw [pR_no (by decide) (by decide), rollP, if_neg (nI_pos hj), nI_clamp hj, if_pos (show (vS n f).1 < jj from h)]
theorem ro_nil {n jj : Nat} {f : Fn7} {b : Int32} (hj : jj < 2 ^ 31) (h : jj = 0) : qR 0 (vS n f) = gP (rollP (vS n f) (nI jj) b) := by
  rw [pR_0, rollP, if_neg (nI_pos hj), nI_clamp hj, if_neg (by omega), if_pos h]
theorem ro_ok {n jj : Nat} {f : Fn7} {w : Vs7} {b : Int32} (hj : jj < 2 ^ 31) (h : jj ≤ n) (h0 : 0 < jj) (hx : w = turnP (vS n f) jj (fmN b jj)) : qR 0 w = gP (rollP (vS n f) (nI jj) b) := by
  rw [pR_0, rollP, if_neg (nI_pos hj), nI_clamp hj, if_neg (show ¬ (vS n f).1 < jj from Nat.not_lt.mpr h), if_neg (by omega), hx]
theorem sto_neg {p : Fn7} {x i : Int32} (h : i < 0) : qR (-4) p = gP (storeP p x i) := by
  rw [pR_no (by decide) (by decide), storeP, if_pos h]
theorem sto_big {p : Fn7} {x i : Int32} (h : ¬ i < 0) (h2 : 32 ≤ i) : qR (-4) p = gP (storeP p x i) := by
  rw [pR_no (by decide) (by decide), storeP, if_neg h, if_pos h2]
theorem lt_32 {i : Int32} (h : ¬ i < 0) (h2 : ¬ 32 ≤ i) : i.toNatClampNeg < 32 := by
  obtain ⟨j, hj, rfl⟩ := nI_of h
  rw [nI_clamp hj]
  exact Nat.not_le.mp (fun z => h2 (nI_le (a := 32) z hj))
theorem sto_ok {p : Fn7} {x i : Int32} (h : ¬ i < 0) (h2 : ¬ 32 ≤ i) : qR 0 (trunc 32 (upd p i.toNatClampNeg x)) = gP (storeP (trunc 32 p) x i) := by
  rw [pR_0, storeP, if_neg h, if_neg h2, trunc_set (lt_32 h h2)]
theorem loa_neg {p : Fn7} {v : Vs7} {i : Int32} (h : i < 0) : qR (-4) v = gP (loadP p i v) := by
  rw [pR_no (by decide) (by decide), loadP, if_pos h]
theorem loa_big {p : Fn7} {v : Vs7} {i : Int32} (h : ¬ i < 0) (h2 : 32 ≤ i) : qR (-4) v = gP (loadP p i v) := by
  rw [pR_no (by decide) (by decide), loadP, if_neg h, if_pos h2]
theorem loa_ok {p : Fn7} {v w : Vs7} {r i : Int32} (h : ¬ i < 0) (h2 : ¬ 32 ≤ i) (hx : qR r w = gP (pushP v (p i.toNatClampNeg))) : qR r w = gP (loadP (trunc 32 p) i v) := by
  rw [loadP, if_neg h, if_neg h2, trunc_at (lt_32 h h2)]
  exact hx
theorem one_283 {v : Vs7} {p : Fn7} : oneP 283 v p = pushP v (topP v) := rfl
theorem one_261 {v : Vs7} {p : Fn7} : oneP 261 v p = pushP (popP v) (if topP v = 0 then 65536 else 0) := rfl
theorem one_265 {v : Vs7} {p : Fn7} : oneP 265 v p = pushP (popP v) (if topP v < 0 then - topP v else topP v) := rfl
theorem one_270 {v : Vs7} {p : Fn7} : oneP 270 v p = pushP (popP v) (- topP v) := rfl
theorem one_277 {v : Vs7} {p : Fn7} : oneP 277 v p = loadP p (shr16 (topP v)) (popP v) := rfl
theorem one_282 {v : Vs7} {p : Fn7} : oneP 282 v p = (if topP v < 0 then none else pushP (popP v) (nI (rootN ((topP v).toNatClampNeg * 65536)))) := rfl
theorem one_285 {v : Vs7} {p : Fn7} : oneP 285 v p = belowP (iMax (shr16 (topP v)) 0) (popP v) := rfl
theorem one_els {c : Nat} {v : Vs7} {p : Fn7} (h : ¬ (c = 283 ∨ c = 261 ∨ c = 265 ∨ c = 270 ∨ c = 277 ∨ c = 282 ∨ c = 285)) : oneP c v p = some (popP v) := by
  simp only [not_or] at h
  unfold oneP
  rw [if_neg h.1, if_neg h.2.1, if_neg h.2.2.1, if_neg h.2.2.2.1, if_neg h.2.2.2.2.1, if_neg h.2.2.2.2.2.1, if_neg h.2.2.2.2.2.2]
theorem t_259 {v : Vs7} {p : Fn7} : twoP 259 v p = (pushP (popP (popP v)) (if topP (popP v) = 0 then 0 else if topP v = 0 then 0 else 65536)).map (fun q => (q, p)) := rfl
theorem t_260 {v : Vs7} {p : Fn7} : twoP 260 v p = (pushP (popP (popP v)) (if topP (popP v) = 0 then (if topP v = 0 then 0 else 65536) else 65536)).map (fun q => (q, p)) := rfl
theorem t_266 {v : Vs7} {p : Fn7} : twoP 266 v p = (pushP (popP (popP v)) (topP (popP v) + topP v)).map (fun q => (q, p)) := rfl
theorem t_267 {v : Vs7} {p : Fn7} : twoP 267 v p = (pushP (popP (popP v)) (topP (popP v) - topP v)).map (fun q => (q, p)) := rfl
theorem t_268 {v : Vs7} {p : Fn7} : twoP 268 v p = (if topP v = 0 then none else pushP (popP (popP v)) (fdR ((topP (popP v)).toInt64 * 65536) (topP v).toInt64).toInt32).map (fun q => (q, p)) := rfl
theorem t_271 {v : Vs7} {p : Fn7} : twoP 271 v p = (pushP (popP (popP v)) (if topP (popP v) = topP v then 65536 else 0)).map (fun q => (q, p)) := rfl
theorem t_276 {v : Vs7} {p : Fn7} : twoP 276 v p = (storeP p (topP (popP v)) (shr16 (topP v))).map (fun q => (popP (popP v), q)) := rfl
theorem t_280 {v : Vs7} {p : Fn7} : twoP 280 v p = (pushP (popP (popP v)) (fdR ((topP (popP v)).toInt64 * (topP v).toInt64) 65536).toInt32).map (fun q => (q, p)) := rfl
theorem t_284 {v : Vs7} {p : Fn7} : twoP 284 v p = ((pushP (popP (popP v)) (topP v)).bind (fun q => pushP q (topP (popP v)))).map (fun q => (q, p)) := rfl
theorem t_roll {c : Nat} {v : Vs7} {p : Fn7} (h : ¬ (c = 276 ∨ c = 259 ∨ c = 260 ∨ c = 266 ∨ c = 267 ∨ c = 268 ∨ c = 271 ∨ c = 280 ∨ c = 284)) : twoP c v p = (rollP (popP (popP v)) (shr16 (topP (popP v))) (shr16 (topP v))).map (fun q => (q, p)) := by
  simp only [not_or] at h
  unfold twoP twoQ
  rw [if_neg h.1, if_neg h.2.1, if_neg h.2.2.1, if_neg h.2.2.2.1, if_neg h.2.2.2.2.1, if_neg h.2.2.2.2.2.1, if_neg h.2.2.2.2.2.2.1, if_neg h.2.2.2.2.2.2.2.1, if_neg h.2.2.2.2.2.2.2.2]
theorem pushed {n : Nat} {f : Fn7} {x r : Int32} {s : Vs7} (h : n < 48) (hx : qR r s = gP (pushP (vS n f) x)) : pushP (vS n f) x = some s := by
  by_cases h0 : r = 0
  · exact pR_ok hx h0
  · have q := (pR_bad hx h0).1
    rw [pushP, if_pos (show (vS n f).1 < 48 from h)] at q
    cases q
theorem rk_0 {c : Nat} {v : Vs7} {p : Fn7} (h : takN c = 0) : reckP c v p = none := by rw [reckP, if_pos h]
theorem rk_s {c : Nat} {v : Vs7} {p : Fn7} (h : ¬ takN c = 0) (h2 : v.1 < takN c) : reckP c v p = none := by rw [reckP, if_neg h, if_pos h2]
theorem rk_1 {c : Nat} {v : Vs7} {p : Fn7} (h : takN c = 1) (h2 : ¬ v.1 < 1) : reckP c v p = (oneP c v p).map (fun q => (q, p)) := by rw [reckP, h, if_neg (by decide), if_neg h2, if_pos rfl]
theorem rk_2 {c : Nat} {v : Vs7} {p : Fn7} (h : takN c = 2) (h2 : ¬ v.1 < 2) : reckP c v p = twoP c v p := by rw [reckP, h, if_neg (by decide), if_neg h2, if_neg (by decide), if_pos rfl]
theorem rk_4 {c : Nat} {v : Vs7} {p : Fn7} (h0 : ¬ takN c = 0) (h1 : ¬ takN c = 1) (h2 : ¬ takN c = 2) (h : ¬ v.1 < takN c) : reckP c v p = (chooP v).map (fun q => (q, p)) := by rw [reckP, if_neg h0, if_neg h, if_neg h1, if_neg h2]
