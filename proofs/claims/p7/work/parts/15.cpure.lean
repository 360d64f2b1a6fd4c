/-! PURE, for p7: what the rows of the machine need. -/
theorem ini_ok {T : Tr7} {s : Ss7} {k : Int32} {fa fo fp : Fn7} (h : enterP T (0, zero7, zero7, zero7) 0 k = some s) (hp : trunc 32 fp = zero7) : iniP T k = some (⟨vS 0 fa, s, uS 0 0 0 fo, trunc 32 fp, 0, false, false⟩ : Ms7) := by
  rw [iniP, h, hp, vS_0, uS_0]; rfl
theorem has_t {s : Ss7} {b r : Int32} (h : r = (if hasP s b = true then 1 else 0)) (c : ¬ r = 0) : hasP s b = true := Classical.byContradiction (fun z => c (by rw [h, if_neg z]))
theorem has_f {s : Ss7} {b r : Int32} (h : r = (if hasP s b = true then 1 else 0)) (c : r = 0) : hasP s b = false := by
  cases q : hasP s b with
  | false => rfl
  | true => rw [h, if_pos q] at c; exact absurd c (by decide)
theorem has_d {d : Nat} {fk fl fz : Fn7} {b r : Int32} (h : r = (if hasP (sS d fk fl fz) b = true then 1 else 0)) (c : ¬ r = 0) : 0 < d := (of_decide_eq_true (has_t h c)).1
theorem cur_byte (T : Tr7) (s : Ss7) : curN T s ≤ 255 ∧ curP T s = nI (curN T s) := by
  unfold curN curP
  generalize (selT T (s.2.1 (s.1 - 1))).2.1 = l
  generalize (selT T (s.2.1 (s.1 - 1))).2.2 = f
  generalize s.2.2.1 (s.1 - 1) = i
  unfold atB
  by_cases h : i < 0
  · rw [if_pos h]; decide
  · rw [if_neg h]
    by_cases q : nI l ≤ i
    · rw [if_pos q]; decide
    · rw [if_neg q, and255, nI_clamp (by omega)]
      exact ⟨by omega, rfl⟩
theorem cur_le {T : Tr7} {s : Ss7} : curN T s ≤ 511 := by have := (cur_byte T s).1; omega
theorem cur_le2 {T : Tr7} {s : Ss7} : 256 + curN T s ≤ 511 := by have := (cur_byte T s).1; omega
theorem cur_nI {T : Tr7} {s : Ss7} {r : Int32} (h : r = curP T s) : r = nI (curN T s) := h.trans (cur_byte T s).2
theorem cur_256 {T : Tr7} {s : Ss7} {r : Int32} (h : r = curP T s) : 256 + r = nI (256 + curN T s) := by rw [cur_nI h]; exact nI_add 256 _
theorem cur_12 {T : Tr7} {s : Ss7} {r : Int32} (h : r = curP T s) (c : r = 12) : curN T s = 12 := by
  rw [cur_nI h] at c
  have := (cur_byte T s).1
  exact (nI_eq (b := 12) (by omega) (by omega)).mp c
theorem cur_n12 {T : Tr7} {s : Ss7} {r : Int32} (h : r = curP T s) (c : ¬ r = 12) : ¬ curN T s = 12 := fun z => c (by rw [cur_nI h, z]; rfl)
theorem rd_has {T : Tr7} {s : Ss7} {sp : Nat} {r : Int32} (h : r = (if hasP s 1 = true then 1 else 0)) (c : r = 0) : readP T s sp = none := by rw [readP, if_pos (has_f h c)]
theorem rd_work {T : Tr7} {s : Ss7} {sp : Nat} (h : 20000 ≤ sp) : readP T s sp = none := by
  simp [readP, h]
theorem has_nf {s : Ss7} {b r : Int32} (h : r = (if hasP s b = true then 1 else 0)) (c : ¬ r = 0) : ¬ hasP s b = false := by rw [has_t h c]; decide
theorem rd_one {T : Tr7} {s s' : Ss7} {sp : Nat} {r r2 : Int32} (h : r = (if hasP s 1 = true then 1 else 0)) (c : ¬ r = 0) (hs : ¬ 20000 ≤ sp) (hx : r2 = curP T s ∧ s' = passP s 1) (c2 : ¬ r2 = 12) : readP T s sp = some (curN T s, s') := by
  rw [readP, if_neg (has_nf h c), if_neg hs, if_neg (cur_n12 hx.1 c2), hx.2]
theorem rd_esc {T : Tr7} {s s' : Ss7} {sp : Nat} {r r2 r3 : Int32} (h : r = (if hasP s 1 = true then 1 else 0)) (c : ¬ r = 0) (hx : r2 = curP T s ∧ s' = passP s 1) (c2 : r2 = 12) (h3 : r3 = (if hasP s' 1 = true then 1 else 0)) (c3 : r3 = 0) : readP T s sp = none := by
  rw [readP, if_neg (has_nf h c), if_pos (cur_12 hx.1 c2), if_pos (show hasP (passP s 1) 1 = false by rw [← hx.2]; exact has_f h3 c3)]
  split <;> rfl
theorem rd_two {T : Tr7} {s s' s'' : Ss7} {sp : Nat} {r r2 r3 r4 : Int32} (h : r = (if hasP s 1 = true then 1 else 0)) (c : ¬ r = 0) (hs : ¬ 20000 ≤ sp) (hx : r2 = curP T s ∧ s' = passP s 1) (c2 : r2 = 12) (h3 : r3 = (if hasP s' 1 = true then 1 else 0)) (c3 : ¬ r3 = 0) (hx4 : r4 = curP T s' ∧ s'' = passP s' 1) : readP T s sp = some (256 + curN T s', s'') := by
  rw [readP, if_neg (has_nf h c), if_neg hs, if_pos (cur_12 hx.1 c2), if_neg (show ¬ hasP (passP s 1) 1 = false by rw [← hx.2]; exact has_nf h3 c3), ← hx.2, hx4.2]
theorem rd_neg {r : Int32} {p : Nat → Prop} (c : ¬ r ≥ 0) : ¬ ∃ q : Nat, r = nI q ∧ q ≤ 511 ∧ p q := fun ⟨q, e, h, _⟩ => c (by rw [e]; exact Int32.not_lt.mp (nI_pos (by omega)))
theorem behP_le (c : Nat) : behP c ≤ 4 := by
  unfold behP
  split
  · decide
  · split
    · decide
    · split <;> decide
theorem pn_no {T : Tr7} {c : Nat} {v : Vs7} {s t : Ss7} {w : Vs7} {r : Int32} (h : r = (if hasP s (nI (behP c)) = true then 1 else 0)) (q : r = 0) : qR (-3) (w, t) = gP (numP T c v s) := by
  rw [pR_no (by decide) (by decide), numP, if_pos (has_f h q)]
theorem pn_s {T : Tr7} {s a b : Ss7} {i : Nat} {r : Int32} (h : a = passN s i) (hx : r = curP T a ∧ b = passP a 1) : b = passN s (i + 1) := by
  rw [hx.2, h]; rfl
theorem pn_g {T : Tr7} {s a b : Ss7} {i : Nat} {r g : Int32} (h : a = passN s i) (hg : g = numB T s i) (hx : r = curP T a ∧ b = passP a 1) : g <<< (8 &&& 31) ||| r = numB T s (i + 1) := by
  rw [hx.1, h, hg]; rfl
theorem pn_end {T : Tr7} {c i : Nat} {v w : Vs7} {s a : Ss7} {r g r2 : Int32} (h : r = (if hasP s (nI (behP c)) = true then 1 else 0)) (q : ¬ r = 0) (hp : a = passN s i) (hg : g = numB T s i) (hi : i = behP c) (hx : qR r2 w = gP (pushP v (valP c g))) : qR r2 (w, a) = gP (numP T c v s) := by
  rw [numP, if_neg (has_nf h q), ← hi, ← hg, ← hp]
  exact pR_map (fun q => (q, a)) hx
theorem sub_0 {n k : Nat} (hn : n < 2 ^ 30) (hk : k < 2 ^ 30) : nI n - nI k = 0 ↔ n = k := by
  constructor
  · intro h
    have : nI n = nI k := by
      have := congrArg (fun z => z + nI k) h
      simpa using this
    exact (nI_eq (by omega) (by omega)).mp this
  · rintro rfl
    simp
theorem sub_1 {n k : Nat} (hn : n < 2 ^ 30) (hk : k < 2 ^ 30) : nI n - nI k = 1 ↔ n = k + 1 := by
  have e1 : nI (k + 1) = 1 + nI k := by rw [show (1 : Int32) = nI 1 from rfl, nI_add, Nat.add_comm]
  constructor
  · intro h
    have h3 : nI n = 1 + nI k := by
      have := congrArg (fun z => z + nI k) h
      simpa using this
    exact (nI_eq (by omega) (by omega)).mp (h3.trans e1.symm)
  · rintro rfl
    rw [e1]
    simp
theorem wd_no {n k : Nat} {ps : Bool} (hn : n < 2 ^ 30) (hk : k < 2 ^ 30) (h0 : ¬ nI n - nI k = 0) (h1 : ¬ nI n - nI k = 1) : (0 : Int32) = (if widP n k ps = true then 1 else 0) := by
  rw [show widP n k ps = false from decide_eq_false (fun z => z.elim (fun z => h0 ((sub_0 hn hk).mpr z)) (fun z => h1 ((sub_1 hn hk).mpr z.1)))]; rfl
theorem wd_ps {n k : Nat} {zp : Int32} (hn : n < 2 ^ 30) (hk : k < 2 ^ 30) (h1 : nI n - nI k = 1) (hz : ¬ zp = 0) : (0 : Int32) = (if widP n k (decide (zp ≠ 0)) = true then 1 else 0) := by
  have e := (sub_1 hn hk).mp h1
  rw [show widP n k (decide (zp ≠ 0)) = false from decide_eq_false (fun z => z.elim (fun z => by omega) (fun z => absurd z.2 (by simp [hz])))]; rfl
theorem wd_0 {n k : Nat} {ps : Bool} (hn : n < 2 ^ 30) (hk : k < 2 ^ 30) (h0 : nI n - nI k = 0) : (1 : Int32) = (if widP n k ps = true then 1 else 0) := by
  rw [show widP n k ps = true from decide_eq_true (Or.inl ((sub_0 hn hk).mp h0))]; rfl
theorem wd_1 {n k : Nat} {zp : Int32} (hn : n < 2 ^ 30) (hk : k < 2 ^ 30) (h1 : nI n - nI k = 1) (hz : zp = 0) : (1 : Int32) = (if widP n k (decide (zp ≠ 0)) = true then 1 else 0) := by
  rw [show widP n k (decide (zp ≠ 0)) = true from decide_eq_true (Or.inr ⟨(sub_1 hn hk).mp h1, by simp [hz]⟩)]; rfl
theorem wid_tt {n k : Nat} {ps : Bool} {r : Int32} (h : r = (if widP n k ps = true then 1 else 0)) (c : ¬ r = 0) : ¬ widP n k ps = false := fun z => c (by rw [h, z]; rfl)
theorem wid_ff {n k : Nat} {ps : Bool} {r : Int32} (h : r = (if widP n k ps = true then 1 else 0)) (c : r = 0) : widP n k ps = false := by
  cases q : widP n k ps with
  | false => rfl
  | true => rw [h, if_pos q] at c; exact absurd c (by decide)
theorem hi_no {n : Nat} {f : Fn7} {h r : Int32} {ps : Bool} {X : Vs7 × Int32 × Bool} (hw : r = (if widP n (2 * (n / 2)) ps = true then 1 else 0)) (c : r = 0) : qR (-4) X = gP (hintP (vS n f) h ps) := by
  rw [pR_no (by decide) (by decide), hintP, if_pos (show widP (vS n f).1 (2 * ((vS n f).1 / 2)) ps = false from wid_ff hw c)]
theorem hi_many {n : Nat} {f : Fn7} {h r : Int32} {ps : Bool} {X : Vs7 × Int32 × Bool} (hw : r = (if widP n (2 * (n / 2)) ps = true then 1 else 0)) (c : ¬ r = 0) (c2 : ¬ h + nI (n / 2) ≤ 96) : qR (-6) X = gP (hintP (vS n f) h ps) := by
  rw [pR_no (by decide) (by decide), hintP, if_neg (show ¬ widP (vS n f).1 (2 * ((vS n f).1 / 2)) ps = false from wid_tt hw c), if_pos (show 96 < h + nI ((vS n f).1 / 2) from Int32.not_le.mp c2)]
theorem hi_ok {n : Nat} {f g : Fn7} {h r zp : Int32} {ps : Bool} (hw : r = (if widP n (2 * (n / 2)) ps = true then 1 else 0)) (c : ¬ r = 0) (hz : zp = 1) (c2 : h + nI (n / 2) ≤ 96) : qR 0 (vS 0 g, h + nI (n / 2), decide (zp ≠ 0)) = gP (hintP (vS n f) h ps) := by
  rw [pR_0, hintP, if_neg (show ¬ widP (vS n f).1 (2 * ((vS n f).1 / 2)) ps = false from wid_tt hw c), if_neg (show ¬ 96 < h + nI ((vS n f).1 / 2) from Int32.not_lt.mpr c2), hz, vS_0]
  rfl
theorem ma_bad {v : Vs7} {h r : Int32} {ps : Bool} {s : Ss7} {X : Vs7 × Int32 × Bool} {Y : (Vs7 × Int32 × Bool) × Ss7} (hx : qR r X = gP (hintP v h ps)) (c : ¬ r = 0) : qR r Y = gP (maskP v h ps s) := by
  have q := pR_bad hx c
  rw [maskP, q.1, pR_no c q.2]; rfl
theorem ma_no {v w : Vs7} {h h' r r2 : Int32} {ps b : Bool} {s : Ss7} {Y : (Vs7 × Int32 × Bool) × Ss7} (hx : qR r (w, h', b) = gP (hintP v h ps)) (c : r = 0) (h2 : r2 = (if hasP s ((h' + 7) / 8) = true then 1 else 0)) (c2 : r2 = 0) : qR (-3) Y = gP (maskP v h ps s) := by
  rw [pR_no (by decide) (by decide), maskP, pR_ok hx c]
  show _ = gP (if hasP s ((h' + 7) / 8) = false then none else _)
  rw [if_pos (has_f h2 c2)]
theorem ma_ok {v w : Vs7} {h h' r r2 : Int32} {ps b : Bool} {s s' : Ss7} (hx : qR r (w, h', b) = gP (hintP v h ps)) (c : r = 0) (h2 : r2 = (if hasP s ((h' + 7) / 8) = true then 1 else 0)) (c2 : ¬ r2 = 0) (hp : s' = passP s ((h' + 7) / 8)) : qR 0 ((w, h', b), s') = gP (maskP v h ps s) := by
  rw [pR_0, maskP, pR_ok hx c]
  show _ = gP (if hasP s ((h' + 7) / 8) = false then none else some ((w, h', b), passP s ((h' + 7) / 8)))
  rw [if_neg (has_nf h2 c2), hp]
theorem mp_21 {v : Vs7} {u : Us7} {ps : Bool} : moveP 21 v u ps = if widP v.1 2 ps = false then none else (moveU u (topP (popP v)) (topP v)).map (fun q => ((0, zero7), q)) := rfl
theorem mp_22 {v : Vs7} {u : Us7} {ps : Bool} : moveP 22 v u ps = if widP v.1 1 ps = false then none else (moveU u (topP v) 0).map (fun q => ((0, zero7), q)) := rfl
theorem mp_4 {v : Vs7} {u : Us7} {ps : Bool} : moveP 4 v u ps = if widP v.1 1 ps = false then none else (moveU u 0 (topP v)).map (fun q => ((0, zero7), q)) := rfl
theorem mv_no {o : Option Us7} {r : Int32} {U : Us7} {X : Vs7 × Us7} (h : zR r U = o) (c : r = 0) : qR (-11) X = gP (o.map (fun q => (((0, zero7) : Vs7), q))) := by
  rw [pR_no (by decide) (by decide), zR_bad h c]; rfl
theorem mv_ok {o : Option Us7} {r : Int32} {U : Us7} {g : Fn7} (h : zR r U = o) (c : ¬ r = 0) : qR 0 (vS 0 g, U) = gP (o.map (fun q => (((0, zero7) : Vs7), q))) := by
  rw [pR_0, zR_ok h c, vS_0]; rfl
theorem mv_t {z : Int32} (c : ¬ z = 0) : ¬ decide (z ≠ 0) = false := by simp [c]
theorem ite_t {b : Bool} (c : ¬ (if b = true then (1 : Int32) else 0) = 0) : b = true := Classical.byContradiction (fun z => c (by rw [if_neg z]))
theorem ite_f {b : Bool} (c : (if b = true then (1 : Int32) else 0) = 0) : ¬ b = true := fun z => by rw [if_pos z] at c; exact absurd c (by decide)
theorem tk_t {b : Bool} (c : ¬ (if b = true then (1 : Int32) else 0) = 0) : ¬ b = false := by rw [ite_t c]; decide
theorem tk_f {b : Bool} (c : (if b = true then (1 : Int32) else 0) = 0) : b = false := by
  have := ite_f c
  cases b with
  | false => rfl
  | true => exact absurd rfl this
theorem ca_0 {T : Tr7} {kind : Int32} {n : Nat} {f : Fn7} {s : Ss7} {X : Vs7 × Ss7} (c : nI n = 0) (hn : n < 2 ^ 31) : qR (-4) X = gP (callP T kind (vS n f) s) := by
  rw [pR_no (by decide) (by decide), callP, if_pos (show (vS n f).1 = 0 from (nI_eq (b := 0) hn (by decide)).mp c)]
theorem ca_sml {T : Tr7} {S : Sh7} {kind : Int32} {n : Nat} {f : Fn7} {s s' : Ss7} {w : Vs7} {r r2 : Int32} (hS : selT T kind = S) (hn : n < 2 ^ 31) (c : ¬ nI n = 0) (c2 : ¬ nI S.1 ≥ 1240) (h1 : r = shr16 (topP (vS n f)) ∧ w = popP (vS n f)) (h2 : qR r2 s' = gP (enterP T s kind (r + 107))) : qR r2 (w, s') = gP (callP T kind (vS n f) s) := by
  rw [callP, if_neg (show ¬ (vS n f).1 = 0 from fun z => c (by rw [show n = 0 from z]; rfl)), ← h1.1, ← h1.2, hS, if_pos (Int32.not_le.mp c2)]
  exact pR_map (fun q => (w, q)) h2
theorem ca_big {T : Tr7} {S : Sh7} {kind : Int32} {n : Nat} {f : Fn7} {s s' : Ss7} {w : Vs7} {r r2 : Int32} (hS : selT T kind = S) (hn : n < 2 ^ 31) (c : ¬ nI n = 0) (c2 : nI S.1 ≥ 1240) (h1 : r = shr16 (topP (vS n f)) ∧ w = popP (vS n f)) (h2 : qR r2 s' = gP (enterP T s kind (r + 1131))) : qR r2 (w, s') = gP (callP T kind (vS n f) s) := by
  rw [callP, if_neg (show ¬ (vS n f).1 = 0 from fun z => c (by rw [show n = 0 from z]; rfl)), ← h1.1, ← h1.2, hS, if_neg (Int32.not_lt.mpr c2)]
  exact pR_map (fun q => (w, q)) h2
theorem pf_num {T : Tr7} {c : Nat} {v : Vs7} {s : Ss7} {u : Us7} {p : Fn7} {h : Int32} {ps mv : Bool} (h9 : c = 28 ∨ (32 ≤ c ∧ c < 256)) : perfP T c (⟨v, s, u, p, h, ps, mv⟩ : Ms7) = gP ((numP T c v s).map (fun q => (⟨q.1, q.2, u, p, h, ps, mv⟩ : Ms7))) := if_pos h9
theorem pf_draw {T : Tr7} {c : Nat} {v : Vs7} {s : Ss7} {u : Us7} {p : Fn7} {h : Int32} {ps mv : Bool} (h9 : ¬ (c = 28 ∨ (32 ≤ c ∧ c < 256))) (hd : isDr c = true) : perfP T c (⟨v, s, u, p, h, ps, mv⟩ : Ms7) = gP ((drawP c v u mv).map (fun q => (⟨q.1, s, q.2, p, h, ps, mv⟩ : Ms7))) := (if_neg h9).trans (if_pos hd)
theorem pf_hint {T : Tr7} {c : Nat} {v : Vs7} {s : Ss7} {u : Us7} {p : Fn7} {h : Int32} {ps mv : Bool} (h9 : ¬ (c = 28 ∨ (32 ≤ c ∧ c < 256))) (hd : ¬ isDr c = true) (h1 : c = 1 ∨ c = 3 ∨ c = 18 ∨ c = 23) : perfP T c (⟨v, s, u, p, h, ps, mv⟩ : Ms7) = (if v.1 < 2 then gP none else gP ((hintP v h ps).map (fun q => (⟨q.1, s, u, p, q.2.1, q.2.2, mv⟩ : Ms7)))) := (if_neg h9).trans ((if_neg hd).trans (if_pos h1))
theorem pf_mask {T : Tr7} {c : Nat} {v : Vs7} {s : Ss7} {u : Us7} {p : Fn7} {h : Int32} {ps mv : Bool} (h9 : ¬ (c = 28 ∨ (32 ≤ c ∧ c < 256))) (hd : ¬ isDr c = true) (h1 : c = 19 ∨ c = 20) : perfP T c (⟨v, s, u, p, h, ps, mv⟩ : Ms7) = gP ((maskP v h ps s).map (fun q => (⟨q.1.1, q.2, u, p, q.1.2.1, q.1.2.2, mv⟩ : Ms7))) := (if_neg h9).trans ((if_neg hd).trans ((if_neg (by omega)).trans (if_pos h1)))
theorem pf_move {T : Tr7} {c : Nat} {v : Vs7} {s : Ss7} {u : Us7} {p : Fn7} {h : Int32} {ps mv : Bool} (h9 : ¬ (c = 28 ∨ (32 ≤ c ∧ c < 256))) (hd : ¬ isDr c = true) (h1 : c = 4 ∨ c = 21 ∨ c = 22) : perfP T c (⟨v, s, u, p, h, ps, mv⟩ : Ms7) = gP ((moveP c v u ps).map (fun q => (⟨q.1, s, q.2, p, h, true, true⟩ : Ms7))) := (if_neg h9).trans ((if_neg hd).trans ((if_neg (by omega)).trans ((if_neg (by omega)).trans (if_pos h1))))
theorem pf_14 {T : Tr7} {v : Vs7} {s : Ss7} {u : Us7} {p : Fn7} {h : Int32} {ps mv : Bool} : perfP T 14 (⟨v, s, u, p, h, ps, mv⟩ : Ms7) = (if widP v.1 0 ps = false then gP none else some (1, (⟨(0, zero7), s, u, p, h, true, mv⟩ : Ms7))) := rfl
theorem pf_10 {T : Tr7} {v : Vs7} {s : Ss7} {u : Us7} {p : Fn7} {h : Int32} {ps mv : Bool} : perfP T 10 (⟨v, s, u, p, h, ps, mv⟩ : Ms7) = gP ((callP T 2 v s).map (fun q => (⟨q.1, q.2, u, p, h, ps, mv⟩ : Ms7))) := rfl
theorem pf_29 {T : Tr7} {v : Vs7} {s : Ss7} {u : Us7} {p : Fn7} {h : Int32} {ps mv : Bool} : perfP T 29 (⟨v, s, u, p, h, ps, mv⟩ : Ms7) = gP ((callP T 1 v s).map (fun q => (⟨q.1, q.2, u, p, h, ps, mv⟩ : Ms7))) := rfl
theorem pf_11 {T : Tr7} {v : Vs7} {s : Ss7} {u : Us7} {p : Fn7} {h : Int32} {ps mv : Bool} : perfP T 11 (⟨v, s, u, p, h, ps, mv⟩ : Ms7) = gP ((leaveP s).map (fun q => (⟨v, q, u, p, h, ps, mv⟩ : Ms7))) := rfl
theorem pf_els {T : Tr7} {c : Nat} {v : Vs7} {s : Ss7} {u : Us7} {p : Fn7} {h : Int32} {ps mv : Bool} (h9 : ¬ (c = 28 ∨ (32 ≤ c ∧ c < 256))) (hd : ¬ isDr c = true) (h1 : ¬ (c = 1 ∨ c = 3 ∨ c = 18 ∨ c = 23 ∨ c = 19 ∨ c = 20 ∨ c = 4 ∨ c = 21 ∨ c = 22 ∨ c = 14 ∨ c = 10 ∨ c = 29 ∨ c = 11)) : perfP T c (⟨v, s, u, p, h, ps, mv⟩ : Ms7) = gP ((reckP c v p).map (fun q => (⟨q.1, s, u, q.2, h, ps, mv⟩ : Ms7))) := (if_neg h9).trans ((if_neg hd).trans ((if_neg (by omega)).trans ((if_neg (by omega)).trans ((if_neg (by omega)).trans ((if_neg (by omega)).trans ((if_neg (by omega)).trans ((if_neg (by omega)).trans (if_neg (by omega)))))))))
theorem pf_mv {v w : Vs7} {s : Ss7} {u u' : Us7} {p : Fn7} {h r zp zm : Int32} {c : Nat} {ps : Bool} (hx : qR r (w, u') = gP (moveP c v u ps)) (hz : r = 0 → zp = 1 ∧ zm = 1) : qR r (⟨w, s, u', p, h, decide (zp ≠ 0), decide (zm ≠ 0)⟩ : Ms7) = gP ((moveP c v u ps).map (fun q => (⟨q.1, s, q.2, p, h, true, true⟩ : Ms7))) := by
  by_cases h0 : r = 0
  · rw [pR_ok hx h0, (hz h0).1, (hz h0).2, h0, pR_0]; rfl
  · have q := pR_bad hx h0
    rw [q.1, pR_no h0 q.2]; rfl
theorem pf_end {s : Ss7} {u : Us7} {p fa : Fn7} {h r zp : Int32} {b : Bool} (hr : r = 1) (hz : zp = 1) : qR r (⟨vS 0 fa, s, u, p, h, decide (zp ≠ 0), b⟩ : Ms7) = some (1, (⟨(0, zero7), s, u, p, h, true, b⟩ : Ms7)) := by
  rw [hr, hz, vS_0]; rfl
def gwI (T : Tr7) (g : Int32) (t : Nat) (m : Ms7) : Option Ms7 := if g = 0 then runP T (20001 - t) t m else if g = 1 then some m else none
theorem go_ini {T : Tr7} {k : Int32} {m : Ms7} (h : iniP T k = some m) : gwI T 0 0 m = (iniP T k).bind (runP T 20001 0) := by
  rw [h]; rfl
theorem run_step {T : Tr7} {t : Nat} {m : Ms7} (ht : t ≤ 20000) : runP T (20001 - t) t m = (stepP T t m).bind (fun q => if q.1 = 0 then runP T (20001 - (t + 1)) (t + 1) q.2 else some q.2) := by
  rw [show 20001 - t = (20001 - (t + 1)) + 1 by omega]; rfl
theorem go_on {T : Tr7} {g r : Int32} {t sp c : Nat} {m m' : Ms7} {s : Ss7} {X : Option Ms7} (h : gwI T g t m = X) (h0 : g = 0) (hst : sp = t) (ht : t ≤ 20000) (hrd : readP T m.2.1 sp = some (c, s)) (hx : qR r m' = perfP T c (⟨m.1, s, m.2.2.1, m.2.2.2.1, m.2.2.2.2.1, m.2.2.2.2.2.1, m.2.2.2.2.2.2⟩ : Ms7)) : gwI T r (t + 1) m' = X := by
  subst hst
  rw [← h, gwI, gwI, if_pos h0, run_step ht, stepP, hrd]
  show _ = (perfP T c (⟨m.1, s, m.2.2.1, m.2.2.2.1, m.2.2.2.2.1, m.2.2.2.2.2.1, m.2.2.2.2.2.2⟩ : Ms7)).bind _
  rw [← hx]
  unfold qR
  by_cases q : r = 0
  · rw [if_pos q, if_pos q]; rfl
  · by_cases q1 : r = 1
    · rw [if_neg q, if_pos q1, if_neg q, if_pos q1]; rfl
    · rw [if_neg q, if_neg q1, if_neg q, if_neg q1]; rfl
theorem go_bad {T : Tr7} {g r : Int32} {t sp : Nat} {m m' : Ms7} {X : Option Ms7} (h : gwI T g t m = X) (h0 : g = 0) (hst : sp = t) (ht : t ≤ 20000) (hrd : r < 0 ∧ readP T m.2.1 sp = none) : gwI T r (t + 1) m' = X := by
  subst hst
  rw [← h, gwI, gwI, if_pos h0, run_step ht, stepP, hrd.2, if_neg (fun z => absurd hrd.1 (by rw [z]; decide)), if_neg (fun z => absurd hrd.1 (by rw [z]; decide))]; rfl
theorem go_fin1 {T : Tr7} {g : Int32} {t : Nat} {v : Vs7} {s : Ss7} {m : Nat} {x y : Int32} {f p : Fn7} {h : Int32} {a b : Bool} {X : Option Ms7} (hg : gwI T g t ⟨v, s, uS m x y f, p, h, a, b⟩ = X) (c : g = 1) : shoP X = (m, trunc (m * 7) f) := by
  rw [← hg, gwI, if_neg (by rw [c]; decide), if_pos c]; rfl
theorem go_fin0 {T : Tr7} {g : Int32} {t : Nat} {m : Ms7} {f : Fn7} {X : Option Ms7} (hg : gwI T g t m = X) (h0 : g = 0 → t = 20001) (c : ¬ g = 1) : shoP X = (0, trunc (0 * 7) f) := by
  rw [← hg, gwI, Nat.zero_mul, trunc_0]
  by_cases q : g = 0
  · rw [if_pos q, h0 q]; rfl
  · rw [if_neg q, if_neg c]; rfl
theorem hasO_no {m i w : Nat} (hi : i < m) (hw : w < 7) (hm : m < 2 ^ 31) : ¬ hasO m (nI i) (nI w) = 0 := by
  unfold hasO
  rw [if_neg (nI_pos (by omega)), if_neg (nI_ge hi hm), if_neg (nI_pos (by omega)), if_neg (fun z => by
    have := (nI_leI (a := 7) (by omega) (by omega)).mp z
    omega)]
  decide
theorem app4_at {f : Nat → Int32} {n : Nat} {x : Int32} : (app4 f n x n &&& (255 : Int32)) = (x >>> ((24 : Int32) &&& 31) &&& (255 : Int32)) ∧ (app4 f n x (n + 1) &&& (255 : Int32)) = (x >>> ((16 : Int32) &&& 31) &&& (255 : Int32)) ∧ (app4 f n x (n + 2) &&& (255 : Int32)) = (x >>> ((8 : Int32) &&& 31) &&& (255 : Int32)) ∧ (app4 f n x (n + 3) &&& (255 : Int32)) = (x &&& (255 : Int32)) := by
  unfold app4
  refine ⟨?_, ?_, ?_, ?_⟩
  · rw [pk_un (by omega), pk_un (by omega), pk_un (by omega), pk_us, and_i8]
  · rw [pk_un (by omega), pk_un (by omega), pk_us, and_i8]
  · rw [pk_un (by omega), pk_us, and_i8]
  · rw [pk_us, and_i8]
theorem fed_4 {x1 x2 x3 x4 x5 x : Int32} {k i : Nat} (hk : ∀ j, j < 4 → (if k + j < 4 then x1 else if k + j < 8 then x2 else if k + j < 12 then x3 else if k + j < 16 then x4 else x5) = x) (h4 : k % 4 = 0) {f : Nat → Int32} {n : Nat} (h : k ≤ i ∧ i < k + 4) : app4 f (n + k) x (n + i) &&& 255 = fed x1 x2 x3 x4 x5 i := by
  obtain ⟨j, hj⟩ : ∃ j, i = k + j := ⟨i - k, by omega⟩
  subst hj
  have hj4 : j < 4 := by omega
  unfold fed
  rw [hk j hj4, show (k + j) % 4 = j by omega]
  have q := app4_at (f := f) (n := n + k) (x := x)
  rcases (show j = 0 ∨ j = 1 ∨ j = 2 ∨ j = 3 by omega) with rfl | rfl | rfl | rfl
  · exact q.1
  · exact q.2.1
  · exact q.2.2.1
  · rw [← Nat.add_assoc, q.2.2.2, show nI (24 - 8 * 3) &&& 31 = (0 : Int32) &&& 31 from by decide, sb_shr0]
theorem fed_ok {f f1 f2 f3 f4 f5 : Nat → Int32} {n : Nat} {x1 x2 x3 x4 x5 : Int32} (h1 : ∀ i, i < n → f1 i = f i) (h2 : ∀ i, i < n + 4 → f2 i = app4 f1 n x1 i) (h3 : ∀ i, i < n + 4 + 4 → f3 i = app4 f2 (n + 4) x2 i) (h4 : ∀ i, i < n + 4 + 4 + 4 → f4 i = app4 f3 (n + 4 + 4) x3 i) (h5 : ∀ i, i < n + 4 + 4 + 4 + 4 → f5 i = app4 f4 (n + 4 + 4 + 4) x4 i) :
    (∀ i, i < n → app4 f5 (n + 4 + 4 + 4 + 4) x5 i = f i) ∧ ∀ i, i < 20 → app4 f5 (n + 4 + 4 + 4 + 4) x5 (n + i) &&& 255 = fed x1 x2 x3 x4 x5 i := by
  constructor
  · intro i hi
    rw [app4_lo (by omega), h5 i (by omega), app4_lo (by omega), h4 i (by omega), app4_lo (by omega), h3 i (by omega), app4_lo (by omega), h2 i (by omega), app4_lo (by omega), h1 i hi]
  · intro i hi
    by_cases k4 : 16 ≤ i
    · exact fed_4 (k := 16) (fun j hj => by rw [if_neg (by omega), if_neg (by omega), if_neg (by omega), if_neg (by omega)]) (by decide) ⟨k4, by omega⟩
    rw [app4_lo (by omega), h5 _ (by omega)]
    by_cases k3 : 12 ≤ i
    · exact fed_4 (k := 12) (fun j hj => by rw [if_neg (by omega), if_neg (by omega), if_neg (by omega), if_pos (by omega)]) (by decide) ⟨k3, by omega⟩
    rw [app4_lo (by omega), h4 _ (by omega)]
    by_cases k2 : 8 ≤ i
    · exact fed_4 (k := 8) (fun j hj => by rw [if_neg (by omega), if_neg (by omega), if_pos (by omega)]) (by decide) ⟨k2, by omega⟩
    rw [app4_lo (by omega), h3 _ (by omega)]
    by_cases k1 : 4 ≤ i
    · exact fed_4 (k := 4) (fun j hj => by rw [if_neg (by omega), if_pos (by omega)]) (by decide) ⟨k1, by omega⟩
    rw [app4_lo (by omega), h2 _ (by omega)]
    exact fed_4 (k := 0) (n := n) (fun j hj => by rw [if_pos (by omega)]) (by decide) ⟨by omega, by omega⟩
