/-! PURE, for p7: contents below a bound; the outline; commands. -/
def trunc (n : Nat) (f : Nat → Int32) : Nat → Int32 := fun j => if j < n then f j else 0
theorem trunc_at {n j : Nat} {f : Nat → Int32} (h : j < n) : trunc n f j = f j := if_pos h
theorem trunc_out {n j : Nat} {f : Nat → Int32} (h : n ≤ j) : trunc n f j = 0 := if_neg (Nat.not_lt.mpr h)
theorem trunc_push {n : Nat} {f : Nat → Int32} {x : Int32} : trunc (n + 1) (upd f n x) = upd (trunc n f) n x := by
  funext j
  by_cases h : j = n
  · subst h; rw [trunc_at (Nat.lt_succ_self _), pk_us, pk_us]
  · rw [pk_un h]
    by_cases q : j < n
    · rw [trunc_at q, trunc_at (by omega), pk_un h]
    · rw [trunc_out (by omega), trunc_out (by omega)]
theorem trunc_less {n k : Nat} {f : Nat → Int32} (h : k ≤ n) : trunc k (trunc n f) = trunc k f := by
  funext j
  by_cases q : j < k
  · rw [trunc_at q, trunc_at q, trunc_at (by omega)]
  · rw [trunc_out (by omega), trunc_out (by omega)]
theorem trunc_ext {n : Nat} {f g : Nat → Int32} (h : ∀ j, j < n → f j = g j) : trunc n f = trunc n g := by
  funext j
  by_cases q : j < n
  · rw [trunc_at q, trunc_at q, h j q]
  · rw [trunc_out (by omega), trunc_out (by omega)]
theorem trunc_set {n k : Nat} {f : Nat → Int32} {x : Int32} (h : k < n) : trunc n (upd f k x) = upd (trunc n f) k x := by
  funext j
  by_cases e : j = k
  · subst e; rw [trunc_at h, pk_us, pk_us]
  · rw [pk_un e]
    by_cases q : j < n
    · rw [trunc_at q, trunc_at q, pk_un e]
    · rw [trunc_out (by omega), trunc_out (by omega)]
def add7 (f : Nat → Int32) (m : Nat) (k tx ty x1 y1 x2 y2 : Int32) : Nat → Int32 := upd (upd (upd (upd (upd (upd (upd f (m * 7) k) (m * 7 + 1) tx) (m * 7 + 2) ty) (m * 7 + 3) x1) (m * 7 + 4) y1) (m * 7 + 5) x2) (m * 7 + 6) y2
theorem trunc_add7 {f : Nat → Int32} {m : Nat} {k tx ty x1 y1 x2 y2 : Int32} : trunc ((m + 1) * 7) (add7 f m k tx ty x1 y1 x2 y2) = add7 (trunc (m * 7) f) m k tx ty x1 y1 x2 y2 := by
  unfold add7
  rw [show (m + 1) * 7 = m * 7 + 6 + 1 by omega, trunc_push, trunc_push, trunc_push, trunc_push, trunc_push, trunc_push, trunc_push]
/-! PURE, for p7: the same reckoning in two forms. -/
theorem i64_msb (x : Int64) : x < 0 ↔ x.toBitVec.msb = true := by
  rw [Int64.lt_iff_toInt_lt, BitVec.msb_eq_toInt, decide_eq_true_iff]
  exact Iff.rfl
theorem i64_xor (x y : Int64) : x ^^^ y < 0 ↔ (¬ (x < 0 ↔ y < 0)) := by
  rw [i64_msb, i64_msb, i64_msb, Int64.toBitVec_xor, BitVec.msb_xor]
  cases x.toBitVec.msb <;> cases y.toBitVec.msb <;> simp
theorem j64_rem {x y : Int64} : x % y = 0 ↔ x / y * y = x := by
  rw [← Int64.toInt_inj, ← Int64.toInt_inj, Int64.toInt_mod, Int64.toInt_mul, Int64.toInt_div, Int.bmod_mul_bmod]
  have hx1 := Int64.toInt_lt x
  have hx2 := Int64.le_toInt x
  have h := Int.mul_tdiv_add_tmod x.toInt y.toInt
  have hb : (x.toInt.tmod y.toInt).natAbs ≤ x.toInt.natAbs := by
    rw [Int.natAbs_tmod]
    exact Nat.mod_le _ _
  have e0 : (0 : Int64).toInt = 0 := rfl
  rw [e0]
  constructor
  · intro z
    rw [z] at h
    rw [show x.toInt.tdiv y.toInt * y.toInt = x.toInt by rw [Int.mul_comm]; omega]
    exact Int.bmod_eq_of_le (by omega) (by omega)
  · intro z
    have h2 : x.toInt.tdiv y.toInt * y.toInt = x.toInt - x.toInt.tmod y.toInt := by rw [Int.mul_comm]; omega
    rw [h2] at z
    have h3 : (x.toInt - x.toInt.tmod y.toInt) % ((2 ^ 64 : Nat) : Int) = x.toInt % ((2 ^ 64 : Nat) : Int) := by
      rw [← Int.bmod_emod, z]
    have e64 : ((2 ^ 64 : Nat) : Int) = 18446744073709551616 := by decide
    rw [e64] at h3
    omega
/-- floorDiv as the JDK has it, and as the reference has it -/
def fdJ (x y : Int64) : Int64 := if x ^^^ y < 0 then (if x / y * y = x then x / y else x / y - 1) else x / y
def fdR (x y : Int64) : Int64 := if x % y = 0 then x / y else if (x < 0 ↔ y < 0) then x / y else x / y - 1
theorem fd_eq (x y : Int64) : fdJ x y = fdR x y := by
  unfold fdJ fdR
  by_cases h : x < 0 ↔ y < 0
  · rw [if_neg (fun z => (i64_xor x y).mp z h), if_pos h]
    split <;> rfl
  · rw [if_pos ((i64_xor x y).mpr h), if_neg h]
    by_cases q : x / y * y = x
    · rw [if_pos q, if_pos (j64_rem.mpr q)]
    · rw [if_neg q, if_neg (fun z => q (j64_rem.mp z))]
theorem i64_shr16 (x : Int64) : (x >>> ((16 : Int32).toInt64 &&& 63)).toInt = x.toInt / 65536 := by
  show (x.toBitVec.sshiftRight (((16 : Int32).toInt64 &&& 63).toBitVec.smod 64).toNat).toInt = _
  rw [show (((16 : Int32).toInt64 &&& 63).toBitVec.smod 64).toNat = 16 by decide, BitVec.toInt_sshiftRight, Int.shiftRight_eq_div_pow]
  rfl
theorem i64_div16 (x : Int64) : (x / 65536).toInt = x.toInt.tdiv 65536 := by
  have hx1 := Int64.toInt_lt x
  have hx2 := Int64.le_toInt x
  rw [Int64.toInt_div, show (65536 : Int64).toInt = 65536 by decide]
  have h := Int.tdiv_eq_ediv (a := x.toInt) (b := 65536)
  rw [h]
  have hs : Int.sign 65536 = 1 := by decide
  rw [hs]
  split
  · exact Int.bmod_eq_of_le (by omega) (by omega)
  · exact Int.bmod_eq_of_le (by omega) (by omega)
theorem shr_floor (x : Int64) : x >>> ((16 : Int32).toInt64 &&& 63) = fdR x 65536 := by
  apply Int64.toInt_inj.mp
  have hx1 := Int64.toInt_lt x
  have hx2 := Int64.le_toInt x
  have hm : x % 65536 = 0 ↔ x.toInt % 65536 = 0 := by
    rw [← Int64.toInt_inj, Int64.toInt_mod, show (65536 : Int64).toInt = 65536 by decide, show (0 : Int64).toInt = 0 from rfl, ← Int.dvd_iff_tmod_eq_zero, Int.dvd_iff_emod_eq_zero]
  have hd := i64_div16 x
  have h := Int.tdiv_eq_ediv (a := x.toInt) (b := 65536)
  have hs : Int.sign 65536 = 1 := by decide
  rw [hs] at h
  have hn : x < 0 ↔ x.toInt < 0 := Int64.lt_iff_toInt_lt
  have h6 : ¬ (65536 : Int64) < 0 := by decide
  rw [i64_shr16]
  unfold fdR
  by_cases q : x % 65536 = 0
  · rw [if_pos q, hd, h, if_pos (Or.inr (Int.dvd_of_emod_eq_zero (hm.mp q)))]
    omega
  · have q' := fun z => q (hm.mpr z)
    rw [if_neg q]
    by_cases r : x < 0
    · rw [if_neg (fun z => h6 (z.mp r)), Int64.toInt_sub, hd, h, show (1 : Int64).toInt = 1 from rfl, if_neg (by
        intro z
        rcases z with z | z
        · have := hn.mp r; omega
        · exact q' (Int.emod_eq_zero_of_dvd z))]
      rw [show x.toInt / 65536 + 1 - 1 = x.toInt / 65536 by omega]
      exact (Int.bmod_eq_of_le (by omega) (by omega)).symm
    · rw [if_pos ⟨fun z => absurd z r, fun z => absurd z h6⟩, hd, h, if_pos (Or.inl (by
        have : ¬ x.toInt < 0 := fun z => r (hn.mpr z)
        omega))]
      omega
theorem root_uniq {v r q : Nat} (h1 : r * r ≤ v) (h2 : v < (r + 1) * (r + 1)) (h3 : q * q ≤ v) (h4 : v < (q + 1) * (q + 1)) : r = q := by
  rcases Nat.lt_trichotomy r q with h | h | h
  · have := Nat.mul_le_mul (show r + 1 ≤ q from h) (show r + 1 ≤ q from h)
    omega
  · exact h
  · have := Nat.mul_le_mul (show q + 1 ≤ r from h) (show q + 1 ≤ r from h)
    omega
/-- one bit of the root -/
theorem root_bit {v a k : Nat} (h2 : v < (a + 2 * k) * (a + 2 * k)) : ((a + k) * (a + k) ≤ v → v < (a + k + k) * (a + k + k)) ∧ (¬ (a + k) * (a + k) ≤ v → v < (a + k) * (a + k)) := by
  refine ⟨fun _ => ?_, fun h => Nat.not_le.mp h⟩
  rw [show a + k + k = a + 2 * k by omega]
  exact h2
/-- one turn of the wheel is so many single rolls -/
def roll1 (f : Nat → Int32) (t n : Nat) : Nat → Int32 := fun j => if t - n ≤ j ∧ j < t then (if j = t - n then f (t - 1) else f (j - 1)) else f j
def rollN (f : Nat → Int32) (t n by' : Nat) : Nat → Int32 := fun j => if t - n ≤ j ∧ j < t then (if j - (t - n) < by' then f (j + n - by') else f (j - by')) else f j
theorem rollN_0 {f : Nat → Int32} {t n : Nat} : rollN f t n 0 = f := by
  funext j
  unfold rollN
  split
  · rw [if_neg (by omega), Nat.sub_zero]
  · rfl
theorem rollN_1 {f : Nat → Int32} {t n b : Nat} (hn : n ≤ t) (hb : b + 1 ≤ n) : roll1 (rollN f t n b) t n = rollN f t n (b + 1) := by
  funext j
  unfold roll1
  by_cases h : t - n ≤ j ∧ j < t
  · rw [if_pos h]
    by_cases q : j = t - n
    · rw [if_pos q]
      unfold rollN
      rw [if_pos (by omega), if_neg (by omega), if_pos h, if_pos (by omega)]
      congr 1
      omega
    · rw [if_neg q]
      unfold rollN
      rw [if_pos (by omega), if_pos h]
      by_cases r : j - (t - n) < b + 1
      · rw [if_pos r, if_pos (by omega)]
        congr 1
        omega
      · rw [if_neg r, if_neg (by omega)]
        congr 1
        omega
  · rw [if_neg h]
    unfold rollN
    rw [if_neg h, if_neg h]
theorem turn_roll {f g : Nat → Int32} {n m b : Nat} (hm : m ≤ n) (hb : b < m) : va_cpy (va_cpy f (va_cpy f g (n - b) 0 b) (n - m) b (m - b)) f 0 (n - m) m = rollN f n m b := by
  funext j
  unfold rollN
  by_cases h : n - m ≤ j ∧ j < n
  · rw [if_pos h, pk_cpy_in h.1 (by omega)]
    by_cases q : j - (n - m) < b
    · rw [if_pos q, pk_cpy_out (by omega), pk_cpy_in (by omega) (by omega)]
      congr 1
      omega
    · rw [if_neg q, pk_cpy_in (by omega) (by omega)]
      congr 1
      omega
  · rw [if_neg h, pk_cpy_out (by omega)]
theorem j32_rem (x y : Int32) : (x - x / y * y).toInt = x.toInt.tmod y.toInt := by
  have hx1 := Int32.toInt_lt x
  have hx2 := Int32.le_toInt x
  have h := Int.mul_tdiv_add_tmod x.toInt y.toInt
  have hb : (x.toInt.tmod y.toInt).natAbs ≤ x.toInt.natAbs := by
    rw [Int.natAbs_tmod]
    exact Nat.mod_le _ _
  have hs : 0 ≤ x.toInt → 0 ≤ x.toInt.tmod y.toInt := fun z => Int.tmod_nonneg _ z
  rw [Int32.toInt_sub, Int32.toInt_mul, Int32.toInt_div, Int.bmod_mul_bmod]
  rw [show x.toInt.tdiv y.toInt * y.toInt = x.toInt - x.toInt.tmod y.toInt by rw [Int.mul_comm]; omega]
  rw [Int.sub_bmod_bmod, show x.toInt - (x.toInt - x.toInt.tmod y.toInt) = x.toInt.tmod y.toInt by omega]
  have hs2 : x.toInt ≤ 0 → x.toInt.tmod y.toInt ≤ 0 := fun z => by
    have := Int.tmod_nonneg (a := -x.toInt) y.toInt (by omega)
    rw [Int.neg_tmod] at this
    omega
  exact Int.bmod_eq_of_le (by omega) (by omega)
/-! PURE, for p7: the steps of a run, on states whose contents are 0 behind their ends. -/
abbrev Fn7 : Type := Nat → Int32
abbrev Vs7 : Type := Nat × Fn7
abbrev Us7 : Type := Nat × Int32 × Int32 × Fn7
abbrev Ss7 : Type := Nat × Fn7 × Fn7 × Fn7
abbrev Sh7 : Type := Nat × Nat × Fn7
abbrev Tr7 : Type := Sh7 × Sh7 × Sh7
def zero7 : Fn7 := fun _ => 0
def vS (n : Nat) (f : Fn7) : Vs7 := (n, trunc n f)
def uS (m : Nat) (x y : Int32) (f : Fn7) : Us7 := (m, x, y, trunc (m * 7) f)
def sS (d : Nat) (k a e : Fn7) : Ss7 := (d, trunc d k, trunc d a, trunc d e)
theorem trunc_0 (f : Fn7) : trunc 0 f = zero7 := funext fun _ => trunc_out (Nat.zero_le _)
theorem vS_0 (f : Fn7) : vS 0 f = (0, zero7) := by rw [vS, trunc_0]
theorem sS_0 (k a e : Fn7) : sS 0 k a e = (0, zero7, zero7, zero7) := by rw [sS, trunc_0, trunc_0, trunc_0]
theorem uS_0 (x y : Int32) (f : Fn7) : uS 0 x y f = (0, x, y, zero7) := by rw [uS, Nat.zero_mul, trunc_0]
/-! answers: of a step (0: goes on, 1: ended, else a fault), of a boolean, of the reference's fault -/
def qR {α : Type} (r : Int32) (s : α) : Option (Int32 × α) := if r = 0 then some (0, s) else if r = 1 then some (1, s) else none
def gP {α : Type} (o : Option α) : Option (Int32 × α) := o.map (fun s => (0, s))
def zR {α : Type} (r : Int32) (s : α) : Option α := if r = 0 then none else some s
def mR {α : Type} (w : Int32) (s : α) : Option α := if w = 0 then some s else none
theorem pR_0 {α : Type} (s : α) : qR 0 s = gP (some s) := by
  unfold qR
  rw [if_pos rfl]
  rfl
theorem pR_no {α : Type} {r : Int32} (h0 : ¬ r = 0) (h1 : ¬ r = 1) (s : α) : qR r s = gP none := by
  unfold qR
  rw [if_neg h0, if_neg h1]
  rfl
theorem pR_ok {α : Type} {r : Int32} {s : α} {o : Option α} (h : qR r s = gP o) (h0 : r = 0) : o = some s := by
  subst h0
  rw [pR_0] at h
  cases o with
  | none => cases h
  | some t => cases h; rfl
theorem pR_bad {α : Type} {r : Int32} {s : α} {o : Option α} (h : qR r s = gP o) (h0 : ¬ r = 0) : o = none ∧ ¬ r = 1 := by
  have h1 : ¬ r = 1 := fun z => by
    subst z
    unfold qR at h
    rw [if_neg h0, if_pos rfl] at h
    cases o with
    | none => cases h
    | some t =>
      have h2 : some (1 : Int32) = some 0 := congrArg (fun q => q.map Prod.fst) h
      exact absurd (Option.some.inj h2) (by decide)
  refine ⟨?_, h1⟩
  rw [pR_no h0 h1] at h
  cases o with
  | none => rfl
  | some t => cases h
theorem pR_map {α β : Type} {r : Int32} {s : α} {o : Option α} (g : α → β) (h : qR r s = gP o) : qR r (g s) = gP (o.map g) := by
  by_cases h0 : r = 0
  · rw [pR_ok h h0, h0, pR_0]; rfl
  · have q := pR_bad h h0
    rw [q.1, pR_no h0 q.2]; rfl
theorem zR_1 {α : Type} (s : α) : zR 1 s = some s := by
  unfold zR
  rw [if_neg (by decide)]
theorem zR_0 {α : Type} (s : α) : zR 0 s = none := by
  unfold zR
  rw [if_pos rfl]
theorem zR_ok {α : Type} {r : Int32} {s : α} {o : Option α} (h : zR r s = o) (h0 : ¬ r = 0) : o = some s := by
  rw [← h]; unfold zR; rw [if_neg h0]
theorem zR_bad {α : Type} {r : Int32} {s : α} {o : Option α} (h : zR r s = o) (h0 : r = 0) : o = none := by
  rw [← h]; unfold zR; rw [if_pos h0]
theorem mR_ok {α : Type} {w : Int32} {s : α} {o : Option α} (h : mR w s = o) (h0 : w = 0) : o = some s := by
  rw [← h]; unfold mR; rw [if_pos h0]
theorem mR_bad {α : Type} {w : Int32} {s : α} {o : Option α} (h : mR w s = o) (h0 : ¬ w = 0) : o = none := by
  rw [← h]; unfold mR; rw [if_neg h0]
theorem mR_0 {α : Type} {w : Int32} (h : w = 0) (s : α) : mR w s = some s := if_pos h
theorem mR_no {α : Type} {w : Int32} (h : ¬ w = 0) (s : α) : mR w s = none := if_neg h
theorem mR_map {α β : Type} {w : Int32} {s : α} {o : Option α} (g : α → β) (h : mR w s = o) : mR w (g s) = o.map g := by
  by_cases h0 : w = 0
  · rw [mR_ok h h0, mR_0 h0]; rfl
  · rw [mR_bad h h0, mR_no h0]; rfl
/-! the operand stack -/
def pushP (v : Vs7) (x : Int32) : Option Vs7 := if v.1 < 48 then some (v.1 + 1, upd v.2 v.1 x) else none
def topP (v : Vs7) : Int32 := v.2 (v.1 - 1)
def popP (v : Vs7) : Vs7 := (v.1 - 1, trunc (v.1 - 1) v.2)
def shr16 (x : Int32) : Int32 := x >>> (16 &&& 31)
def turnP (v : Vs7) (j b : Nat) : Vs7 := (v.1, rollN v.2 v.1 j b)
theorem push_ok {n : Nat} {f : Fn7} {x : Int32} (h : n < 48) : qR 0 (vS (n + 1) (upd f n x)) = gP (pushP (vS n f) x) := by
  rw [pR_0, pushP, if_pos (show (vS n f).1 < 48 from h), vS, trunc_push]
  rfl
theorem push_no {n : Nat} {f : Fn7} {x : Int32} (h : ¬ n < 48) : qR (-4) (vS n f) = gP (pushP (vS n f) x) := by
  rw [pR_no (by decide) (by decide), pushP, if_neg (show ¬ (vS n f).1 < 48 from h)]
theorem pop_0 {n : Nat} {f : Fn7} (h : n = 0) : (0 : Int32) = topP (vS n f) ∧ vS n f = popP (vS n f) := by
  subst h
  refine ⟨(trunc_out (n := 0) (j := 0 - 1) (f := f) (Nat.zero_le _)).symm, ?_⟩
  rw [vS_0]
  show _ = (0 - 1, trunc (0 - 1) zero7)
  rw [Nat.zero_sub, trunc_0]
theorem pop_ok {n : Nat} {f : Fn7} (h : ¬ n = 0) : f (n - 1) = topP (vS n f) ∧ vS (n - 1) f = popP (vS n f) := by
  refine ⟨(trunc_at (by omega : n - 1 < n)).symm, ?_⟩
  show (n - 1, trunc (n - 1) f) = (n - 1, trunc (n - 1) (trunc n f))
  rw [trunc_less (by omega)]
theorem atV_N {n j : Nat} {f : Fn7} (hj : j < 2 ^ 31) (hn : n < 2 ^ 31) : atV n f (nI j) = trunc n f j := by
  unfold atV
  rw [if_neg (nI_pos hj)]
  by_cases h : j < n
  · rw [if_neg (nI_ge h hn), nI_clamp hj, trunc_at h]
  · rw [if_pos (nI_le (by omega) hj), trunc_out (by omega)]
theorem trunc_roll {n m b : Nat} {f : Fn7} (hm : m ≤ n) (hb : b < m) : trunc n (rollN f n m b) = rollN (trunc n f) n m b := by
  funext j
  unfold rollN
  by_cases q : j < n
  · rw [trunc_at q]
    by_cases h : n - m ≤ j ∧ j < n
    · rw [if_pos h, if_pos h]
      by_cases r : j - (n - m) < b
      · rw [if_pos r, if_pos r, trunc_at (by omega)]
      · rw [if_neg r, if_neg r, trunc_at (by omega)]
    · rw [if_neg h, if_neg h, trunc_at q]
  · rw [trunc_out (by omega), if_neg (by omega), trunc_out (by omega)]
/-! reckoning -/
def fmN (x : Int32) (n : Nat) : Nat := (x.toInt % (n : Int)).toNat
def rollP (v : Vs7) (j b : Int32) : Option Vs7 :=
  if j < 0 then none else if v.1 < j.toNatClampNeg then none else if j.toNatClampNeg = 0 then some v else some (turnP v j.toNatClampNeg (fmN b j.toNatClampNeg))
def loadP (p : Fn7) (i : Int32) (v : Vs7) : Option Vs7 := if i < 0 then none else if 32 ≤ i then none else pushP v (p i.toNatClampNeg)
def storeP (p : Fn7) (x i : Int32) : Option Fn7 := if i < 0 then none else if 32 ≤ i then none else some (upd p i.toNatClampNeg x)
def belowP (i : Int32) (v : Vs7) : Option Vs7 := if nI v.1 ≤ i then none else pushP v (v.2 (v.1 - 1 - i.toNatClampNeg))
def rootB (v : Nat) : Nat → Nat → Nat
  | 0, a => a
  | j + 1, a => if (a + 2 ^ j) * (a + 2 ^ j) ≤ v then rootB v j (a + 2 ^ j) else rootB v j a
def rootN (v : Nat) : Nat := rootB v 24 0
def oneP (c : Nat) (v : Vs7) (p : Fn7) : Option Vs7 :=
  if c = 283 then pushP v (topP v)
  else if c = 261 then pushP (popP v) (if topP v = 0 then 65536 else 0)
  else if c = 265 then pushP (popP v) (if topP v < 0 then - topP v else topP v)
  else if c = 270 then pushP (popP v) (- topP v)
  else if c = 277 then loadP p (shr16 (topP v)) (popP v)
  else if c = 282 then (if topP v < 0 then none else pushP (popP v) (nI (rootN ((topP v).toNatClampNeg * 65536))))
  else if c = 285 then belowP (iMax (shr16 (topP v)) 0) (popP v)
  else some (popP v)
def twoQ (c : Nat) (a b : Int32) (w : Vs7) : Option Vs7 :=
  if c = 259 then pushP w (if a = 0 then 0 else if b = 0 then 0 else 65536)
  else if c = 260 then pushP w (if a = 0 then (if b = 0 then 0 else 65536) else 65536)
  else if c = 266 then pushP w (a + b)
  else if c = 267 then pushP w (a - b)
  else if c = 268 then (if b = 0 then none else pushP w (fdR (a.toInt64 * 65536) b.toInt64).toInt32)
  else if c = 271 then pushP w (if a = b then 65536 else 0)
  else if c = 280 then pushP w (fdR (a.toInt64 * b.toInt64) 65536).toInt32
  else if c = 284 then (pushP w b).bind (fun q => pushP q a)
  else rollP w (shr16 a) (shr16 b)
def twoP (c : Nat) (v : Vs7) (p : Fn7) : Option (Vs7 × Fn7) :=
  if c = 276 then (storeP p (topP (popP v)) (shr16 (topP v))).map (fun q => (popP (popP v), q))
  else (twoQ c (topP (popP v)) (topP v) (popP (popP v))).map (fun q => (q, p))
def chooP (v : Vs7) : Option Vs7 :=
  pushP (popP (popP (popP (popP v)))) (if topP v < topP (popP v) then topP (popP (popP v)) else topP (popP (popP (popP v))))
def takN (c : Nat) : Nat :=
  if c = 261 ∨ c = 265 ∨ c = 270 ∨ c = 274 ∨ c = 277 ∨ c = 282 ∨ c = 283 ∨ c = 285 then 1
  else if c = 259 ∨ c = 260 ∨ c = 266 ∨ c = 267 ∨ c = 268 ∨ c = 271 ∨ c = 276 ∨ c = 280 ∨ c = 284 ∨ c = 286 then 2
  else if c = 278 then 4 else 0
def reckP (c : Nat) (v : Vs7) (p : Fn7) : Option (Vs7 × Fn7) :=
  if takN c = 0 then none else if v.1 < takN c then none
  else if takN c = 1 then (oneP c v p).map (fun q => (q, p))
  else if takN c = 2 then twoP c v p
  else (chooP v).map (fun q => (q, p))
/-! drawing -/
abbrev Cmd : Type := Bool × Int32 × Int32 × Int32 × Int32 × Int32 × Int32
def addP (u : Us7) (k x1 y1 x2 y2 tx ty : Int32) : Option Us7 := if u.1 < 4000 then some (u.1 + 1, tx, ty, add7 u.2.2.2 u.1 k tx ty x1 y1 x2 y2) else none
def moveU (u : Us7) (dx dy : Int32) : Option Us7 := addP u 0 0 0 0 0 (u.2.1 + dx) (u.2.2.1 + dy)
def lineP (u : Us7) (dx dy : Int32) : Option Us7 := addP u 1 0 0 0 0 (u.2.1 + dx) (u.2.2.1 + dy)
def curveP (u : Us7) (a b c d e f : Int32) : Option Us7 := addP u 2 (u.2.1 + a) (u.2.2.1 + b) (u.2.1 + a + c) (u.2.2.1 + b + d) (u.2.1 + a + c + e) (u.2.2.1 + b + d + f)
def cmdP (u : Us7) (c : Cmd) : Option Us7 := match c with
  | (true, a, b, c, d, e, f) => curveP u a b c d e f
  | (false, a, b, _) => lineP u a b
def drawAll (u : Us7) : List Cmd → Option Us7
  | [] => some u
  | c :: cs => (cmdP u c).bind (fun w => drawAll w cs)
def lineC (a b : Int32) : Cmd := (false, a, b, 0, 0, 0, 0)
def curveC (a b c d e f : Int32) : Cmd := (true, a, b, c, d, e, f)
def cmdsL (c : Nat → Cmd) (s : Nat) : Nat → Nat → List Cmd
  | _, 0 => []
  | i, k + 1 => c i :: cmdsL c s (i + s) k
def linC (f : Fn7) (i : Nat) : Cmd := lineC (f i) (f (i + 1))
def sixC (f : Fn7) (i : Nat) : Cmd := curveC (f i) (f (i + 1)) (f (i + 2)) (f (i + 3)) (f (i + 4)) (f (i + 5))
def turC (f : Fn7) (z : Bool) (i : Nat) : Cmd := if decide (i % 2 = 0) = z then lineC (f i) 0 else lineC 0 (f i)
def acrC (f : Fn7) (i : Nat) : Cmd := curveC (f i) (if i = 1 then f 0 else 0) (f (i + 1)) (f (i + 2)) (f (i + 3)) 0
def uprC (f : Fn7) (i : Nat) : Cmd := curveC (if i = 1 then f 0 else 0) (f i) (f (i + 1)) (f (i + 2)) 0 (f (i + 3))
def wavC (f : Fn7) (n : Nat) (z : Bool) (i : Nat) : Cmd :=
  if decide (i % 8 = 0) = z then curveC (f i) 0 (f (i + 1)) (f (i + 2)) (if i + 5 = n then f (i + 4) else 0) (f (i + 3))
  else curveC 0 (f i) (f (i + 1)) (f (i + 2)) (f (i + 3)) (if i + 5 = n then f (i + 4) else 0)
def absL (x : Int32) : Int64 := if x.toInt64 < 0 then - x.toInt64 else x.toInt64
def fleE (f : Fn7) (dx dy : Int32) : List Cmd :=
  [sixC f 0, curveC (f 6) (f 7) (f 8) (f 9) (if absL dy < absL dx then f 10 else -dx) (if absL dy < absL dx then -dy else f 10)]
def drawL (c n : Nat) (f : Fn7) : List Cmd :=
  if c = 5 then cmdsL (linC f) 2 0 (n / 2)
  else if c = 6 then cmdsL (turC f true) 1 0 n
  else if c = 7 then cmdsL (turC f false) 1 0 n
  else if c = 8 then cmdsL (sixC f) 6 0 (n / 6)
  else if c = 24 then cmdsL (sixC f) 6 0 ((n - 2) / 6) ++ [linC f (n - 2)]
  else if c = 25 then cmdsL (linC f) 2 0 ((n - 6) / 2) ++ [sixC f (n - 6)]
  else if c = 26 then cmdsL (uprC f) 4 (n % 4) (n / 4)
  else if c = 27 then cmdsL (acrC f) 4 (n % 4) (n / 4)
  else if c = 290 then [curveC (f 0) 0 (f 1) (f 2) (f 3) 0, curveC (f 4) 0 (f 5) (-(f 2)) (f 6) 0]
  else if c = 291 then [sixC f 0, sixC f 6]
  else if c = 292 then [curveC (f 0) (f 1) (f 2) (f 3) (f 4) 0, curveC (f 5) 0 (f 6) (f 7) (f 8) (-(f 1 + f 3 + f 7))]
  else if c = 293 then fleE f (0 + f 0 + f 2 + f 4 + f 6 + f 8) (0 + f 1 + f 3 + f 5 + f 7 + f 9)
  else if c = 30 then cmdsL (wavC f n false) 4 0 (n / 4)
  else cmdsL (wavC f n true) 4 0 (n / 4)
def isDr (c : Nat) : Bool := decide (c = 5 ∨ c = 6 ∨ c = 7 ∨ c = 8 ∨ c = 24 ∨ c = 25 ∨ c = 26 ∨ c = 27 ∨ c = 30 ∨ c = 31 ∨ c = 290 ∨ c = 291 ∨ c = 292 ∨ c = 293)
def takD (c n : Nat) : Bool :=
  if c = 5 then decide (2 ≤ n ∧ n % 2 = 0)
  else if c = 6 ∨ c = 7 then decide (1 ≤ n)
  else if c = 8 then decide (6 ≤ n ∧ n % 6 = 0)
  else if c = 24 then decide (8 ≤ n ∧ n % 6 = 2)
  else if c = 25 then decide (8 ≤ n ∧ n % 2 = 0)
  else if c = 290 then decide (n = 7)
  else if c = 291 then decide (n = 13)
  else if c = 292 then decide (n = 9)
  else if c = 293 then decide (n = 11)
  else decide (4 ≤ n ∧ n % 4 ≤ 1)
def drawP (c : Nat) (v : Vs7) (u : Us7) (mv : Bool) : Option (Vs7 × Us7) :=
  if takD c v.1 = false then none else if mv = false then none else (drawAll u (drawL c v.1 v.2)).map (fun q => ((0, zero7), q))
/-! the strings that are gone through -/
def selT (T : Tr7) (k : Int32) : Sh7 := if k = 1 then T.2.1 else if k = 2 then T.2.2 else T.1
def hasP (s : Ss7) (b : Int32) : Bool := decide (0 < s.1 ∧ b ≤ s.2.2.2 (s.1 - 1) - s.2.2.1 (s.1 - 1))
def curP (T : Tr7) (s : Ss7) : Int32 := atB (selT T (s.2.1 (s.1 - 1))).2.1 (selT T (s.2.1 (s.1 - 1))).2.2 (s.2.2.1 (s.1 - 1))
def passP (s : Ss7) (b : Int32) : Ss7 := (s.1, s.2.1, upd s.2.2.1 (s.1 - 1) (s.2.2.1 (s.1 - 1) + b), s.2.2.2)
def passN (s : Ss7) : Nat → Ss7
  | 0 => s
  | k + 1 => passP (passN s k) 1
def numB (T : Tr7) (s : Ss7) : Nat → Int32
  | 0 => 0
  | k + 1 => numB T s k <<< (8 &&& 31) ||| curP T (passN s k)
def enterP (T : Tr7) (s : Ss7) (kind k : Int32) : Option Ss7 :=
  if hasS (selT T kind).1 k = 0 then none else if 10 ≤ s.1 then none
  else some (s.1 + 1, upd s.2.1 s.1 kind, upd s.2.2.1 s.1 (startX (selT T kind).1 (selT T kind).2.1 (selT T kind).2.2 k), upd s.2.2.2 s.1 (startX (selT T kind).1 (selT T kind).2.1 (selT T kind).2.2 (k + 1)))
def leaveP (s : Ss7) : Option Ss7 := if s.1 ≤ 1 then none else some (s.1 - 1, trunc (s.1 - 1) s.2.1, trunc (s.1 - 1) s.2.2.1, trunc (s.1 - 1) s.2.2.2)
def curN (T : Tr7) (s : Ss7) : Nat := (curP T s).toNatClampNeg
def readP (T : Tr7) (s : Ss7) (sp : Nat) : Option (Nat × Ss7) :=
  if hasP s 1 = false then none else if 20000 ≤ sp then none
  else if curN T s = 12 then (if hasP (passP s 1) 1 = false then none else some (256 + curN T (passP s 1), passP (passP s 1) 1))
  else some (curN T s, passP s 1)
def behP (c : Nat) : Nat := if c = 28 then 2 else if c = 255 then 4 else if c < 247 then 0 else 1
def valP (c : Nat) (x : Int32) : Int32 :=
  if c = 255 then x else if c = 28 then x <<< (16 &&& 31) else if c < 247 then 65536 * (nI c - 139)
  else if c < 251 then 65536 * (256 * (nI c - 247) + x + 108) else 65536 * ((-256) * (nI c - 251) - x - 108)
def numP (T : Tr7) (c : Nat) (v : Vs7) (s : Ss7) : Option (Vs7 × Ss7) :=
  if hasP s (nI (behP c)) = false then none else (pushP v (valP c (numB T s (behP c)))).map (fun q => (q, passN s (behP c)))
/-! widths, hints, moves, ends, calls -/
def widP (n k : Nat) (ps : Bool) : Bool := decide (n = k ∨ (n = k + 1 ∧ ps = false))
def hintP (v : Vs7) (h : Int32) (ps : Bool) : Option (Vs7 × Int32 × Bool) :=
  if widP v.1 (2 * (v.1 / 2)) ps = false then none else if 96 < h + nI (v.1 / 2) then none else some ((0, zero7), h + nI (v.1 / 2), true)
def maskP (v : Vs7) (h : Int32) (ps : Bool) (s : Ss7) : Option ((Vs7 × Int32 × Bool) × Ss7) :=
  (hintP v h ps).bind (fun q => if hasP s ((q.2.1 + 7) / 8) = false then none else some (q, passP s ((q.2.1 + 7) / 8)))
def moveP (c : Nat) (v : Vs7) (u : Us7) (ps : Bool) : Option (Vs7 × Us7) :=
  if widP v.1 (if c = 21 then 2 else 1) ps = false then none
  else (moveU u (if c = 4 then 0 else topP (if c = 22 then v else popP v)) (if c = 22 then 0 else topP v)).map (fun q => ((0, zero7), q))
def callP (T : Tr7) (kind : Int32) (v : Vs7) (s : Ss7) : Option (Vs7 × Ss7) :=
  if v.1 = 0 then none else (enterP T s kind (shr16 (topP v) + (if nI (selT T kind).1 < 1240 then 107 else 1131))).map (fun q => (popP v, q))
/-! a step -/
abbrev Ms7 : Type := Vs7 × Ss7 × Us7 × Fn7 × Int32 × Bool × Bool
def perfP (T : Tr7) (c : Nat) (m : Ms7) : Option (Int32 × Ms7) :=
  if c = 28 ∨ (32 ≤ c ∧ c < 256) then gP ((numP T c m.1 m.2.1).map (fun q => (⟨q.1, q.2, m.2.2.1, m.2.2.2.1, m.2.2.2.2.1, m.2.2.2.2.2.1, m.2.2.2.2.2.2⟩ : Ms7)))
  else if isDr c = true then gP ((drawP c m.1 m.2.2.1 m.2.2.2.2.2.2).map (fun q => (⟨q.1, m.2.1, q.2, m.2.2.2.1, m.2.2.2.2.1, m.2.2.2.2.2.1, m.2.2.2.2.2.2⟩ : Ms7)))
  else if c = 1 ∨ c = 3 ∨ c = 18 ∨ c = 23 then (if m.1.1 < 2 then gP none else gP ((hintP m.1 m.2.2.2.2.1 m.2.2.2.2.2.1).map (fun q => (⟨q.1, m.2.1, m.2.2.1, m.2.2.2.1, q.2.1, q.2.2, m.2.2.2.2.2.2⟩ : Ms7))))
  else if c = 19 ∨ c = 20 then gP ((maskP m.1 m.2.2.2.2.1 m.2.2.2.2.2.1 m.2.1).map (fun q => (⟨q.1.1, q.2, m.2.2.1, m.2.2.2.1, q.1.2.1, q.1.2.2, m.2.2.2.2.2.2⟩ : Ms7)))
  else if c = 4 ∨ c = 21 ∨ c = 22 then gP ((moveP c m.1 m.2.2.1 m.2.2.2.2.2.1).map (fun q => (⟨q.1, m.2.1, q.2, m.2.2.2.1, m.2.2.2.2.1, true, true⟩ : Ms7)))
  else if c = 14 then (if widP m.1.1 0 m.2.2.2.2.2.1 = false then gP none else some (1, (⟨(0, zero7), m.2.1, m.2.2.1, m.2.2.2.1, m.2.2.2.2.1, true, m.2.2.2.2.2.2⟩ : Ms7)))
  else if c = 10 then gP ((callP T 2 m.1 m.2.1).map (fun q => (⟨q.1, q.2, m.2.2.1, m.2.2.2.1, m.2.2.2.2.1, m.2.2.2.2.2.1, m.2.2.2.2.2.2⟩ : Ms7)))
  else if c = 29 then gP ((callP T 1 m.1 m.2.1).map (fun q => (⟨q.1, q.2, m.2.2.1, m.2.2.2.1, m.2.2.2.2.1, m.2.2.2.2.2.1, m.2.2.2.2.2.2⟩ : Ms7)))
  else if c = 11 then gP ((leaveP m.2.1).map (fun q => (⟨m.1, q, m.2.2.1, m.2.2.2.1, m.2.2.2.2.1, m.2.2.2.2.2.1, m.2.2.2.2.2.2⟩ : Ms7)))
  else gP ((reckP c m.1 m.2.2.2.1).map (fun q => (⟨q.1, m.2.1, m.2.2.1, q.2, m.2.2.2.2.1, m.2.2.2.2.2.1, m.2.2.2.2.2.2⟩ : Ms7)))
def stepP (T : Tr7) (sp : Nat) (m : Ms7) : Option (Int32 × Ms7) := (readP T m.2.1 sp).bind (fun q => perfP T q.1 (⟨m.1, q.2, m.2.2.1, m.2.2.2.1, m.2.2.2.2.1, m.2.2.2.2.2.1, m.2.2.2.2.2.2⟩ : Ms7))
def runP (T : Tr7) : Nat → Nat → Ms7 → Option Ms7
  | 0, _, _ => none
  | k + 1, sp, m => (stepP T sp m).bind (fun q => if q.1 = 0 then runP T k (sp + 1) q.2 else some q.2)
def iniP (T : Tr7) (k : Int32) : Option Ms7 := (enterP T (0, zero7, zero7, zero7) 0 k).map (fun q => ⟨(0, zero7), q, (0, 0, 0, zero7), zero7, 0, false, false⟩)
/-- what is shown behind a run -/
def shoP (o : Option Ms7) : Nat × Fn7 := match o with
  | none => (0, zero7)
  | some m => (m.2.2.1.1, m.2.2.1.2.2.2)
/-! PURE, for p7: what the rows of values, outline and strings need. -/
theorem add_ok {m : Nat} {x y k x1 y1 x2 y2 tx ty : Int32} {f : Fn7} (h : m < 4000) : zR 1 (uS (m + 1) tx ty (add7 f m k tx ty x1 y1 x2 y2)) = addP (uS m x y f) k x1 y1 x2 y2 tx ty := by
  rw [zR_1, addP, if_pos (show (uS m x y f).1 < 4000 from h), uS, trunc_add7]
  rfl
theorem add_no {m : Nat} {x y k x1 y1 x2 y2 tx ty : Int32} {f : Fn7} (h : ¬ m < 4000) : zR 0 (uS m x y f) = addP (uS m x y f) k x1 y1 x2 y2 tx ty := by
  rw [zR_0, addP, if_neg (show ¬ (uS m x y f).1 < 4000 from h)]
theorem uS_cpy {m c : Nat} {x y : Int32} {f g : Fn7} (h : 7 * m ≤ c) : uS m x y (va_cpy f g 0 0 c) = uS m x y f := by
  show (m, x, y, trunc (m * 7) (va_cpy f g 0 0 c)) = (m, x, y, trunc (m * 7) f)
  rw [trunc_ext (n := m * 7) (f := va_cpy f g 0 0 c) (g := f) (fun j hj => sb_cpy0 (by omega))]
theorem upd_all {k : Nat} {g : Fn7} {x : Int32} (h : ∀ i, i < k → g i = x) : ∀ i, i < k + 1 → upd g k x i = x := fun i hi => by
  by_cases q : i = k
  · subst q; exact pk_us
  · rw [pk_un q]; exact h i (by omega)
theorem trunc_z {n : Nat} {f : Fn7} (h : ∀ i, i < n → f i = 0) : trunc n f = zero7 := by
  funext j
  by_cases q : j < n
  · rw [trunc_at q, h j q]; rfl
  · rw [trunc_out (by omega)]; rfl
theorem en_call {T : Tr7} {S : Sh7} {s : Ss7} {kind k : Int32} (hS : selT T kind = S) (h : hasS S.1 k = 0) : qR (-8) s = gP (enterP T s kind k) := by
  rw [pR_no (by decide) (by decide), enterP, hS, if_pos h]
theorem en_deep {T : Tr7} {S : Sh7} {d : Nat} {fk fl fz : Fn7} {kind k : Int32} (hS : selT T kind = S) (h : ¬ hasS S.1 k = 0) (hd : 10 ≤ d) : qR (-9) (sS d fk fl fz) = gP (enterP T (sS d fk fl fz) kind k) := by
  rw [pR_no (by decide) (by decide), enterP, hS, if_neg h, if_pos (show 10 ≤ (sS d fk fl fz).1 from hd)]
theorem en_ok {T : Tr7} {S : Sh7} {d : Nat} {fk fl fz : Fn7} {kind k : Int32} (hS : selT T kind = S) (h : ¬ hasS S.1 k = 0) (hd : ¬ 10 ≤ d) : qR 0 (sS (d + 1) (upd fk d kind) (upd fl d (startX S.1 S.2.1 S.2.2 k)) (upd fz d (startX S.1 S.2.1 S.2.2 (k + 1)))) = gP (enterP T (sS d fk fl fz) kind k) := by
  rw [pR_0, enterP, hS, if_neg h, if_neg (show ¬ 10 ≤ (sS d fk fl fz).1 from hd), sS, trunc_push, trunc_push, trunc_push]
  rfl
theorem en_some {T : Tr7} {s : Ss7} {r k : Int32} (hk : ¬ hasS T.1.1 k = 0) (h : qR r s = gP (enterP T (0, zero7, zero7, zero7) 0 k)) : enterP T (0, zero7, zero7, zero7) 0 k = some s := by
  by_cases h0 : r = 0
  · exact pR_ok h h0
  · have q := (pR_bad h h0).1
    rw [enterP, if_neg (show ¬ hasS (selT T 0).1 k = 0 from hk), if_neg (by decide)] at q
    cases q
theorem le_no {d : Nat} {fk fl fz : Fn7} (h : d ≤ 1) : qR (-5) (sS d fk fl fz) = gP (leaveP (sS d fk fl fz)) := by
  rw [pR_no (by decide) (by decide), leaveP, if_pos (show (sS d fk fl fz).1 ≤ 1 from h)]
theorem le_ok {d : Nat} {fk fl fz : Fn7} (h : ¬ d ≤ 1) : qR 0 (sS (d - 1) fk fl fz) = gP (leaveP (sS d fk fl fz)) := by
  rw [pR_0, leaveP, if_neg (show ¬ (sS d fk fl fz).1 ≤ 1 from h)]
  show gP (some (d - 1, trunc (d - 1) fk, trunc (d - 1) fl, trunc (d - 1) fz)) = gP (some (d - 1, trunc (d - 1) (trunc d fk), trunc (d - 1) (trunc d fl), trunc (d - 1) (trunc d fz)))
  rw [trunc_less (by omega), trunc_less (by omega), trunc_less (by omega)]
theorem hasP_at {d : Nat} {fk fl fz : Fn7} {b : Int32} (h : 0 < d) : hasP (sS d fk fl fz) b = decide (b ≤ fz (d - 1) - fl (d - 1)) := by
  show decide (0 < d ∧ b ≤ trunc d fz (d - 1) - trunc d fl (d - 1)) = _
  rw [trunc_at (by omega), trunc_at (by omega)]
  simp [h]
theorem has_0 {d : Nat} {fk fl fz : Fn7} {b : Int32} (h : d ≤ 0) : (0 : Int32) = (if hasP (sS d fk fl fz) b = true then 1 else 0) := by
  have : hasP (sS d fk fl fz) b = false := decide_eq_false (fun z => by have := z.1; exact absurd (show 0 < d from this) (by omega))
  rw [this]; rfl
theorem has_no {d : Nat} {fk fl fz : Fn7} {b : Int32} (h : 0 < d) (hc : fz (d - 1) - fl (d - 1) < b) : (0 : Int32) = (if hasP (sS d fk fl fz) b = true then 1 else 0) := by
  rw [hasP_at h, decide_eq_false (Int32.not_le.mpr hc)]; rfl
theorem has_ok {d : Nat} {fk fl fz : Fn7} {b : Int32} (h : 0 < d) (hc : ¬ fz (d - 1) - fl (d - 1) < b) : (1 : Int32) = (if hasP (sS d fk fl fz) b = true then 1 else 0) := by
  rw [hasP_at h, decide_eq_true (Int32.not_lt.mp hc)]; rfl
theorem selK_1 {k : Int32} {p g q : Nat} (h : k = 1) : selK k p g q = g := by rw [selK, if_pos h]
theorem selK_2 {k : Int32} {p g q : Nat} (h1 : ¬ k = 1) (h : k = 2) : selK k p g q = q := by rw [selK, if_neg h1, if_pos h]
theorem selK_0 {k : Int32} {p g q : Nat} (h1 : ¬ k = 1) (h : ¬ k = 2) : selK k p g q = p := by rw [selK, if_neg h1, if_neg h]
theorem sel_1 {T : Tr7} {k : Int32} (h : k = 1) : selT T k = T.2.1 := by rw [selT, if_pos h]
theorem sel_2 {T : Tr7} {k : Int32} (h1 : ¬ k = 1) (h : k = 2) : selT T k = T.2.2 := by rw [selT, if_neg h1, if_pos h]
theorem sel_0 {T : Tr7} {k : Int32} (h1 : ¬ k = 1) (h : ¬ k = 2) : selT T k = T.1 := by rw [selT, if_neg h1, if_neg h]
theorem pass_ok {d : Nat} {fk fl fz : Fn7} {b : Int32} (h : 0 < d) : sS d fk (upd fl (d - 1) (fl (d - 1) + b)) fz = passP (sS d fk fl fz) b := by
  show (d, trunc d fk, trunc d (upd fl (d - 1) (fl (d - 1) + b)), trunc d fz) = (d, trunc d fk, upd (trunc d fl) (d - 1) (trunc d fl (d - 1) + b), trunc d fz)
  rw [trunc_set (by omega), trunc_at (by omega)]
theorem next_ok {T : Tr7} {S : Sh7} {d : Nat} {fk fl fz : Fn7} (h : 0 < d) (hS : selT T (fk (d - 1)) = S) : atB S.2.1 S.2.2 (fl (d - 1)) = curP T (sS d fk fl fz) ∧ sS d fk (upd fl (d - 1) (fl (d - 1) + 1)) fz = passP (sS d fk fl fz) 1 := by
  refine ⟨?_, pass_ok h⟩
  show _ = atB (selT T (trunc d fk (d - 1))).2.1 (selT T (trunc d fk (d - 1))).2.2 (trunc d fl (d - 1))
  rw [trunc_at (by omega), trunc_at (by omega), hS]
