/-! PURE: bytes, numbers, shelves, growth. -/
def iMin (x y : Int32) : Int32 := if x ≤ y then x else y
def iMax (x y : Int32) : Int32 := if y ≤ x then x else y
theorem iMin_N {a b : Nat} (ha : a < 2 ^ 31) (hb : b < 2 ^ 31) : iMin (nI a) (nI b) = nI (min a b) := by
  unfold iMin
  by_cases h : a ≤ b
  · rw [if_pos (nI_le h hb), Nat.min_eq_left h]
  · rw [if_neg (fun z => h ((nI_leI ha hb).mp z)), Nat.min_eq_right (by omega)]
theorem iMax_N {a b : Nat} (ha : a < 2 ^ 31) (hb : b < 2 ^ 31) : iMax (nI a) (nI b) = nI (max a b) := by
  unfold iMax
  by_cases h : b ≤ a
  · rw [if_pos (nI_le h ha), Nat.max_eq_left h]
  · rw [if_neg (fun z => h ((nI_leI hb ha).mp z)), Nat.max_eq_right (by omega)]
/-- what a row of c bytes may still grow by -/
def gF (c : Nat) : Nat := if 16384 ≤ c then 0 else 49152 - 2 * c
theorem gF_grow {c d j : Nat} (h : d = min 16384 (max j (2 * c))) (hc : c < 16384) : d + gF d ≤ gF c := by
  unfold gF
  rw [if_neg (by omega : ¬ 16384 ≤ c)]
  by_cases q : 16384 ≤ d
  · rw [if_pos q]; omega
  · rw [if_neg q]; omega
def atB (n : Nat) (f : Nat → Int32) (i : Int32) : Int32 := if i < 0 then 0 else if nI n ≤ i then 0 else f i.toNatClampNeg &&& 255
theorem in_c {i : Int32} {n cap : Nat} (h1 : ¬ i < 0) (h2 : ¬ nI n ≤ i) (h3 : n ≤ cap) (h4 : n < 2 ^ 31) : vp_in i cap := by
  obtain ⟨j, hj, rfl⟩ := nI_of h1
  have : j < n := by
    rcases Nat.lt_or_ge j n with q | q
    · exact q
    · exact absurd (nI_le q hj) h2
  exact fun h => by
    rcases h with h | h
    · exact h1 h
    · rw [nI_clamp hj] at h; omega
theorem in_d {i : Int32} {n cap : Nat} (h1 : ¬ i < 0) (h2 : i < nI n) (h3 : n ≤ cap) (h4 : n < 2 ^ 31) : vp_in i cap := in_c h1 (Int32.not_le.mpr h2) h3 h4
/-- byte j of a row, 0 behind its end -/
def bt (n : Nat) (f : Nat → Int32) (j : Nat) : Nat := if j < n then (f j).toBitVec.toNat % 256 else 0
theorem and255 (x : Int32) : x &&& 255 = nI (x.toBitVec.toNat % 256) := pk_and x 8 (by decide)
theorem bt_le (n : Nat) (f : Nat → Int32) (j : Nat) : bt n f j ≤ 255 := by
  unfold bt
  split <;> omega
theorem atB_N {n j : Nat} (f : Nat → Int32) (hj : j < 2 ^ 31) (hn : n < 2 ^ 31) : atB n f (nI j) = nI (bt n f j) := by
  unfold atB bt
  rw [if_neg (nI_pos hj)]
  by_cases h : j < n
  · rw [if_neg (nI_ge h hn), if_pos h, nI_clamp hj, and255]
  · rw [if_pos (nI_le (by omega) hj), if_neg h]; rfl
/-- the number of w bytes from byte x on -/
def numX (n : Nat) (f : Nat → Int32) (x : Int32) : Nat → Int64
  | 0 => 0
  | w + 1 => numX n f x w * 256 + (atB n f (x + nI w)).toInt64
def nb (b : Nat → Nat) (i : Nat) : Nat → Nat
  | 0 => 0
  | w + 1 => nb b i w * 256 + b (i + w)
theorem nb_lt {b : Nat → Nat} (hb : ∀ j, b j ≤ 255) (i : Nat) : ∀ w, nb b i w < 256 ^ w
  | 0 => by simp [nb]
  | w + 1 => by
    have h := nb_lt hb i w
    have h2 := hb (i + w)
    rw [Nat.pow_succ]
    simp only [nb]
    omega
theorem nb_lt4 {b : Nat → Nat} (hb : ∀ j, b j ≤ 255) (i : Nat) {w : Nat} (hw : w ≤ 4) : nb b i w < 2 ^ 32 := by
  have h := nb_lt hb i w
  have : 256 ^ w ≤ 256 ^ 4 := Nat.pow_le_pow_right (by decide) hw
  have e : (256 : Nat) ^ 4 = 2 ^ 32 := by decide
  omega
theorem numX_N {n i : Nat} (f : Nat → Int32) (hn : n < 2 ^ 31) : ∀ w, i + w < 2 ^ 31 → numX n f (nI i) w = lN (nb (bt n f) i w)
  | 0, _ => rfl
  | w + 1, h => by
    simp only [numX, nb]
    rw [numX_N f hn w (by omega), nI_add, atB_N f (by omega) hn, nI_l (by have := bt_le n f (i + w); omega)]
    rw [show (256 : Int64) = lN 256 from rfl, lN_mul, lN_add]
def mS (b : Nat → Nat) : Nat := 256 * b 0 + b 1
/-- where string k's offset stands, and the offset -/
def oS (b : Nat → Nat) (k : Nat) : Nat := nb b (3 + k * b 2) (b 2)
def shOk (n : Nat) (b : Nat → Nat) : Prop := 2 ≤ n ∧ (mS b = 0 ∨ (mS b ≤ 2000 ∧ 1 ≤ b 2 ∧ b 2 ≤ 4 ∧ 3 + (mS b + 1) * b 2 ≤ n ∧ oS b 0 = 1 ∧ (∀ k, k < mS b → oS b k ≤ oS b (k + 1)) ∧ 3 + (mS b + 1) * b 2 + oS b (mS b) ≤ n + 1))
def app4 (f : Nat → Int32) (n : Nat) (x : Int32) : Nat → Int32 := upd (upd (upd (upd f n (vp_nar .byte (x >>> (24 &&& 31)).toInt8.toInt32)) (n + 1) (vp_nar .byte (x >>> (16 &&& 31)).toInt8.toInt32)) (n + 2) (vp_nar .byte (x >>> (8 &&& 31)).toInt8.toInt32)) (n + 3) (vp_nar .byte x.toInt8.toInt32)
theorem fit_vb (z : Int32) : fits .byte (.int (vp_nar .byte z.toInt8.toInt32)) = true := by rw [pk_vb]; exact pk_fb z
theorem app4_fit {f : Nat → Int32} {n : Nat} {x : Int32} (h : sb_Fit f) : sb_Fit (app4 f n x) := sb_fitU (sb_fitU (sb_fitU (sb_fitU h (fit_vb _)) (fit_vb _)) (fit_vb _)) (fit_vb _)
theorem app4_lo {f : Nat → Int32} {n j : Nat} {x : Int32} (h : j < n) : app4 f n x j = f j := by
  unfold app4
  rw [pk_un (by omega), pk_un (by omega), pk_un (by omega), pk_un (by omega)]
theorem i8_low (z : Int32) : z.toInt8 = (nI (z.toBitVec.toNat % 256)).toInt8 := by
  apply Int8.toBitVec_inj.mp
  apply BitVec.eq_of_toNat_eq
  rw [Int32.toBitVec_toInt8, Int32.toBitVec_toInt8, BitVec.signExtend_eq_setWidth_of_le _ (by decide), BitVec.signExtend_eq_setWidth_of_le _ (by decide), BitVec.toNat_setWidth, BitVec.toNat_setWidth, pk_tn (by omega)]
  omega
theorem and_i8 (z : Int32) : vp_nar .byte z.toInt8.toInt32 &&& 255 = z &&& 255 := by
  rw [pk_vb, i8_low z, sc_k8 _ (by omega), and255]
/-- byte i of the twenty that five numbers give -/
def fed (x1 x2 x3 x4 x5 : Int32) (i : Nat) : Int32 := (if i < 4 then x1 else if i < 8 then x2 else if i < 12 then x3 else if i < 16 then x4 else x5) >>> (nI (24 - 8 * (i % 4)) &&& 31) &&& 255
def isK (k : Int32) : Int32 := if k < 0 then 0 else if 2 < k then 0 else 1
def okI (n : Nat) (i : Int32) : Prop := ¬ i < 0 ∧ i < nI n
def okB (b : Int32) : Prop := ¬ b < 0 ∧ b ≤ 255
def selK (k : Int32) (p g q : Nat) : Nat := if k = 1 then g else if k = 2 then q else p
def hasS (n : Nat) (k : Int32) : Int32 := if k < 0 then 0 else if nI n ≤ k then 0 else 1
def hasO (n : Nat) (i w : Int32) : Int32 := if i < 0 then 0 else if nI n ≤ i then 0 else if w < 0 then 0 else if 7 ≤ w then 0 else 1
theorem lcmp_ge {x y : Int64} : lg_cmp x y < 0 ↔ x < y := by
  have := lg_cmp_ge x y
  constructor
  · intro h
    exact Int64.not_le.mp (fun z => absurd h (Int32.not_lt.mpr (this.mpr z)))
  · intro h
    exact Int32.not_le.mp (fun z => absurd h (Int64.not_lt.mpr (this.mp z)))
theorem lcmp_eq {x y : Int64} : lg_cmp x y = 0 ↔ x = y := by
  unfold lg_cmp
  constructor
  · intro h
    by_cases q : x > y
    · rw [if_pos q] at h; exact absurd h (by decide)
    · rw [if_neg q] at h
      by_cases r : x = y
      · exact r
      · rw [if_neg r] at h; exact absurd h (by decide)
  · intro h
    subst h
    rw [if_neg (fun z => Int64.lt_irrefl z), if_pos rfl]
theorem lcmp_gt {x y : Int64} : lg_cmp x y > 0 ↔ x > y := by
  unfold lg_cmp
  by_cases q : x > y
  · rw [if_pos q]; exact ⟨fun _ => q, fun _ => by decide⟩
  · rw [if_neg q]
    refine ⟨fun h => ?_, fun h => absurd h q⟩
    by_cases r : x = y
    · rw [if_pos r] at h; exact absurd h (by decide)
    · rw [if_neg r] at h; exact absurd h (by decide)
noncomputable def tF (p : Prop) : Int32 := @ite _ p (Classical.propDecidable p) 1 0
theorem tF_t {p : Prop} (h : p) : tF p = 1 := by unfold tF; rw [if_pos h]
theorem tF_f {p : Prop} (h : ¬ p) : tF p = 0 := by unfold tF; rw [if_neg h]
theorem tF_0 {p : Prop} : tF p = 0 ↔ ¬ p := by
  by_cases h : p
  · rw [tF_t h]; exact ⟨fun z => absurd z (by decide), fun z => absurd h z⟩
  · rw [tF_f h]; exact ⟨fun _ => h, fun _ => rfl⟩
def offR (m n : Nat) (b : Nat → Nat) : Prop := 1 ≤ b 2 ∧ b 2 ≤ 4 ∧ 3 + (m + 1) * b 2 ≤ n ∧ oS b 0 = 1 ∧ (∀ k, k < m → oS b k ≤ oS b (k + 1)) ∧ 3 + (m + 1) * b 2 + oS b m ≤ n + 1
theorem oS_0 (b : Nat → Nat) : oS b 0 = nb b 3 (b 2) := by
  unfold oS
  rw [Nat.zero_mul, Nat.add_zero]
theorem nb_2 (b : Nat → Nat) : nb b 0 2 = mS b := by
  simp only [nb, mS, Nat.zero_add]
  omega
theorem mS_le {b : Nat → Nat} (hb : ∀ j, b j ≤ 255) : mS b ≤ 65535 := by
  have h0 := hb 0
  have h1 := hb 1
  unfold mS
  omega
theorem oS_lt (n : Nat) (f : Nat → Int32) (k : Nat) (h : bt n f 2 ≤ 4) : oS (bt n f) k < 2 ^ 32 := nb_lt4 (bt_le n f) _ h
noncomputable def shV (n : Nat) (b : Nat → Nat) : Int32 := @ite _ (shOk n b) (Classical.propDecidable _) (nI (mS b)) (-2)
theorem shV_t {n : Nat} {b : Nat → Nat} (h : shOk n b) : shV n b = nI (mS b) := by unfold shV; rw [if_pos h]
theorem shV_f {n : Nat} {b : Nat → Nat} (h : ¬ shOk n b) : shV n b = -2 := by unfold shV; rw [if_neg h]
theorem nI_ne_m2 {m : Nat} (h : m < 2 ^ 31) : ¬ nI m = -2 := fun z => nI_pos h (by rw [z]; decide)
theorem shV_m2 {n : Nat} {b : Nat → Nat} (hb : ∀ j, b j ≤ 255) : shV n b = -2 ↔ ¬ shOk n b := by
  by_cases h : shOk n b
  · rw [shV_t h]
    exact ⟨fun z => absurd z (nI_ne_m2 (by have := mS_le hb; omega)), fun z => absurd h z⟩
  · rw [shV_f h]
    exact ⟨fun _ => h, fun _ => rfl⟩
theorem shOk_off {n : Nat} {b : Nat → Nat} (h2 : 2 ≤ n) (h0 : ¬ mS b = 0) (hm : mS b ≤ 2000) : shOk n b ↔ offR (mS b) n b := by
  unfold shOk offR
  constructor
  · rintro ⟨-, h | ⟨-, h⟩⟩
    · exact absurd h h0
    · exact h
  · intro h
    exact ⟨h2, Or.inr ⟨hm, h⟩⟩
theorem shOk_big {n : Nat} {b : Nat → Nat} (hm : ¬ mS b ≤ 2000) : ¬ shOk n b := by
  rintro ⟨-, h | ⟨h, -⟩⟩ <;> omega
theorem shOk_short {n : Nat} {b : Nat → Nat} (hn : n < 2) : ¬ shOk n b := fun h => by have := h.1; omega
def fupd {α : Type} (f : Nat → α) (k : Nat) (x : α) : Nat → α := fun j => if j = k then x else f j
theorem fupd_s {α : Type} (f : Nat → α) (k : Nat) (x : α) : fupd f k x k = x := if_pos rfl
theorem fupd_n {α : Type} (f : Nat → α) {k j : Nat} (x : α) (h : j ≠ k) : fupd f k x j = f j := if_neg h
def startX (m n : Nat) (f : Nat → Int32) (k : Int32) : Int32 := (3 + (nI m + 1) * nI (bt n f 2)) + (numX n f (3 + k * nI (bt n f 2)) (bt n f 2)).toInt32 - 1
theorem in_ok {i : Int32} {n : Nat} (h1 : ¬ i < 0) (h2 : i < nI n) (h4 : n < 2 ^ 31) : ∃ j : Nat, j < n ∧ i = nI j := by
  obtain ⟨j, hj, rfl⟩ := nI_of h1
  exact ⟨j, (nI_ltI hj h4).mp h2, rfl⟩
theorem lt_min {j n : Nat} (h : ¬ n ≤ j) : j = min j n := by omega
theorem lt_le {j n : Nat} (h : ¬ n ≤ j) : j ≤ n := by omega
theorem kind0 {k : Int32} (h : ¬ isK k = 0) (h1 : ¬ k = 1) (h2 : ¬ k = 2) : k = 0 := by
  unfold isK at h
  by_cases a : k < 0
  · simp [a] at h
  · by_cases b : 2 < k
    · simp [a, b] at h
    · obtain ⟨j, hj, rfl⟩ := nI_of a
      have hb : j ≤ 2 := by
        rcases Nat.lt_or_ge 2 j with q | q
        · exact absurd (show nI 2 < nI j from nI_lt q hj) b
        · exact q
      rcases (show j = 0 ∨ j = 1 ∨ j = 2 by omega) with rfl | rfl | rfl
      · rfl
      · exact absurd rfl h1
      · exact absurd rfl h2
