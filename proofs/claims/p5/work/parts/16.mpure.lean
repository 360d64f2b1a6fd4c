/-! PURE, for the reference. -/
theorem upd_eq {f : Nat → Int32} {k j : Nat} {x : Int32} (h : j = k) : upd f k x j = x := by subst h; exact pk_us
def failW (x w : Int32) : Int32 := if w = 0 then x else w
/-- the strings that are gone through: kinds, places, ends -/
def IST (d : Nat) (k a e : Nat → Int32) : Prop := ∀ j, j < d → ∃ kk p z : Nat, k j = nI kk ∧ kk < 3 ∧ a j = nI p ∧ e j = nI z ∧ p ≤ z ∧ z ≤ 16384
theorem IST_0 (k a e : Nat → Int32) : IST 0 k a e := fun j h => absurd h (Nat.not_lt_zero _)
theorem IST_less {d d' : Nat} {k a e : Nat → Int32} (h : IST d k a e) (hd : d' ≤ d) : IST d' k a e := fun j hj => h j (by omega)
theorem IST_next {d : Nat} {k a e : Nat → Int32} {q p z kk : Nat} (h : IST d k a e) (hk : k q = nI kk) (hkk : kk < 3) (he : e q = nI z) (hp : p < z) (hz : z ≤ 16384) : IST d k (upd a q (nI (p + 1))) e := by
  intro j hj
  by_cases hq : j = q
  · subst hq
    exact ⟨kk, p + 1, z, hk, hkk, pk_us, he, by omega, hz⟩
  · obtain ⟨kk', p', z', h1, h2, h3, h4, h5, h6⟩ := h j hj
    exact ⟨kk', p', z', h1, h2, by rw [pk_un hq]; exact h3, h4, h5, h6⟩
theorem IST_push {d : Nat} {k a e : Nat → Int32} {kk p z : Nat} (h : IST d k a e) (hkk : kk < 3) (hp : p ≤ z) (hz : z ≤ 16384) : IST (d + 1) (upd k d (nI kk)) (upd a d (nI p)) (upd e d (nI z)) := by
  intro j hj
  by_cases hq : j = d
  · subst hq
    exact ⟨kk, p, z, pk_us, hkk, pk_us, pk_us, hp, hz⟩
  · obtain ⟨kk', p', z', h1, h2, h3, h4, h5, h6⟩ := h j (by omega)
    exact ⟨kk', p', z', by rw [pk_un hq]; exact h1, h2, by rw [pk_un hq]; exact h3, by rw [pk_un hq]; exact h4, h5, h6⟩
/-- shelf kk as the reference keeps it -/
def VS1 (gs gm gw : Nat → Int32) (kk n : Nat) (b : Nat → Nat) : Prop := n ≤ 16384 ∧ (∀ j, b j ≤ 255) ∧ shOk n b ∧ gm kk = nI (mS b) ∧ (0 < mS b → gw kk = nI (b 2)) ∧ ∀ j, j < n → gs (16384 * kk + j) = nI (b j)
def VSH (gs gm gw : Nat → Int32) : Prop := ∀ kk, kk < 3 → gm kk = 0 ∨ ∃ (n : Nat) (b : Nat → Nat), VS1 gs gm gw kk n b
/-- where string k begins -/
def bS (b : Nat → Nat) (k : Nat) : Nat := 3 + (mS b + 1) * b 2 + oS b k - 1
theorem oS_mono {b : Nat → Nat} {m : Nat} (h : ∀ k, k < m → oS b k ≤ oS b (k + 1)) : ∀ i j, i ≤ j → j ≤ m → oS b i ≤ oS b j := by
  intro i j hij
  induction j with
  | zero => intro _; rw [show i = 0 by omega]; exact Nat.le_refl _
  | succ j ih =>
    intro hj
    by_cases q : i = j + 1
    · rw [q]; exact Nat.le_refl _
    · exact Nat.le_trans (ih (by omega) (by omega)) (h j (by omega))
theorem bS_le {n : Nat} {b : Nat → Nat} (h : shOk n b) (h0 : 0 < mS b) {k : Nat} (hk : k ≤ mS b) : bS b k ≤ n ∧ 3 + k * b 2 + b 2 ≤ n ∧ 1 ≤ b 2 ∧ b 2 ≤ 4 ∧ mS b ≤ 2000 ∧ oS b k ≤ n ∧ 1 ≤ oS b k := by
  obtain ⟨-, h | ⟨h1, h2, h3, h4, h5, h6, h7⟩⟩ := h
  · omega
  · have hm := oS_mono h6 k (mS b) hk (Nat.le_refl _)
    have hm0 := oS_mono h6 0 k (Nat.zero_le _) hk
    have hw : (k + 1) * b 2 ≤ (mS b + 1) * b 2 := Nat.mul_le_mul_right _ (by omega)
    rw [Nat.succ_mul] at hw
    have hp : 1 * b 2 ≤ (mS b + 1) * b 2 := Nat.mul_le_mul_right _ (by omega)
    unfold bS
    refine ⟨by omega, by omega, h2, h3, h1, by omega, by omega⟩
theorem bS_mono {n : Nat} {b : Nat → Nat} (h : shOk n b) (h0 : 0 < mS b) {k : Nat} (hk : k < mS b) : bS b k ≤ bS b (k + 1) := by
  obtain ⟨-, h | ⟨h1, h2, h3, h4, h5, h6, h7⟩⟩ := h
  · omega
  · have := h6 k hk
    unfold bS
    omega
theorem whole_le (x : Int32) : x >>> ((16 : Int32) &&& 31) ≤ 32767 := by
  rw [Int32.le_iff_toInt_le, pk_shr x _ 16 (by decide), Int.shiftRight_eq_div_pow]
  have h1 := Int32.toInt_lt x
  have h2 : ((32767 : Int32).toInt : Int) = 32767 := by decide
  rw [h2]
  have : x.toInt / ((2 ^ 16 : Nat) : Int) ≤ 32767 := by
    have e : ((2 ^ 16 : Nat) : Int) = 65536 := by decide
    rw [e]
    omega
  exact this
theorem lt_clamp {k : Nat} {x : Int32} (h : nI k < x) (hk : k < 2 ^ 31) : k < x.toNatClampNeg := by
  have h0 : ¬ x < 0 := fun z => nI_pos hk (Int32.lt_trans h z)
  obtain ⟨j, hj, rfl⟩ := nI_of h0
  rw [nI_clamp hj]
  exact (nI_ltI hk hj).mp h
theorem clamp_lt (x : Int32) : x.toNatClampNeg < 2 ^ 31 := by
  have h1 := Int32.toInt_lt x
  show x.toInt.toNat < 2 ^ 31
  omega
theorem le_32767 {x : Int32} {j : Nat} (hj : j < 2 ^ 31) (e : x = nI j) (h : x ≤ 32767) : j ≤ 32767 := by
  subst e
  exact (nI_leI (b := 32767) hj (by omega)).mp h
def rowOk (n : Nat) (g : Nat → Int32) (b : Nat → Nat) : Prop := ∀ j, j < n → g j = nI (b j)
theorem nb_step (b : Nat → Nat) (i w : Nat) : 256 * nb b i w + b (i + w) = nb b i (w + 1) := by
  simp only [nb]
  omega
