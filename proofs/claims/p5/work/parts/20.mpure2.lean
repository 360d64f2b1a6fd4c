/-! PURE, for the reference's face. -/
theorem cp_step {n k kk : Nat} {gs gr gsh : Nat → Int32} (h : (∀ j, j < k → gs (16384 * kk + j) = gr j) ∧ ∀ i, (i < 16384 * kk ∨ 16384 * kk + 16384 ≤ i) → gs i = gsh i) (hk : k < n) (hn : n ≤ 16384) : (∀ j, j < k + 1 → upd gs (16384 * kk + k) (gr k) (16384 * kk + j) = gr j) ∧ ∀ i, (i < 16384 * kk ∨ 16384 * kk + 16384 ≤ i) → upd gs (16384 * kk + k) (gr k) i = gsh i := by
  constructor
  · intro j hj
    by_cases q : j = k
    · subst q; exact pk_us
    · rw [pk_un (by omega)]; exact h.1 j (by omega)
  · intro i hi
    rw [pk_un (by omega)]
    exact h.2 i hi
theorem VSH_take {gs gm gw gs' : Nat → Int32} {kk n : Nat} {b : Nat → Nat} {wv : Int32} {gr : Nat → Int32} (h : VSH gs gm gw) (hkk : kk < 3) (hn : n ≤ 16384) (hb : ∀ j, b j ≤ 255) (hs : shOk n b) (hr : rowOk n gr b) (h1 : ∀ j, j < n → gs' (16384 * kk + j) = gr j) (h2 : ∀ i, (i < 16384 * kk ∨ 16384 * kk + 16384 ≤ i) → gs' i = gs i) (hw : 0 < mS b → wv = nI (b 2)) : VSH gs' (upd gm kk (nI (mS b))) (upd gw kk wv) := by
  intro q hq
  by_cases e : q = kk
  · subst e
    exact Or.inr ⟨n, b, hn, hb, hs, pk_us, fun z => by rw [pk_us]; exact hw z, fun j hj => by rw [h1 j hj]; exact hr j hj⟩
  · rcases h q hq with h | ⟨n', b', a1, a2, a3, a4, a5, a6⟩
    · exact Or.inl (by rw [pk_un e]; exact h)
    · exact Or.inr ⟨n', b', a1, a2, a3, by rw [pk_un e]; exact a4, fun z => by rw [pk_un e]; exact a5 z, fun j hj => by rw [h2 _ (by omega)]; exact a6 j hj⟩
theorem VSH_0 (gs gw : Nat → Int32) : VSH gs (fun _ => 0) gw := fun _ _ => Or.inl rfl
theorem pk_m0 (x : Int32) : x - 0 = x := by simp
theorem pk_s2 {n j : Nat} (h : j ≤ n) : nI n - nI (n - j) = nI j := by
  rw [pk_sub (by omega)]
  congr 1
  omega
theorem isK_ok {k : Int32} (h1 : ¬ k < 0) (h2 : k ≤ 2) : ¬ isK k = 0 := by
  unfold isK
  rw [if_neg h1, if_neg (Int32.not_lt.mpr h2)]
  decide
theorem meas_run {w w' : Int32} {s s' fu : Nat} (h0 : w = 0) (hfu : (if w = 0 then 1 else 0) + 2 * (20001 - s) < fu + 1) (hz : s + 1 ≤ s' ∨ (¬ w' = 0 ∧ s ≤ s')) (hs : s ≤ 20000) : (if w' = 0 then 1 else 0) + 2 * (20001 - s') < fu := by
  rw [if_pos h0] at hfu
  by_cases q : w' = 0
  · rw [if_pos q]
    have := hz.resolve_right (fun z => z.1 q)
    omega
  · rw [if_neg q]
    omega
