theorem app4_at {f : Nat → Int32} {n : Nat} {x : Int32} : (app4 f n x n &&& (255 : Int32)) = (x >>> ((24 : Int32) &&& 31) &&& (255 : Int32)) ∧ (app4 f n x (n + 1) &&& (255 : Int32)) = (x >>> ((16 : Int32) &&& 31) &&& (255 : Int32)) ∧ (app4 f n x (n + 2) &&& (255 : Int32)) = (x >>> ((8 : Int32) &&& 31) &&& (255 : Int32)) ∧ (app4 f n x (n + 3) &&& (255 : Int32)) = (x &&& (255 : Int32)) := by
  unfold app4
  refine ⟨?_, ?_, ?_, ?_⟩
  · rw [pk_un (by omega), pk_un (by omega), pk_un (by omega), pk_us, and_i8]
  · rw [pk_un (by omega), pk_un (by omega), pk_us, and_i8]
  · rw [pk_un (by omega), pk_us, and_i8]
  · rw [pk_us, and_i8]
theorem fed_4 {x1 x2 x3 x4 x5 x : Int32} {k i : Nat} (hk : ∀ j, j < 4 → (if k + j < 4 then x1 else if k + j < 8 then x2 else if k + j < 12 then x3 else if k + j < 16 then x4 else x5) = x) (h4 : k % 4 = 0) {f : Nat → Int32} {n : Nat} (h : k ≤ i ∧ i < k + 4) : app4 f (n + k) x (n + i) &&& 255 = fed x1 x2 x3 x4 x5 i := by
  obtain ⟨j, hj⟩ : ∃ j, i = k + j := ⟨i - k, by omega⟩
  subst hj
  have hj4 : j < 4 := by omega
  unfold fed
  rw [hk j hj4, show (k + j) % 4 = j by omega]
  have q := app4_at (f := f) (n := n + k) (x := x)
  rcases (show j = 0 ∨ j = 1 ∨ j = 2 ∨ j = 3 by omega) with rfl | rfl | rfl | rfl
  · exact q.1
  · exact q.2.1
  · exact q.2.2.1
  · rw [← Nat.add_assoc, q.2.2.2, show nI (24 - 8 * 3) &&& 31 = (0 : Int32) &&& 31 from by decide, sb_shr0]
theorem fed_ok {f f1 f2 f3 f4 f5 : Nat → Int32} {n : Nat} {x1 x2 x3 x4 x5 : Int32} (h1 : ∀ i, i < n → f1 i = f i) (h2 : ∀ i, i < n + 4 → f2 i = app4 f1 n x1 i) (h3 : ∀ i, i < n + 4 + 4 → f3 i = app4 f2 (n + 4) x2 i) (h4 : ∀ i, i < n + 4 + 4 + 4 → f4 i = app4 f3 (n + 4 + 4) x3 i) (h5 : ∀ i, i < n + 4 + 4 + 4 + 4 → f5 i = app4 f4 (n + 4 + 4 + 4) x4 i) :
    (∀ i, i < n → app4 f5 (n + 4 + 4 + 4 + 4) x5 i = f i) ∧ ∀ i, i < 20 → app4 f5 (n + 4 + 4 + 4 + 4) x5 (n + i) &&& 255 = fed x1 x2 x3 x4 x5 i := by
  constructor
  · intro i hi
    rw [app4_lo (by omega), h5 i (by omega), app4_lo (by omega), h4 i (by omega), app4_lo (by omega), h3 i (by omega), app4_lo (by omega), h2 i (by omega), app4_lo (by omega), h1 i hi]
  · intro i hi
    by_cases k4 : 16 ≤ i
    · exact fed_4 (k := 16) (fun j hj => by rw [if_neg (by omega), if_neg (by omega), if_neg (by omega), if_neg (by omega)]) (by decide) ⟨k4, by omega⟩
    rw [app4_lo (by omega), h5 _ (by omega)]
    by_cases k3 : 12 ≤ i
    · exact fed_4 (k := 12) (fun j hj => by rw [if_neg (by omega), if_neg (by omega), if_neg (by omega), if_pos (by omega)]) (by decide) ⟨k3, by omega⟩
    rw [app4_lo (by omega), h4 _ (by omega)]
    by_cases k2 : 8 ≤ i
    · exact fed_4 (k := 8) (fun j hj => by rw [if_neg (by omega), if_neg (by omega), if_pos (by omega)]) (by decide) ⟨k2, by omega⟩
    rw [app4_lo (by omega), h3 _ (by omega)]
    by_cases k1 : 4 ≤ i
    · exact fed_4 (k := 4) (fun j hj => by rw [if_neg (by omega), if_pos (by omega)]) (by decide) ⟨k1, by omega⟩
    rw [app4_lo (by omega), h2 _ (by omega)]
    exact fed_4 (k := 0) (n := n) (fun j hj => by rw [if_pos (by omega)]) (by decide) ⟨by omega, by omega⟩
