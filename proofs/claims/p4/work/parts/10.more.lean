/-! MORE ROWS: switches by their targets, references named anew, numbers that are 0 or 1. -/
section MR
variable {p : Program} {l : Launch} {e : Env} {R : Room} {s : State} {m : MethodId} {args : Array Value} {below : List Frame} {meth : Method} {c : Code} {H : Heap} {locs : List Loc} {cells slots : Nat} {Q : State → Prop} {pc : Nat} {ls : Array Slot} {rest : List Value} {cc : ByteArray}
theorem lv_ta {x y : Nat} (h : x = y) (k : W p l e R s m args below meth c H locs cells slots Q (F0 m pc ls (.ref y :: rest))) : W p l e R s m args below meth c H locs cells slots Q (F0 m pc ls (.ref x :: rest)) := by
  rw [h]; exact k
theorem lv_tableAny (hexec : p.tables.exec = Jvm.exec) (hb : c.code = cc) {dflt lo hi : Int} {offs : Array Int} {len : Nat} {x : Int32} (hdg : decode cc pc = .ok (.tableswitch dflt lo hi offs, len)) (hsz : (hi - lo).toNat < offs.size) (hlo : lo ≤ hi)
    (k : ∀ off, off = dflt ∨ off ∈ offs.toList → ∃ tgt : Nat, (pc : Int) + off = (tgt : Int) ∧ W p l e R s m args below meth c H locs cells slots Q (F0 m tgt ls rest)) : W p l e R s m args below meth c H locs cells slots Q (F0 m pc ls (.int x :: rest)) := by
  by_cases h1 : x.toInt < lo
  · obtain ⟨t, ht, kk⟩ := k dflt (Or.inl rfl)
    exact lv_tableOut hexec hb hdg (Or.inl h1) ht kk
  · by_cases h2 : hi < x.toInt
    · obtain ⟨t, ht, kk⟩ := k dflt (Or.inl rfl)
      exact lv_tableOut hexec hb hdg (Or.inr h2) ht kk
    · have hi' : (x.toInt - lo).toNat < offs.size := by omega
      obtain ⟨t, ht, kk⟩ := k offs[(x.toInt - lo).toNat] (Or.inr (by rw [← Array.getElem_toList]; exact List.getElem_mem _))
      exact lv_tableIn hexec hb hdg h1 h2 (Array.getElem?_eq_getElem hi') ht kk
end MR
theorem nar01 {r : Int32} (h : r = 0 ∨ r = 1) : narrow .boolean (.int r) = .int r := by
  rcases h with rfl | rfl <;> decide
theorem selK_or (k : Int32) (p g q : Nat) : selK k p g q = p ∨ selK k p g q = g ∨ selK k p g q = q := by
  unfold selK
  split
  · exact Or.inr (Or.inl rfl)
  · split
    · exact Or.inr (Or.inr rfl)
    · exact Or.inl rfl
def atV (n : Nat) (f : Nat → Int32) (i : Int32) : Int32 := if i < 0 then 0 else if nI n ≤ i then 0 else f i.toNatClampNeg
/-- what an outline of room for c numbers may still grow by -/
def gO (c : Nat) : Nat := if 28000 ≤ c then 0 else 84000 - 2 * c
theorem gO_grow {c d j : Nat} (h : d = min 28000 (max j (2 * c))) (hc : c < 28000) : d + gO d ≤ gO c := by
  unfold gO
  rw [if_neg (by omega : ¬ 28000 ≤ c)]
  by_cases q : 28000 ≤ d
  · rw [if_pos q]; omega
  · rw [if_neg q]; omega
def bitL : Nat → Int64
  | 0 => 0
  | j + 1 => Int64.ofNat (2 ^ j)
theorem bit_shr : ∀ j, j < 24 → bitL (j + 1) >>> ((1 : Int32).toInt64 &&& 63) = bitL j := by decide +kernel
theorem bit_pos {j : Nat} (h : ¬ lg_cmp (bitL j) 0 ≤ 0) : ∃ i, j = i + 1 := by
  cases j with
  | zero => exact absurd (by decide) h
  | succ i => exact ⟨i, rfl⟩
theorem i64_ne {x : Int32} (h : ¬ x = 0) : x.toInt64 ≠ 0 := fun z => h (by
  have := congrArg Int64.toInt32 z
  simpa using this)
theorem hasO_in {m : Nat} {i w : Int32} (h : ¬ hasO m i w = 0) (hm : m < 2 ^ 20) : ∃ a b : Nat, i = nI a ∧ a < m ∧ w = nI b ∧ b < 7 := by
  unfold hasO at h
  by_cases h1 : i < 0
  · simp [h1] at h
  · by_cases h2 : nI m ≤ i
    · simp [h1, h2] at h
    · by_cases h3 : w < 0
      · simp [h1, h2, h3] at h
      · by_cases h4 : 7 ≤ w
        · simp [h1, h2, h3, h4] at h
        · obtain ⟨a, ha, rfl⟩ := nI_of h1
          obtain ⟨b, hb, rfl⟩ := nI_of h3
          refine ⟨a, b, rfl, ?_, rfl, ?_⟩
          · exact Nat.not_le.mp (fun z => h2 (nI_le z ha))
          · exact Nat.not_le.mp (fun z => h4 (nI_le (a := 7) z hb))
