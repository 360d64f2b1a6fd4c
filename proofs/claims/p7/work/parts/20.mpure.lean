/-! PURE, for the reference. -/
theorem upd_eq {f : Nat → Int32} {k j : Nat} {x : Int32} (h : j = k) : upd f k x j = x := by subst h; exact pk_us
def failW (x w : Int32) : Int32 := if w = 0 then x else w
/-- the strings that are gone through: kinds, places, ends -/
def IST (d : Nat) (k a e : Nat → Int32) : Prop := ∀ j, j < d → ∃ kk p z : Nat, k j = nI kk ∧ kk < 3 ∧ a j = nI p ∧ e j = nI z ∧ p ≤ z ∧ z ≤ 16384
theorem IST_0 (k a e : Nat → Int32) : IST 0 k a e := fun j h => absurd h (Nat.not_lt_zero _)
theorem IST_less {d d' : Nat} {k a e : Nat → Int32} (h : IST d k a e) (hd : d' ≤ d) : IST d' k a e := fun j hj => h j (by omega)
theorem IST_next {d : Nat} {k a e : Nat → Int32} {q p z kk : Nat} (h : IST d k a e) (hk : k q = nI kk) (hkk : kk < 3) (he : e q = nI z) (hp : p < z) (hz : z ≤ 16384) : IST d k (upd a q (nI (p + 1))) e := by
  intro j hj
  by_cases hq : j = q
  · subst hq
    exact ⟨kk, p + 1, z, hk, hkk, pk_us, he, by omega, hz⟩
  · obtain ⟨kk', p', z', h1, h2, h3, h4, h5, h6⟩ := h j hj
    exact ⟨kk', p', z', h1, h2, by rw [pk_un hq]; exact h3, h4, h5, h6⟩
theorem IST_push {d : Nat} {k a e : Nat → Int32} {kk p z : Nat} (h : IST d k a e) (hkk : kk < 3) (hp : p ≤ z) (hz : z ≤ 16384) : IST (d + 1) (upd k d (nI kk)) (upd a d (nI p)) (upd e d (nI z)) := by
  intro j hj
  by_cases hq : j = d
  · subst hq
    exact ⟨kk, p, z, pk_us, hkk, pk_us, pk_us, hp, hz⟩
  · obtain ⟨kk', p', z', h1, h2, h3, h4, h5, h6⟩ := h j (by omega)
    exact ⟨kk', p', z', by rw [pk_un hq]; exact h1, h2, by rw [pk_un hq]; exact h3, by rw [pk_un hq]; exact h4, h5, h6⟩
/-- shelf kk as the reference keeps it -/
def VS1 (gs gm gw : Nat → Int32) (kk n : Nat) (b : Nat → Nat) : Prop := n ≤ 16384 ∧ (∀ j, b j ≤ 255) ∧ shOk n b ∧ gm kk = nI (mS b) ∧ (0 < mS b → gw kk = nI (b 2)) ∧ ∀ j, j < n → gs (16384 * kk + j) = nI (b j)
def VSH (gs gm gw : Nat → Int32) : Prop := ∀ kk, kk < 3 → gm kk = 0 ∨ ∃ (n : Nat) (b : Nat → Nat), VS1 gs gm gw kk n b
/-- where string k begins -/
def bS (b : Nat → Nat) (k : Nat) : Nat := 3 + (mS b + 1) * b 2 + oS b k - 1
theorem oS_mono {b : Nat → Nat} {m : Nat} (h : ∀ k, k < m → oS b k ≤ oS b (k + 1)) : ∀ i j, i ≤ j → j ≤ m → oS b i ≤ oS b j := by
  intro i j hij
  induction j with
  | zero => intro _; rw [show i = 0 by omega]; exact Nat.le_refl _
  | succ j ih =>
    intro hj
    by_cases q : i = j + 1
    · rw [q]; exact Nat.le_refl _
    · exact Nat.le_trans (ih (by omega) (by omega)) (h j (by omega))
theorem bS_le {n : Nat} {b : Nat → Nat} (h : shOk n b) (h0 : 0 < mS b) {k : Nat} (hk : k ≤ mS b) : bS b k ≤ n ∧ 3 + k * b 2 + b 2 ≤ n ∧ 1 ≤ b 2 ∧ b 2 ≤ 4 ∧ mS b ≤ 2000 ∧ oS b k ≤ n ∧ 1 ≤ oS b k := by
  obtain ⟨-, h | ⟨h1, h2, h3, h4, h5, h6, h7⟩⟩ := h
  · omega
  · have hm := oS_mono h6 k (mS b) hk (Nat.le_refl _)
    have hm0 := oS_mono h6 0 k (Nat.zero_le _) hk
    have hw : (k + 1) * b 2 ≤ (mS b + 1) * b 2 := Nat.mul_le_mul_right _ (by omega)
    rw [Nat.succ_mul] at hw
    have hp : 1 * b 2 ≤ (mS b + 1) * b 2 := Nat.mul_le_mul_right _ (by omega)
    unfold bS
    refine ⟨by omega, by omega, h2, h3, h1, by omega, by omega⟩
theorem bS_mono {n : Nat} {b : Nat → Nat} (h : shOk n b) (h0 : 0 < mS b) {k : Nat} (hk : k < mS b) : bS b k ≤ bS b (k + 1) := by
  obtain ⟨-, h | ⟨h1, h2, h3, h4, h5, h6, h7⟩⟩ := h
  · omega
  · have := h6 k hk
    unfold bS
    omega
theorem whole_le (x : Int32) : x >>> ((16 : Int32) &&& 31) ≤ 32767 := by
  rw [Int32.le_iff_toInt_le, pk_shr x _ 16 (by decide), Int.shiftRight_eq_div_pow]
  have h1 := Int32.toInt_lt x
  have h2 : ((32767 : Int32).toInt : Int) = 32767 := by decide
  rw [h2]
  have : x.toInt / ((2 ^ 16 : Nat) : Int) ≤ 32767 := by
    have e : ((2 ^ 16 : Nat) : Int) = 65536 := by decide
    rw [e]
    omega
  exact this
theorem lt_clamp {k : Nat} {x : Int32} (h : nI k < x) (hk : k < 2 ^ 31) : k < x.toNatClampNeg := by
  have h0 : ¬ x < 0 := fun z => nI_pos hk (Int32.lt_trans h z)
  obtain ⟨j, hj, rfl⟩ := nI_of h0
  rw [nI_clamp hj]
  exact (nI_ltI hk hj).mp h
theorem clamp_lt (x : Int32) : x.toNatClampNeg < 2 ^ 31 := by
  have h1 := Int32.toInt_lt x
  show x.toInt.toNat < 2 ^ 31
  omega
theorem le_32767 {x : Int32} {j : Nat} (hj : j < 2 ^ 31) (e : x = nI j) (h : x ≤ 32767) : j ≤ 32767 := by
  subst e
  exact (nI_leI (b := 32767) hj (by omega)).mp h
def rowOk (n : Nat) (g : Nat → Int32) (b : Nat → Nat) : Prop := ∀ j, j < n → g j = nI (b j)
theorem nb_step (b : Nat → Nat) (i w : Nat) : 256 * nb b i w + b (i + w) = nb b i (w + 1) := by
  simp only [nb]
  omega
/-! PURE, for p7: what the reference's rows need. -/
def SHB (T : Tr7) (gs : Fn7) : Prop := ∀ kk, kk < 3 → (selT T (nI kk)).1 = 0 ∨ ((selT T (nI kk)).2.1 ≤ 16384 ∧ ∀ p, p < (selT T (nI kk)).2.1 → gs (16384 * kk + p) = nI (bt (selT T (nI kk)).2.1 (selT T (nI kk)).2.2 p))
def OKE (T : Tr7) (d : Nat) (k e : Fn7) : Prop := ∀ j, j < d → ∀ kk z : Nat, k j = nI kk → kk < 3 → e j = nI z → z ≤ 16384 → ¬ (selT T (nI kk)).1 = 0 ∧ z ≤ (selT T (nI kk)).2.1
/-- the place and the end of the string that is gone through -/
def NV (s : Ss7) (p z : Nat) : Prop := 0 < s.1 ∧ s.2.2.1 (s.1 - 1) = nI p ∧ s.2.2.2 (s.1 - 1) = nI z ∧ p ≤ z ∧ z ≤ 16384
theorem nv_of {d : Nat} {k a e : Fn7} (h : IST d k a e) (hd : 1 ≤ d) : ∃ p z, NV (sS d k a e) p z := by
  obtain ⟨kk, p, z, h1, h2, h3, h4, h5, h6⟩ := h (d - 1) (by omega)
  refine ⟨p, z, hd, ?_, ?_, h5, h6⟩
  · show trunc d a (d - 1) = nI p
    rw [trunc_at (by omega), h3]
  · show trunc d e (d - 1) = nI z
    rw [trunc_at (by omega), h4]
theorem nv_has {s : Ss7} {p z b : Nat} (h : NV s p z) (hb : b ≤ 65536) : hasP s (nI b) = decide (p + b ≤ z) := by
  obtain ⟨h1, h2, h3, h4, h5⟩ := h
  unfold hasP
  rw [h2, h3, pk_sub h4]
  have q := nI_leI (a := b) (b := z - p) (by omega) (by omega)
  exact decide_eq_decide.mpr ⟨fun y => by have := q.mp y.2; omega, fun y => ⟨h1, q.mpr (by omega)⟩⟩
theorem nv_pass {s : Ss7} {p z b : Nat} (h : NV s p z) (hb : p + b ≤ z) : NV (passP s (nI b)) (p + b) z := by
  obtain ⟨h1, h2, h3, h4, h5⟩ := h
  refine ⟨h1, ?_, h3, hb, h5⟩
  show upd s.2.2.1 (s.1 - 1) (s.2.2.1 (s.1 - 1) + nI b) (s.1 - 1) = nI (p + b)
  rw [pk_us, h2, nI_add]
theorem pass_pass {s : Ss7} {p z a b : Nat} (h : NV s p z) : passP (passP s (nI a)) (nI b) = passP s (nI (a + b)) := by
  obtain ⟨h1, h2, h3, h4, h5⟩ := h
  unfold passP
  refine Prod.ext rfl (Prod.ext rfl (Prod.ext ?_ rfl))
  show upd (upd s.2.2.1 (s.1 - 1) (s.2.2.1 (s.1 - 1) + nI a)) (s.1 - 1) (upd s.2.2.1 (s.1 - 1) (s.2.2.1 (s.1 - 1) + nI a) (s.1 - 1) + nI b) = upd s.2.2.1 (s.1 - 1) (s.2.2.1 (s.1 - 1) + nI (a + b))
  funext j
  by_cases q : j = s.1 - 1
  · rw [q, pk_us, pk_us, pk_us, h2, nI_add, nI_add, nI_add, Nat.add_assoc]
  · rw [pk_un q, pk_un q, pk_un q]
theorem pass_0 {s : Ss7} {p z : Nat} (h : NV s p z) : passP s (nI 0) = s := by
  obtain ⟨h1, h2, h3, h4, h5⟩ := h
  unfold passP
  refine Prod.ext rfl (Prod.ext rfl (Prod.ext ?_ rfl))
  funext j
  show upd s.2.2.1 (s.1 - 1) (s.2.2.1 (s.1 - 1) + nI 0) j = s.2.2.1 j
  by_cases q : j = s.1 - 1
  · rw [q, pk_us, h2, nI_add]; rfl
  · rw [pk_un q]
theorem passN_P {s : Ss7} {p z : Nat} (h : NV s p z) : ∀ k, passN s k = passP s (nI k)
  | 0 => (pass_0 h).symm
  | k + 1 => by
    show passP (passN s k) 1 = _
    rw [passN_P h k]
    exact pass_pass h (a := k) (b := 1)
theorem nv_passN {s : Ss7} {p z k : Nat} (h : NV s p z) (hk : p + k ≤ z) : NV (passN s k) (p + k) z := by
  rw [passN_P h]; exact nv_pass h hk
def nxP (T : Tr7) (s : Ss7) : Option (Int32 × Ss7) := if hasP s 1 = true then some (curP T s, passP s 1) else none
theorem failW_0 {x w : Int32} (h : w = 0) : failW x w = x := if_pos h
theorem failW_n {x w : Int32} (hx : ¬ x = 0) : ¬ failW x w = 0 := by
  unfold failW
  split
  · exact hx
  · assumption
/-- what a call tells: of w = 0 something, of the rest that it stays wrong -/
def Tel {α : Type} (w w' : Int32) (s : α) (o : Option α) : Prop := (w = 0 → mR w' s = o) ∧ (¬ w = 0 → ¬ w' = 0)
theorem tel_no {α : Type} {w w' x : Int32} {s : α} {o : Option α} (hx : w' = failW x w) (h0 : ¬ x = 0) (ho : o = none) : Tel w w' s o := ⟨fun _ => by rw [ho, mR_no (by rw [hx]; exact failW_n h0)], fun _ => by rw [hx]; exact failW_n h0⟩
theorem tel_ok {α : Type} {w : Int32} {s : α} {o : Option α} (ho : o = some s) : Tel w w s o := ⟨fun h => by rw [ho, mR_0 h], fun h => h⟩
theorem nx_no {T : Tr7} {d p z : Nat} {k a e : Fn7} {w w' r : Int32} {S : Ss7} (hd : 1 ≤ d) (h3 : a (d - 1) = nI p) (h4 : e (d - 1) = nI z) (h6 : z ≤ 16384) (hp : p = z) (hx : w' = failW (-3) w) : Tel w w' (r, S) (nxP T (sS d k a e)) := by
  refine tel_no hx (by decide) ?_
  have q : NV (sS d k a e) p z := ⟨hd, by show trunc d a (d - 1) = nI p; rw [trunc_at (by omega), h3], by show trunc d e (d - 1) = nI z; rw [trunc_at (by omega), h4], by omega, h6⟩
  rw [nxP, if_neg]
  rw [show (1 : Int32) = nI 1 from rfl, nv_has q (by omega), decide_eq_false (by omega)]
  decide
theorem nx_yes {T : Tr7} {d p z kk : Nat} {k a e gs : Fn7} {w : Int32} (hd : 1 ≤ d) (h1 : k (d - 1) = nI kk) (h2 : kk < 3) (h3 : a (d - 1) = nI p) (h4 : e (d - 1) = nI z) (h5 : p < z) (h6 : z ≤ 16384) (hT : SHB T gs) (hE : OKE T d k e) : Tel w w (gs (16384 * kk + p), sS d k (upd a (d - 1) (nI (p + 1))) e) (nxP T (sS d k a e)) := by
  refine tel_ok ?_
  have q : NV (sS d k a e) p z := ⟨hd, by show trunc d a (d - 1) = nI p; rw [trunc_at (by omega), h3], by show trunc d e (d - 1) = nI z; rw [trunc_at (by omega), h4], by omega, h6⟩
  rw [nxP, if_pos (by rw [show (1 : Int32) = nI 1 from rfl, nv_has q (by omega), decide_eq_true (by omega)])]
  have ho := hE (d - 1) (by omega) kk z h1 h2 h4 h6
  have hl := (hT kk h2).resolve_left ho.1
  have hb := hl.2 p (by omega)
  refine congrArg some (Prod.ext ?_ ?_)
  · show atB (selT T (trunc d k (d - 1))).2.1 (selT T (trunc d k (d - 1))).2.2 (trunc d a (d - 1)) = gs (16384 * kk + p)
    rw [trunc_at (by omega), trunc_at (by omega), h1, h3, hb]
    exact atB_N _ (by omega) (by omega)
  · have := pass_ok (d := d) (fk := k) (fl := a) (fz := e) (b := 1) hd
    rw [← this, h3]
    exact congrArg (fun y => sS d k (upd a (d - 1) y) e) (nI_add p 1)
theorem pu_no {t : Nat} {g : Fn7} {x w w' : Int32} {S : Vs7} (h : ¬ t < 48) (hx : w' = failW (-4) w) : Tel w w' S (pushP (vS t g) x) := tel_no hx (by decide) (if_neg h)
theorem pu_ok {t : Nat} {g : Fn7} {x w : Int32} (h : t < 48) : Tel w w (vS (t + 1) (upd g t x)) (pushP (vS t g) x) := tel_ok (by rw [pushP, if_pos (show (vS t g).1 < 48 from h), show vS (t + 1) (upd g t x) = (t + 1, upd (trunc t g) t x) by rw [vS, trunc_push]]; rfl)
theorem pu_w {t : Nat} {g : Fn7} {x w : Int32} {S : Vs7} (h : ¬ w = 0) : Tel w w S (pushP (vS t g) x) := ⟨fun z => absurd z h, fun z => z⟩
theorem sS_push {d : Nat} {k a e : Fn7} {x y z : Int32} : sS (d + 1) (upd k d x) (upd a d y) (upd e d z) = (d + 1, upd (trunc d k) d x, upd (trunc d a) d y, upd (trunc d e) d z) := by
  rw [sS, trunc_push, trunc_push, trunc_push]
/-- k bytes behind the state s0, as long as nothing is wrong -/
def Ch7 (s0 : Ss7) (k : Nat) (w : Int32) (s : Ss7) : Prop := (w = 0 → hasP s0 (nI k) = true ∧ s = passN s0 k) ∧ (¬ w = 0 → hasP s0 (nI k) = false)
theorem ch_0 {s : Ss7} {p z : Nat} {w : Int32} (h : NV s p z) (hw : w = 0) : Ch7 s 0 w s := ⟨fun _ => ⟨by rw [nv_has h (by omega)]; exact decide_eq_true h.2.2.2.1, rfl⟩, fun q => absurd hw q⟩
theorem ch_next {T : Tr7} {s0 s s' : Ss7} {p z k : Nat} {w w' r : Int32} (h : NV s0 p z) (hc : Ch7 s0 k w s) (hx : Tel w w' (r, s') (nxP T s)) (hk : k ≤ 60000) : Ch7 s0 (k + 1) w' s' ∧ (w' = 0 → w = 0 ∧ r = curP T (passN s0 k)) := by
  by_cases hw : w = 0
  · obtain ⟨h1, h2⟩ := hc.1 hw
    have hq := hx.1 hw
    rw [nv_has h (by omega)] at h1
    have hv := nv_passN h (of_decide_eq_true h1)
    have e1 : hasP s 1 = decide (p + k + 1 ≤ z) := by rw [h2, show (1 : Int32) = nI 1 from rfl, nv_has hv (by omega)]
    have e2 : hasP s0 (nI (k + 1)) = decide (p + k + 1 ≤ z) := by rw [nv_has h (by omega), Nat.add_assoc]
    by_cases c : p + k + 1 ≤ z
    · rw [nxP, e1, decide_eq_true c, if_pos rfl] at hq
      have w0 : w' = 0 := Classical.byContradiction (fun y => by rw [mR_no y] at hq; cases hq)
      rw [mR_0 w0] at hq
      have hq := Option.some.inj hq
      refine ⟨⟨fun _ => ⟨by rw [e2]; exact decide_eq_true c, ?_⟩, fun y => absurd w0 y⟩, fun _ => ⟨hw, ?_⟩⟩
      · rw [show s' = passP s 1 from congrArg Prod.snd hq, h2]; rfl
      · rw [show r = curP T s from congrArg Prod.fst hq, h2]
    · rw [nxP, e1, decide_eq_false c, if_neg (by decide)] at hq
      have w0 : ¬ w' = 0 := fun y => by rw [mR_0 y] at hq; cases hq
      exact ⟨⟨fun y => absurd y w0, fun _ => by rw [e2]; exact decide_eq_false c⟩, fun y => absurd y w0⟩
  · have w0 := hx.2 hw
    refine ⟨⟨fun y => absurd y w0, fun _ => ?_⟩, fun y => absurd y w0⟩
    have h2 := hc.2 hw
    rw [nv_has h (by omega)] at h2 ⊢
    have := of_decide_eq_false h2
    exact decide_eq_false (by omega)
theorem ch_false {s0 s : Ss7} {p z k B : Nat} {w : Int32} (h : NV s0 p z) (hc : Ch7 s0 k w s) (hw : ¬ w = 0) (hk : k ≤ B) (hB : B ≤ 60000) : hasP s0 (nI B) = false := by
  have h2 := hc.2 hw
  rw [nv_has h (by omega)] at h2 ⊢
  have := of_decide_eq_false h2
  exact decide_eq_false (by omega)
/-! stems and masks -/
theorem st_wid {t q : Nat} {first c : Int32} (h : t % 2 = 0 ∨ q = 1) (hq : q = 1 ↔ (¬ first = 0 ∧ ¬ c = 0)) : widP t (2 * (t / 2)) (decide (first = 0)) = true := by
  refine decide_eq_true ?_
  by_cases e : t % 2 = 0
  · exact Or.inl (by omega)
  · exact Or.inr ⟨by omega, decide_eq_false (hq.mp (h.resolve_left e)).1⟩
theorem wid_odd {t q : Nat} {first : Int32} (h : t % 2 = 1) (h0 : q = 0) (hq : q = 1 ↔ (¬ first = 0 ∧ ¬ (1 : Int32) = 0)) : widP t (2 * (t / 2)) (decide (first = 0)) = false := by
  have hf : first = 0 := Classical.byContradiction (fun z => by have := hq.mpr ⟨z, by decide⟩; omega)
  refine decide_eq_false (fun z => ?_)
  rcases z with z | ⟨-, z⟩
  · omega
  · rw [decide_eq_true hf] at z; cases z
theorem hint_odd {t : Nat} {g : Fn7} {h : Int32} {ps : Bool} (hw : widP t (2 * (t / 2)) ps = false) : hintP (vS t g) h ps = none := if_pos hw
theorem hint_many {t : Nat} {g : Fn7} {h h2 : Int32} {ps : Bool} (hw : widP t (2 * (t / 2)) ps = true) (hn : h2 = h + nI (t / 2)) (c : ¬ h2 ≤ 96) : hintP (vS t g) h ps = none := by
  rw [hintP, if_neg (show ¬ widP (vS t g).1 (2 * ((vS t g).1 / 2)) ps = false by show ¬ widP t (2 * (t / 2)) ps = false; rw [hw]; decide), if_pos (show 96 < h + nI ((vS t g).1 / 2) by show 96 < h + nI (t / 2); rw [← hn]; exact Int32.not_le.mp c)]
theorem hint_ok {t : Nat} {g : Fn7} {h h2 : Int32} {ps : Bool} (hw : widP t (2 * (t / 2)) ps = true) (hn : h2 = h + nI (t / 2)) (c : h2 ≤ 96) : hintP (vS t g) h ps = some ((0, zero7), h2, true) := by
  rw [hintP, if_neg (show ¬ widP (vS t g).1 (2 * ((vS t g).1 / 2)) ps = false by show ¬ widP t (2 * (t / 2)) ps = false; rw [hw]; decide), if_neg (show ¬ 96 < h + nI ((vS t g).1 / 2) by show ¬ 96 < h + nI (t / 2); rw [← hn]; exact Int32.not_lt.mpr c), hn]
  rfl
theorem st0_odd {t q : Nat} {g : Fn7} {h w w' first : Int32} {X : Vs7 × Int32 × Bool} (hx : w' = failW (-4) w) (h2 : t % 2 = 1) (h0 : q = 0) (hq : q = 1 ↔ (¬ first = 0 ∧ ¬ (1 : Int32) = 0)) : mR w' X = (if t < 2 then none else hintP (vS t g) h (decide (first = 0))) := by
  rw [mR_no (by rw [hx]; exact failW_n (by decide)), hint_odd (wid_odd h2 h0 hq)]
  split <;> rfl
theorem st1_odd {t q : Nat} {g : Fn7} {h w w' first : Int32} {X : (Vs7 × Int32 × Bool) × Ss7} {s : Ss7} (hx : w' = failW (-4) w) (h2 : t % 2 = 1) (h0 : q = 0) (hq : q = 1 ↔ (¬ first = 0 ∧ ¬ (1 : Int32) = 0)) : mR w' X = maskP (vS t g) h (decide (first = 0)) s := by
  rw [mR_no (by rw [hx]; exact failW_n (by decide)), maskP, hint_odd (wid_odd h2 h0 hq)]; rfl
theorem st0_few {t : Nat} {o : Option (Vs7 × Int32 × Bool)} {w w' : Int32} {X : Vs7 × Int32 × Bool} (hx : w' = failW (-4) w) (h : t < 2) : mR w' X = (if t < 2 then none else o) := by
  rw [mR_no (by rw [hx]; exact failW_n (by decide)), if_pos h]
theorem st0_many {t : Nat} {g : Fn7} {h h2 w w' : Int32} {ps : Bool} {X : Vs7 × Int32 × Bool} (hx : w' = failW (-6) w) (hw : widP t (2 * (t / 2)) ps = true) (hn : h2 = h + nI (t / 2)) (c : ¬ h2 ≤ 96) : mR w' X = (if t < 2 then none else hintP (vS t g) h ps) := by
  rw [mR_no (by rw [hx]; exact failW_n (by decide)), hint_many hw hn c]
  split <;> rfl
theorem st1_many {t : Nat} {g : Fn7} {h h2 w w' : Int32} {ps : Bool} {X : (Vs7 × Int32 × Bool) × Ss7} {s : Ss7} (hx : w' = failW (-6) w) (hw : widP t (2 * (t / 2)) ps = true) (hn : h2 = h + nI (t / 2)) (c : ¬ h2 ≤ 96) : mR w' X = maskP (vS t g) h ps s := by
  rw [mR_no (by rw [hx]; exact failW_n (by decide)), maskP, hint_many hw hn c]; rfl
theorem st0_ok {t : Nat} {g g' : Fn7} {h h2 w f' : Int32} {ps : Bool} (hw0 : w = 0) (ht : ¬ t < 2) (hw : widP t (2 * (t / 2)) ps = true) (hn : h2 = h + nI (t / 2)) (c : h2 ≤ 96) (hf : f' = 0) : mR w (vS 0 g', h2, decide (f' = 0)) = (if t < 2 then none else hintP (vS t g) h ps) := by
  rw [mR_0 hw0, if_neg ht, hint_ok hw hn c, vS_0, decide_eq_true hf]
theorem st1_ok {t k p z B : Nat} {g g' : Fn7} {h h2 w f' : Int32} {ps : Bool} {s0 s : Ss7} (hw : widP t (2 * (t / 2)) ps = true) (hn : h2 = h + nI (t / 2)) (c : h2 ≤ 96) (hf : f' = 0) (hv : NV s0 p z) (hb : (h2 + 7) / 8 = nI B) (hB : B ≤ 60000) (hk : k ≤ B) (hc : Ch7 s0 k w s) (he : k = B ∨ ¬ w = 0) : mR w ((vS 0 g', h2, decide (f' = 0)), s) = maskP (vS t g) h ps s0 := by
  rw [maskP, hint_ok hw hn c]
  show _ = if hasP s0 ((h2 + 7) / 8) = false then none else some (((0, zero7), h2, true), passP s0 ((h2 + 7) / 8))
  rw [hb]
  by_cases w0 : w = 0
  · have hkB := he.resolve_right (fun y => y w0)
    obtain ⟨h1, e⟩ := hc.1 w0
    rw [hkB] at h1
    rw [mR_0 w0, h1, if_neg (by decide), e, hkB, passN_P hv, vS_0, decide_eq_true hf]
  · rw [mR_no w0, if_pos (ch_false hv hc w0 hk hB)]
/-! drawing -/
theorem mad_ok {mk : Nat} {x y k a b c d w : Int32} {g : Fn7} (h : mk < 4000) : Tel w w (uS (mk + 1) x y (upd (upd (upd (upd (upd (upd (upd g (7 * mk) k) (7 * mk + 1) x) (7 * mk + 2) y) (7 * mk + 3) a) (7 * mk + 4) b) (7 * mk + 5) c) (7 * mk + 6) d)) (addP (uS mk x y g) k a b c d x y) := by
  refine tel_ok ?_
  rw [Nat.mul_comm 7 mk]
  have q := add_ok (x := x) (y := y) (k := k) (x1 := a) (y1 := b) (x2 := c) (y2 := d) (tx := x) (ty := y) (f := g) h
  rw [zR_1] at q
  exact q.symm
theorem mad_no {mk : Nat} {x y k a b c d w w' : Int32} {g : Fn7} {X : Us7} (h : ¬ mk < 4000) (hx : w' = failW (-11) w) : Tel w w' X (addP (uS mk x y g) k a b c d x y) := tel_no hx (by decide) (if_neg h)
def zM {α : Type} (w : Int32) (o : Option α) : Option α := if w = 0 then o else none
theorem zM_0 {α : Type} {w : Int32} (h : w = 0) (o : Option α) : zM w o = o := if_pos h
theorem drM_step {c : Nat → Cmd} {q : Cmd} {s i k k' : Nat} {w w' : Int32} {U U' : Us7} {X : Option Us7} (h : zM w (drawAll U (cmdsL c s i k)) = X) (h0 : w = 0) (hc : c i = q) (hk : k = k' + 1) (hx : Tel w w' U' (cmdP U q)) : zM w' (drawAll U' (cmdsL c s (i + s) k')) = X := by
  rw [← h, hk, zM_0 h0]
  show _ = (cmdP U (c i)).bind (fun y => drawAll y (cmdsL c s (i + s) k'))
  rw [hc, ← hx.1 h0]
  unfold zM mR
  by_cases y : w' = 0
  · rw [if_pos y, if_pos y]; rfl
  · rw [if_neg y, if_neg y]; rfl
theorem drM_end {c : Nat → Cmd} {s i k : Nat} {w : Int32} {U : Us7} {X : Option Us7} (h0 : ¬ w = 0 ∨ k = 0) (h : zM w (drawAll U (cmdsL c s i k)) = X) : mR w U = X := by
  rw [← h]
  unfold zM mR
  by_cases q : w = 0
  · rw [if_pos q, if_pos q, h0.resolve_left (fun z => z q)]; rfl
  · rw [if_neg q, if_neg q]
theorem dmA_no {L L1 : List Cmd} {q : Cmd} {w : Int32} {U U0 : Us7} (e : L = L1 ++ [q]) (h : mR w U = drawAll U0 L1) (c : ¬ w = 0) : mR w U = drawAll U0 L := by
  rw [e, da_app, ← h, mR_no c]; rfl
theorem dmA_ok {L L1 : List Cmd} {q : Cmd} {w w' : Int32} {U U' U0 : Us7} (e : L = L1 ++ [q]) (h : mR w U = drawAll U0 L1) (c : w = 0) (hx : Tel w w' U' (cmdP U q)) : mR w' U' = drawAll U0 L := by
  rw [e, da_app, ← h, mR_0 c]
  show _ = (cmdP U q).bind (fun y => some y)
  rw [← hx.1 c]
  unfold mR
  split <;> rfl
theorem dm2 {L : List Cmd} {a b : Cmd} {w w1 w2 : Int32} {U U1 U2 : Us7} (e : L = [a, b]) (hw : w = 0) (h1 : Tel w w1 U1 (cmdP U a)) (h2 : Tel w1 w2 U2 (cmdP U1 b)) : mR w2 U2 = drawAll U L := by
  rw [e]
  show _ = (cmdP U a).bind (fun y => (cmdP y b).bind (fun y => some y))
  rw [← h1.1 hw]
  by_cases q : w1 = 0
  · rw [mR_0 q]
    show _ = (cmdP U1 b).bind (fun y => some y)
    rw [← h2.1 q]
    unfold mR
    split <;> rfl
  · rw [mR_no q, mR_no (h2.2 q)]; rfl
theorem dm_ok {C t t' : Nat} {g g' : Fn7} {w mv : Int32} {U U0 : Us7} (htk : takD C t = true) (hmv : ¬ mv = 0) (hd : mR w U = drawAll U0 (drawL C t (trunc t g))) (ht : w = 0 → t' = 0) : mR w (vS t' g', U) = drawP C (vS t g) U0 (decide (mv ≠ 0)) := by
  rw [drawP, if_neg (show ¬ takD C (vS t g).1 = false by show ¬ takD C t = false; rw [htk]; decide), if_neg (by simp [hmv])]
  show _ = (drawAll U0 (drawL C t (trunc t g))).map _
  rw [← hd]
  by_cases q : w = 0
  · rw [mR_0 q, mR_0 q, ht q, vS_0]; rfl
  · rw [mR_no q, mR_no q]; rfl
theorem dm_no {C t : Nat} {g : Fn7} {w mv : Int32} {U0 : Us7} {X : Vs7 × Us7} (h : takD C t = false ∨ mv = 0) (hw : ¬ w = 0) : mR w X = drawP C (vS t g) U0 (decide (mv ≠ 0)) := by
  rw [mR_no hw, drawP]
  by_cases q : takD C t = false
  · rw [if_pos (show takD C (vS t g).1 = false from q)]
  · rw [if_neg (show ¬ takD C (vS t g).1 = false from q), if_pos (by simp [h.resolve_left q])]
theorem lin_t {t i : Nat} {g : Fn7} (h : i + 2 ≤ t) : linC (trunc t g) i = linC g i := by
  unfold linC
  rw [trunc_at (by omega), trunc_at (by omega)]
theorem six_t {t i : Nat} {g : Fn7} (h : i + 6 ≤ t) : sixC (trunc t g) i = sixC g i := by
  unfold sixC
  rw [trunc_at (by omega), trunc_at (by omega), trunc_at (by omega), trunc_at (by omega), trunc_at (by omega), trunc_at (by omega)]
theorem lin_t2 {t : Nat} {g : Fn7} (h : 2 ≤ t) : linC (trunc t g) (t - 2) = lineC (g (t - 2)) (g (t - 1)) := by
  rw [lin_t (by omega)]
  unfold linC
  rw [show t - 2 + 1 = t - 1 by omega]
theorem tur_t {t i : Nat} {g : Fn7} {zb : Bool} (h : decide (i % 2 = 0) = zb) (hi : i < t) : turC (trunc t g) zb i = lineC (g i) 0 := by
  unfold turC
  rw [if_pos h, trunc_at hi]
theorem tur_f {t i : Nat} {g : Fn7} {zb : Bool} (h : ¬ decide (i % 2 = 0) = zb) (hi : i < t) : turC (trunc t g) zb i = lineC 0 (g i) := by
  unfold turC
  rw [if_neg h, trunc_at hi]
theorem acr_t {t i : Nat} {g : Fn7} {mo : Int32} (hm : (if i = 1 then g 0 else 0) = mo) (hi : i + 4 ≤ t) : acrC (trunc t g) i = curveC (g i) mo (g (i + 1)) (g (i + 2)) (g (i + 3)) 0 := by
  unfold acrC
  rw [trunc_at (by omega), trunc_at (by omega), trunc_at (by omega), trunc_at (by omega), trunc_at (by omega), hm]
theorem upr_t {t i : Nat} {g : Fn7} {mo : Int32} (hm : (if i = 1 then g 0 else 0) = mo) (hi : i + 4 ≤ t) : uprC (trunc t g) i = curveC mo (g i) (g (i + 1)) (g (i + 2)) 0 (g (i + 3)) := by
  unfold uprC
  rw [trunc_at (by omega), trunc_at (by omega), trunc_at (by omega), trunc_at (by omega), trunc_at (by omega), hm]
theorem wav_m {t i : Nat} {g : Fn7} {mo : Int32} (hm : (if i + 5 = t then g (t - 1) else 0) = mo) : (if i + 5 = t then trunc t g (i + 4) else 0) = mo := by
  rw [← hm]
  by_cases q : i + 5 = t
  · rw [if_pos q, if_pos q, trunc_at (by omega), show i + 4 = t - 1 by omega]
  · rw [if_neg q, if_neg q]
theorem wav_t {t i : Nat} {g : Fn7} {zb : Bool} {mo : Int32} (h : decide (i % 8 = 0) = zb) (hm : (if i + 5 = t then g (t - 1) else 0) = mo) (hi : i + 4 ≤ t) : wavC (trunc t g) t zb i = curveC (g i) 0 (g (i + 1)) (g (i + 2)) mo (g (i + 3)) := by
  unfold wavC
  rw [if_pos h, wav_m hm, trunc_at (by omega), trunc_at (by omega), trunc_at (by omega), trunc_at (by omega)]
theorem wav_f {t i : Nat} {g : Fn7} {zb : Bool} {mo : Int32} (h : ¬ decide (i % 8 = 0) = zb) (hm : (if i + 5 = t then g (t - 1) else 0) = mo) (hi : i + 4 ≤ t) : wavC (trunc t g) t zb i = curveC 0 (g i) (g (i + 1)) (g (i + 2)) (g (i + 3)) mo := by
  unfold wavC
  rw [if_neg h, wav_m hm, trunc_at (by omega), trunc_at (by omega), trunc_at (by omega), trunc_at (by omega)]
theorem j64_neg (x : Int32) : x.toInt64 < 0 ↔ x < 0 := by
  rw [Int64.lt_iff_toInt_lt, Int32.lt_iff_toInt_lt, Int32.toInt_toInt64]
  exact Iff.rfl
theorem dlm_290 {t : Nat} {g : Fn7} (h : t = 7) : drawL 290 t (trunc t g) = [curveC (g 0) 0 (g 1) (g 2) (g 3) 0, curveC (g 4) 0 (g 5) (-(g 2)) (g 6) 0] := by subst h; rfl
theorem dlm_291 {t : Nat} {g : Fn7} (h : t = 13) : drawL 291 t (trunc t g) = [sixC g 0, curveC (g 6) (g 7) (g 8) (g 9) (g 10) (g 11)] := by subst h; rfl
theorem dlm_292 {t : Nat} {g : Fn7} (h : t = 9) : drawL 292 t (trunc t g) = [curveC (g 0) (g 1) (g 2) (g 3) (g 4) 0, curveC (g 5) 0 (g 6) (g 7) (g 8) (-(g 1 + g 3 + g 7))] := by subst h; rfl
theorem dlm_293 {t : Nat} {g : Fn7} (h : t = 11) : drawL 293 t (trunc t g) = fleE g (g 0 + g 2 + g 4 + g 6 + g 8) (g 1 + g 3 + g 5 + g 7 + g 9) := by
  subst h
  show fleE (trunc 11 g) (0 + g 0 + g 2 + g 4 + g 6 + g 8) (0 + g 1 + g 3 + g 5 + g 7 + g 9) = _
  rw [Int32.zero_add, Int32.zero_add]
  rfl
theorem dlm_293a {t : Nat} {g : Fn7} (h : t = 11) (c : ¬ lg_cmp (absL (g 0 + g 2 + g 4 + g 6 + g 8)) (absL (g 1 + g 3 + g 5 + g 7 + g 9)) ≤ 0) : drawL 293 t (trunc t g) = [sixC g 0, curveC (g 6) (g 7) (g 8) (g 9) (g 10) (-(g 1 + g 3 + g 5 + g 7 + g 9))] := by
  have q := lcmp_gt.mp (Int32.not_le.mp c)
  rw [dlm_293 h, fleE, if_pos q, if_pos q]
theorem dlm_293b {t : Nat} {g : Fn7} (h : t = 11) (c : lg_cmp (absL (g 0 + g 2 + g 4 + g 6 + g 8)) (absL (g 1 + g 3 + g 5 + g 7 + g 9)) ≤ 0) : drawL 293 t (trunc t g) = [sixC g 0, curveC (g 6) (g 7) (g 8) (g 9) (-(g 0 + g 2 + g 4 + g 6 + g 8)) (g 10)] := by
  have q : ¬ absL (g 1 + g 3 + g 5 + g 7 + g 9) < absL (g 0 + g 2 + g 4 + g 6 + g 8) := fun z => Int32.not_lt.mpr c (lcmp_gt.mpr z)
  rw [dlm_293 h, fleE, if_neg q, if_neg q]
/-! moves and ends -/
theorem wm_no {t n q : Nat} {first : Int32} (h : t = n + 1) (h2 : ¬ t - q = n) (hq : q = 1 ↔ (¬ first = 0 ∧ ¬ (1 : Int32) = 0)) : widP t n (decide (first = 0)) = false := by
  have hf : first = 0 := Classical.byContradiction (fun z => by have := hq.mpr ⟨z, by decide⟩; omega)
  refine decide_eq_false (fun z => ?_)
  rcases z with z | ⟨-, z⟩
  · omega
  · rw [decide_eq_true hf] at z; cases z
theorem wm_no0 {t n : Nat} {ps : Bool} (h : ¬ t = n + 1) (h2 : ¬ t = n) : widP t n ps = false := decide_eq_false (fun z => by
  rcases z with z | ⟨z, -⟩
  · exact h2 z
  · exact h z)
theorem wm_1 {t n q : Nat} {first : Int32} (h : t = n + 1) (h2 : t - q = n) (h3 : q ≤ 1) (hq : q = 1 ↔ (¬ first = 0 ∧ ¬ (1 : Int32) = 0)) : ¬ widP t n (decide (first = 0)) = false := by
  have := hq.mp (by omega)
  rw [show widP t n (decide (first = 0)) = true from decide_eq_true (Or.inr ⟨h, decide_eq_false this.1⟩)]
  decide
theorem wm_0 {t n : Nat} {ps : Bool} (h : t = n) : ¬ widP t n ps = false := by
  rw [show widP t n ps = true from decide_eq_true (Or.inl h)]
  decide
theorem top_v {t : Nat} {g : Fn7} (h : 0 < t) : topP (vS t g) = g (t - 1) := (pop_ok (by omega)).1.symm
theorem pop_v {t : Nat} {g : Fn7} (h : 0 < t) : popP (vS t g) = vS (t - 1) g := (pop_ok (by omega)).2.symm
theorem mm_21 {t q : Nat} {g gm gm' : Fn7} {mk mk' : Nat} {x y w w' : Int32} (h : t - q = 2) (hq : q ≤ 1) (hx : Tel w w' (uS mk' (x + g q) (y + g (t - 1)) gm') (addP (uS mk (x + g q) (y + g (t - 1)) gm) 0 0 0 0 0 (x + g q) (y + g (t - 1)))) : Tel w w' (uS mk' (x + g q) (y + g (t - 1)) gm') (moveU (uS mk x y gm) (topP (popP (vS t g))) (topP (vS t g))) := by
  rw [pop_v (by omega), top_v (by omega), top_v (by omega), show t - 1 - 1 = q by omega]
  exact hx
theorem mm_22 {t q : Nat} {g gm gm' : Fn7} {mk mk' : Nat} {x y w w' : Int32} (h : t - q = 1) (hq : q ≤ 1) (hx : Tel w w' (uS mk' (x + g q) (y + 0) gm') (addP (uS mk (x + g q) (y + 0) gm) 0 0 0 0 0 (x + g q) (y + 0))) : Tel w w' (uS mk' (x + g q) (y + 0) gm') (moveU (uS mk x y gm) (topP (vS t g)) 0) := by
  rw [top_v (by omega), show t - 1 = q by omega]
  exact hx
theorem mm_4 {t : Nat} {g gm gm' : Fn7} {mk mk' : Nat} {x y w w' : Int32} (h : 0 < t) (hx : Tel w w' (uS mk' (x + 0) (y + g (t - 1)) gm') (addP (uS mk (x + 0) (y + g (t - 1)) gm) 0 0 0 0 0 (x + 0) (y + g (t - 1)))) : Tel w w' (uS mk' (x + 0) (y + g (t - 1)) gm') (moveU (uS mk x y gm) 0 (topP (vS t g))) := by
  rw [top_v (by omega)]
  exact hx
theorem mm_fin {w w' : Int32} {U : Us7} {o : Option Us7} {t' : Nat} {g : Fn7} (hw : w = 0) (hx : Tel w w' U o) (ht : w' = 0 → t' = 0) : mR w' (vS t' g, U) = o.map (fun q => (((0, zero7) : Vs7), q)) := by
  rw [← hx.1 hw]
  by_cases q : w' = 0
  · rw [mR_0 q, mR_0 q, ht q, vS_0]; rfl
  · rw [mR_no q, mR_no q]; rfl
