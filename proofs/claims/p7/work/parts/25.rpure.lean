/-! PURE, for p7: runs of the reference. -/
def rI (T : Tr7) (w e : Int32) (sp : Nat) (m : Ms7) : Option Ms7 := if w = 0 then (if e = 0 then runP T (20001 - sp) sp m else some m) else none
theorem run_on {T : Tr7} {w e w' e' : Int32} {sp sp' : Nat} {m m' : Ms7} {X : Option Ms7} (h : rI T w e sp m = X) (h0 : w = 0) (h1 : e = 0) (hs : sp ≤ 20000) (hx : mS7 w' e' m' = stepP T sp m) (hp : w' = 0 → sp' = sp + 1) : rI T w' e' sp' m' = X := by
  rw [← h, rI, rI, if_pos h0, if_pos h1, run_step hs, ← hx]
  unfold mS7
  by_cases q : w' = 0
  · rw [if_pos q, if_pos q, hp q]; rfl
  · rw [if_neg q, if_neg q]; rfl
theorem run_f0 {T : Tr7} {w e : Int32} {sp : Nat} {m : Ms7} {f : Fn7} {X : Option Ms7} (h : rI T w e sp m = X) (c : ¬ w = 0) : shoP X = (0, trunc (0 * 7) f) := by
  rw [← h, rI, if_neg c, Nat.zero_mul, trunc_0]; rfl
theorem run_f1 {T : Tr7} {w e : Int32} {sp mk : Nat} {v : Vs7} {s : Ss7} {x y : Int32} {g gq p : Fn7} {h : Int32} {a b : Bool} {X : Option Ms7} (hr : rI T w e sp ⟨v, s, uS mk x y g, p, h, a, b⟩ = X) (c : w = 0) (c1 : ¬ e = 0) (hq : ∀ i, i < 7 * mk → gq i = g i) : shoP X = (mk, trunc (mk * 7) gq) := by
  rw [← hr, rI, if_pos c, if_neg c1, trunc_ext (fun j hj => hq j (by omega))]; rfl
theorem cp_all {k : Nat} {g gq : Fn7} (h : ∀ i, i < k → gq i = g i) : ∀ i, i < k + 1 → upd gq k (g k) i = g i := fun i hi => by
  by_cases q : i = k
  · subst q; exact pk_us
  · rw [pk_un q]; exact h i (by omega)
theorem ini_m {T : Tr7} {s : Ss7} {k : Int32} {gs gm gp : Fn7} (h : enterP T (0, zero7, zero7, zero7) 0 k = some s) (hp : ∀ i, i < 32 → gp i = 0) : rI T 0 0 0 (⟨vS 0 gs, s, uS 0 0 0 gm, trunc 32 gp, 0, decide ((1 : Int32) = 0), decide ((0 : Int32) ≠ 0)⟩ : Ms7) = (iniP T k).bind (runP T 20001 0) := by
  rw [iniP, h, vS_0, uS_0, trunc_z hp]; rfl
/-! what a step keeps -/
def OKS (T : Tr7) (s : Ss7) : Prop := OKE T s.1 s.2.1 s.2.2.2
def OKM (T : Tr7) (m : Ms7) : Prop := OKS T m.2.1 ∧ ∃ k, k ≤ 96 ∧ m.2.2.2.2.1 = nI k
theorem oke_s {T : Tr7} {d : Nat} {k a e : Fn7} (h : OKE T d k e) : OKS T (sS d k a e) := fun j hj kk z h1 h2 h3 h4 => by
  have hj : j < d := hj
  exact h j hj kk z ((trunc_at hj).symm.trans h1) h2 ((trunc_at hj).symm.trans h3) h4
theorem s_oke {T : Tr7} {d : Nat} {k a e : Fn7} (h : OKS T (sS d k a e)) : OKE T d k e := fun j hj kk z h1 h2 h3 h4 => h j hj kk z ((trunc_at hj).trans h1) h2 ((trunc_at hj).trans h3) h4
theorem oks_pass {T : Tr7} {s : Ss7} {b : Int32} (h : OKS T s) : OKS T (passP s b) := h
theorem oks_passN {T : Tr7} {s : Ss7} (h : OKS T s) : ∀ k, OKS T (passN s k)
  | 0 => h
  | k + 1 => oks_pass (oks_passN h k)
theorem oks_leave {T : Tr7} {s s' : Ss7} (h : OKS T s) (hl : leaveP s = some s') : OKS T s' := by
  unfold leaveP at hl
  by_cases c : s.1 ≤ 1
  · rw [if_pos c] at hl; cases hl
  · rw [if_neg c] at hl
    have e := (Option.some.inj hl).symm
    subst e
    exact fun j hj kk z h1 h2 h3 h4 => by
      have hj : j < s.1 - 1 := hj
      exact h j (by omega) kk z ((trunc_at hj).symm.trans h1) h2 ((trunc_at hj).symm.trans h3) h4
/-- shelves that are taken: as many strings as told, none behind the end -/
def OKT (T : Tr7) : Prop := ∀ kk, kk < 3 → (selT T (nI kk)).1 = 0 ∨ ((selT T (nI kk)).1 = mS (bt (selT T (nI kk)).2.1 (selT T (nI kk)).2.2) ∧ shOk (selT T (nI kk)).2.1 (bt (selT T (nI kk)).2.1 (selT T (nI kk)).2.2) ∧ (selT T (nI kk)).2.1 ≤ 16384)
theorem okt_of {T : Tr7} {gs gm gw : Fn7} (h : SHR T gs gm gw) : OKT T := fun kk hk => (h kk hk).2.imp id (fun z => ⟨z.1, z.2.2.2.1, z.2.1⟩)
theorem oks_enter {T : Tr7} {s s' : Ss7} {kk : Nat} {k : Int32} (hT : OKT T) (hk : kk < 3) (h : OKS T s) (he : enterP T s (nI kk) k = some s') : OKS T s' := by
  unfold enterP at he
  by_cases c : hasS (selT T (nI kk)).1 k = 0
  · rw [if_pos c] at he; cases he
  · rw [if_neg c] at he
    by_cases c2 : 10 ≤ s.1
    · rw [if_pos c2] at he; cases he
    · rw [if_neg c2] at he
      have e := (Option.some.inj he).symm
      subst e
      have c0 : ¬ k < 0 := fun z => c (by rw [hasS, if_pos z])
      have c1 : ¬ nI (selT T (nI kk)).1 ≤ k := fun z => c (by rw [hasS, if_neg c0, if_pos z])
      obtain ⟨kn, hkn, rfl⟩ := nI_of c0
      have hm : ¬ (selT T (nI kk)).1 = 0 := fun z => c1 (by rw [z]; exact nI_le (Nat.zero_le _) hkn)
      obtain ⟨t1, t2, t3⟩ := (hT kk hk).resolve_left hm
      have hms := mS_le (bt_le (selT T (nI kk)).2.1 (selT T (nI kk)).2.2)
      have hlt : kn < mS (bt (selT T (nI kk)).2.1 (selT T (nI kk)).2.2) := by
        rw [t1] at c1
        exact Nat.not_le.mp (fun z => c1 (nI_le z hkn))
      have hB := bS_le t2 (by omega) (k := kn + 1) (by omega)
      have es : startX (selT T (nI kk)).1 (selT T (nI kk)).2.1 (selT T (nI kk)).2.2 (nI kn + 1) = nI (bS (bt (selT T (nI kk)).2.1 (selT T (nI kk)).2.2) (kn + 1)) := by
        rw [t1, show (1 : Int32) = nI 1 from rfl, nI_add]
        exact start_bS t2 (by omega) (by omega) t3
      intro j hj k2 z h1 h2 h3 h4
      by_cases q : j = s.1
      · subst q
        have h1 : upd s.2.1 s.1 (nI kk) s.1 = nI k2 := h1
        have h3 : upd s.2.2.2 s.1 (startX (selT T (nI kk)).1 (selT T (nI kk)).2.1 (selT T (nI kk)).2.2 (nI kn + 1)) s.1 = nI z := h3
        rw [pk_us] at h1 h3
        rw [es] at h3
        have e1 : kk = k2 := (nI_eq (by omega) (by omega)).mp h1
        have e3 := (nI_eq (by omega) (by omega)).mp h3
        subst e1
        exact ⟨hm, by omega⟩
      · have hj : j < s.1 + 1 := hj
        have h1 : upd s.2.1 s.1 (nI kk) j = nI k2 := h1
        have h3 : upd s.2.2.2 s.1 (startX (selT T (nI kk)).1 (selT T (nI kk)).2.1 (selT T (nI kk)).2.2 (nI kn + 1)) j = nI z := h3
        rw [pk_un q] at h1 h3
        exact h j (by omega) k2 z h1 h2 h3 h4
theorem gp_inv {α : Type} {o : Option α} {e : Int32} {m : α} (h : gP o = some (e, m)) : o = some m := by
  cases o with
  | none => cases h
  | some y => cases h; rfl
theorem map_inv {α β : Type} {o : Option α} {g : α → β} {m : β} (h : o.map g = some m) : ∃ y, o = some y ∧ g y = m := by
  cases o with
  | none => cases h
  | some y => exact ⟨y, rfl, Option.some.inj h⟩
theorem hint_h {v : Vs7} {h : Int32} {ps : Bool} {q : Vs7 × Int32 × Bool} (hv : v.1 ≤ 1000) (hh : ∃ k, k ≤ 96 ∧ h = nI k) (e : hintP v h ps = some q) : ∃ k, k ≤ 96 ∧ q.2.1 = nI k := by
  unfold hintP at e
  by_cases c : widP v.1 (2 * (v.1 / 2)) ps = false
  · rw [if_pos c] at e; cases e
  · rw [if_neg c] at e
    by_cases c2 : 96 < h + nI (v.1 / 2)
    · rw [if_pos c2] at e; cases e
    · rw [if_neg c2] at e
      have e := (Option.some.inj e).symm
      subst e
      obtain ⟨k, hk, rfl⟩ := hh
      refine ⟨k + v.1 / 2, ?_, nI_add k _⟩
      rw [nI_add] at c2
      exact Nat.not_lt.mp (fun z => c2 (nI_lt (a := 96) z (by omega)))
theorem okm_perf {T : Tr7} {c : Nat} {m m' : Ms7} {e : Int32} (hT : OKT T) (hv : m.1.1 ≤ 1000) (h : OKM T m) (hp : perfP T c m = some (e, m')) : OKM T m' := by
  unfold perfP at hp
  split at hp
  · obtain ⟨y, h1, rfl⟩ := map_inv (gp_inv hp)
    unfold numP at h1
    split at h1
    · cases h1
    · obtain ⟨y2, _, rfl⟩ := map_inv h1
      exact ⟨oks_passN h.1 _, h.2⟩
  · split at hp
    · obtain ⟨y, h1, rfl⟩ := map_inv (gp_inv hp)
      exact h
    · split at hp
      · split at hp
        · cases hp
        · obtain ⟨y, h1, rfl⟩ := map_inv (gp_inv hp)
          exact ⟨h.1, hint_h hv h.2 h1⟩
      · split at hp
        · obtain ⟨y, h1, rfl⟩ := map_inv (gp_inv hp)
          unfold maskP at h1
          obtain ⟨q, h2, h3⟩ := Option.bind_eq_some_iff.mp h1
          split at h3
          · cases h3
          · have e3 := (Option.some.inj h3).symm
            subst e3
            exact ⟨oks_pass h.1, hint_h hv h.2 h2⟩
        · split at hp
          · obtain ⟨y, h1, rfl⟩ := map_inv (gp_inv hp)
            exact h
          · split at hp
            · split at hp
              · cases hp
              · cases hp; exact h
            · split at hp
              · obtain ⟨y, h1, rfl⟩ := map_inv (gp_inv hp)
                unfold callP at h1
                split at h1
                · cases h1
                · obtain ⟨y2, h2, rfl⟩ := map_inv h1
                  exact ⟨oks_enter (kk := 2) hT (by omega) h.1 h2, h.2⟩
              · split at hp
                · obtain ⟨y, h1, rfl⟩ := map_inv (gp_inv hp)
                  unfold callP at h1
                  split at h1
                  · cases h1
                  · obtain ⟨y2, h2, rfl⟩ := map_inv h1
                    exact ⟨oks_enter (kk := 1) hT (by omega) h.1 h2, h.2⟩
                · split at hp
                  · obtain ⟨y, h1, rfl⟩ := map_inv (gp_inv hp)
                    exact ⟨oks_leave h.1 h1, h.2⟩
                  · obtain ⟨y, h1, rfl⟩ := map_inv (gp_inv hp)
                    exact h
theorem okm_step {T : Tr7} {sp : Nat} {m m' : Ms7} {w e : Int32} (hT : OKT T) (hv : m.1.1 ≤ 1000) (h : OKM T m) (hw : w = 0) (hp : mS7 w e m' = stepP T sp m) : OKM T m' := by
  unfold mS7 at hp
  rw [if_pos hw] at hp
  unfold stepP at hp
  obtain ⟨q, h1, h2⟩ := Option.bind_eq_some_iff.mp hp.symm
  have h2 : perfP T q.1 (⟨m.1, q.2, m.2.2.1, m.2.2.2.1, m.2.2.2.2.1, m.2.2.2.2.2.1, m.2.2.2.2.2.2⟩ : Ms7) = some (e, m') := h2
  have hs : OKS T q.2 → OKM T (⟨m.1, q.2, m.2.2.1, m.2.2.2.1, m.2.2.2.2.1, m.2.2.2.2.2.1, m.2.2.2.2.2.2⟩ : Ms7) := fun y => ⟨y, h.2⟩
  refine okm_perf (m := (⟨m.1, q.2, m.2.2.1, m.2.2.2.1, m.2.2.2.2.1, m.2.2.2.2.2.1, m.2.2.2.2.2.2⟩ : Ms7)) hT hv (hs ?_) h2
  clear h2 hs hp
  unfold readP at h1
  split at h1
  · cases h1
  · split at h1
    · cases h1
    · split at h1
      · split at h1
        · cases h1
        · cases h1; exact oks_pass (oks_pass h.1)
      · cases h1; exact oks_pass h.1
theorem hs_no {m : Nat} {k : Int32} (h : ¬ k < 0) (h2 : ¬ k < nI m) : hasS m k = 0 := by rw [hasS, if_neg h, if_pos (Int32.not_lt.mp h2)]
theorem hs_ok {m : Nat} {k : Int32} (h : ¬ k < 0) (h2 : k < nI m) : ¬ hasS m k = 0 := by
  rw [hasS, if_neg h, if_neg (Int32.not_le.mpr h2)]
  decide
theorem ho_0 {n : Nat} {i w : Int32} (h : i < 0 ∨ i ≥ nI n ∨ w < 0 ∨ w > 6) : hasO n i w = 0 := by
  unfold hasO
  by_cases h1 : i < 0
  · rw [if_pos h1]
  · rw [if_neg h1]
    by_cases h2 : nI n ≤ i
    · rw [if_pos h2]
    · rw [if_neg h2]
      by_cases h3 : w < 0
      · rw [if_pos h3]
      · have h4 := ((h.resolve_left h1).resolve_left h2).resolve_left h3
        rw [if_neg h3, if_pos]
        have h4 : (6 : Int32) < w := h4
        rw [Int32.lt_iff_toInt_lt] at h4
        rw [Int32.le_iff_toInt_le]
        have e1 : (6 : Int32).toInt = 6 := by decide
        have e2 : (7 : Int32).toInt = 7 := by decide
        omega
theorem okm_in {T : Tr7} {d : Nat} {k a e : Fn7} {v : Vs7} {u : Us7} {p : Fn7} {h : Int32} {x y : Bool} (hq : OKE T d k e ∧ ∃ k, k ≤ 96 ∧ h = nI k) : OKM T (⟨v, sS d k a e, u, p, h, x, y⟩ : Ms7) := ⟨oke_s hq.1, hq.2⟩
theorem okm_out {T : Tr7} {d : Nat} {k a e : Fn7} {v : Vs7} {u : Us7} {p : Fn7} {h : Int32} {x y : Bool} (hq : OKM T (⟨v, sS d k a e, u, p, h, x, y⟩ : Ms7)) : OKE T d k e ∧ ∃ k, k ≤ 96 ∧ h = nI k := ⟨s_oke hq.1, hq.2⟩
theorem en_oke {T : Tr7} {d : Nat} {k a e : Fn7} {x : Int32} (hT : OKT T) (h : enterP T (0, zero7, zero7, zero7) 0 x = some (sS d k a e)) : OKE T d k e := s_oke (oks_enter (kk := 0) hT (by omega) (fun j hj => absurd hj (Nat.not_lt_zero _)) h)
