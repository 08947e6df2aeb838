/-! contracts by hand: findClumps, partedSets; how contracts are used -/
theorem cOK_fc {d lv : Nat} (hd : 2 ≤ d) {pre post : aP} (hp : ∀ (M M' : pM) (S T : Nat) (sv : Nat → Nat) (ns g : Nat), gP0 pre M → FCx M S T sv → FCr sv ns g S T M T M' → gP1 M post M') : cOK gAll (xF d) 200 (lv, [aRef 62, (0, 0, 1023, 0, 0, 0), (0, 0, 1023, 0, 0, 0)], pre, FCw, [(none, [], post)]) := by
  intro A M hA hM hP
  obtain ⟨v0, r0, rfl, q0, hA⟩ := aF2_cons hA
  obtain ⟨v1, r1, rfl, q1, hA⟩ := aF2_cons hA
  obtain ⟨v2, r2, rfl, q2, hA⟩ := aF2_cons hA
  have := aF2_nil hA
  subst this
  have e0 : v0 = .inr 62 := gW_ref q0 rfl
  obtain ⟨z1, e1, q1⟩ := gW_int q1 (by decide)
  obtain ⟨z2, e2, q2⟩ := gW_int q2 (by decide)
  have q1 := gR0 q1
  have q2 := gR0 q2
  obtain ⟨n1, rfl⟩ := natI q1.1
  obtain ⟨n2, rfl⟩ := natI q2.1
  subst e0; subst e1; subst e2
  have hx := fcx_of hM
  obtain ⟨M', e, r⟩ := m_findClumps (ns := n1) (g := n2) hd hM hx (by omega) (by omega)
  exact ⟨none, M', e, r.1, r.2.1, _, List.mem_singleton.mpr rfl, trivial, fun j hj => absurd hj (Nat.not_lt_zero j), hp M M' _ _ _ n1 n2 hP hx r⟩
theorem cOK_fc1 {d lv : Nat} (hd : 2 ≤ d) : cOK gAll (xF d) 200 (lv, [aRef 62, (0, 0, 1023, 0, 0, 0), (0, 0, 1023, 0, 0, 0)], [], FCw, [(none, [], [])]) := cOK_fc hd (fun _ _ _ _ _ _ _ _ _ _ e he => by cases he)
theorem cOK_fc0 {d lv : Nat} (hd : 2 ≤ d) : cOK gAll (xF d) 200 (lv, [aRef 62, (0, 0, 1023, 0, 0, 0), (0, 0, 1023, 0, 0, 0)], [(60, 3, (0, 0, 0, 0, 0, 0))], FCw, [(none, [], [(60, 30, (0, 0, 0, 0, 0, 0))])]) := cOK_fc hd (fun M M' S T sv ns g hP hx hr e he => by
  cases List.mem_singleton.mp he
  have h3 := gR0 (hP _ (List.mem_singleton.mpr rfl))
  have h4 : M 60 3 = (T : Int) := hx.2.2.1
  have h3 : 0 ≤ M 60 3 ∧ M 60 3 ≤ 0 := h3
  have hT : T = 0 := by omega
  subst hT
  refine ⟨?_, Or.inl rfl⟩
  have e1 : M' 60 30 = 0 := hr.2.2.1
  show gR (0, 0, 0, 0, 0, 0) (M' 60 30)
  rw [e1]
  exact Or.inl ⟨rfl, by decide, by decide⟩)
theorem cOK_pd {d lv o : Nat} {k : Nat} (hk : k = 210) (hr : ∀ (M : pM) (S T : Nat) (sv : Nat → Nat), FCx M S T sv → xF d 210 [.inr 62, .inr (o + 2)] M = rI (bitsOf (fun s => pdF (M o) (sv s) T) S : Nat) M) : cOK gAll (xF d) k (lv, [aRef 62, aRef (o + 2)], [], [], [(some (0, 0, 255, 0, 0, 0), [], [])]) := by
  subst hk
  intro A M hA hM hP
  obtain ⟨v0, r0, rfl, q0, hA⟩ := aF2_cons hA
  obtain ⟨v1, r1, rfl, q1, hA⟩ := aF2_cons hA
  have := aF2_nil hA
  subst this
  have e0 : v0 = .inr 62 := gW_ref q0 rfl
  have e1 : v1 = .inr (o + 2) := by
    have := gW_ref q1 rfl
    rw [this]
    show (Sum.inr ((Int.ofNat (o + 2)).toNat) : pV) = _
    rfl
  subst e0; subst e1
  have hx := fcx_of hM
  have hb : bitsOf (fun s => pdF (M o) ((fun k => (M 67 k).toNat) s) (M 60 3).toNat) (M 60 8).toNat < 256 := Nat.lt_of_lt_of_le (bitsOf_lt _ _) (Nat.pow_le_pow_right (show 0 < 2 by decide) hx.2.1)
  exact ⟨_, M, hr M _ _ _ hx, hM, Fr_rfl, _, List.mem_singleton.mpr rfl, Or.inl ⟨_, rfl, Or.inl ⟨rfl, Int.natCast_nonneg _, Int.ofNat_le.mpr (Nat.le_of_lt_succ hb)⟩⟩, fun j hj => absurd hj (Nat.not_lt_zero j), fun e he => by cases he⟩
/-- a contract used: an int comes back -/
theorem cOK_I {Y : pY} {k : Nat} {c : aC} (h : cOK gAll Y k c) {A : List pV} {M : pM} (hA : aF2 gW c.2.1 A) (hM : gM gAll M) (hP : gP0 c.2.2.1 M) (hi : c.2.2.2.2.all (fun t => match t.1 with
    | some a => Nat.ble a.1 2
    | none => false) = true) : ∃ z M', Y k A M = rI z M' ∧ gM gAll M' ∧ Fr c.2.2.2.1 M M' ∧ ∃ alt, alt ∈ c.2.2.2.2 ∧ gQ alt.1 (some (.inl z)) ∧ gP1 M alt.2.2 M' := by
  obtain ⟨rv, M', e, g, f, alt, ha, q, -, p⟩ := h A M hA hM hP
  have h1 := List.all_eq_true.mp hi alt ha
  cases hq : alt.1 with
  | none => rw [hq] at h1; cases h1
  | some a =>
    rw [hq] at h1 q
    cases rv with
    | none => exact q.elim
    | some v =>
      obtain ⟨z, rfl, -⟩ := gW_int q (Nat.le_of_ble_eq_true h1)
      exact ⟨z, M', e, g, f, alt, ha, by rw [hq]; exact q, p⟩
/-- nothing comes back -/
theorem cOK_V {Y : pY} {k : Nat} {c : aC} (h : cOK gAll Y k c) {A : List pV} {M : pM} (hA : aF2 gW c.2.1 A) (hM : gM gAll M) (hP : gP0 c.2.2.1 M) (hi : c.2.2.2.2.all (fun t => match t.1 with
    | some _ => false
    | none => true) = true) : ∃ M', Y k A M = rV M' ∧ gM gAll M' ∧ Fr c.2.2.2.1 M M' ∧ ∃ alt, alt ∈ c.2.2.2.2 ∧ gP1 M alt.2.2 M' := by
  obtain ⟨rv, M', e, g, f, alt, ha, q, -, p⟩ := h A M hA hM hP
  have h1 := List.all_eq_true.mp hi alt ha
  cases hq : alt.1 with
  | some a => rw [hq] at h1; cases h1
  | none =>
    rw [hq] at q
    cases rv with
    | none => exact ⟨M', e, g, f, alt, ha, p⟩
    | some v => exact q.elim
theorem gW_i {lo hi z : Int} {a : Nat} {b : Int} {c : Nat} (h1 : lo ≤ z) (h2 : z ≤ hi) : gW (0, lo, hi, a, b, c) (.inl z) := Or.inl ⟨z, rfl, Or.inl ⟨rfl, h1, h2⟩⟩
theorem gW_1 {z lo hi : Int} {a : Nat} {b : Int} {c : Nat} : gW (1, lo, hi, a, b, c) (.inl z) := Or.inl ⟨z, rfl, Or.inr (Or.inl rfl)⟩
theorem gW_o {n : Nat} : gW (aRef n) (.inr n) := Or.inr (Or.inl ⟨rfl, rfl⟩)
theorem gR_i {lo hi z : Int} {a : Nat} {b : Int} {c : Nat} (h1 : lo ≤ z) (h2 : z ≤ hi) : gR (0, lo, hi, a, b, c) z := Or.inl ⟨rfl, h1, h2⟩
