section
/-! contracts by hand: findClumps, partedSets; how contracts are used -/
theorem cOK_fc {d lv : Nat} (hd : 2 ≤ d) {pre post : aP} (hp : ∀ (M M' : pM) (S T : Nat) (sv : Nat → Nat) (ns g : Nat), gP0 pre M → FCx M S T sv → FCr sv ns g S T M T M' → gP1 M post M') : cOK gAll (xF d) 200 (lv, [aRef 62, (0, 0, 1023, 0, 0, 0), (0, 0, 1023, 0, 0, 0)], pre, FCw, [(none, [], post)]) := by
  intro A M hA hM hP
  obtain ⟨v0, r0, rfl, q0, hA⟩ := aF2_cons hA
  obtain ⟨v1, r1, rfl, q1, hA⟩ := aF2_cons hA
  obtain ⟨v2, r2, rfl, q2, hA⟩ := aF2_cons hA
  have := aF2_nil hA
  subst this
  have e0 : v0 = .inr 62 := gW_ref q0 rfl
  obtain ⟨z1, e1, q1⟩ := gW_int q1 (by decide)
  obtain ⟨z2, e2, q2⟩ := gW_int q2 (by decide)
  have q1 := gR0 q1
  have q2 := gR0 q2
  obtain ⟨n1, rfl⟩ := natI q1.1
  obtain ⟨n2, rfl⟩ := natI q2.1
  subst e0; subst e1; subst e2
  have hx := fcx_of hM
  obtain ⟨M', e, r⟩ := m_findClumps (ns := n1) (g := n2) hd hM hx (by omega) (by omega)
  exact ⟨none, M', e, r.1, r.2.1, _, List.mem_singleton.mpr rfl, trivial, fun j hj => absurd hj (Nat.not_lt_zero j), hp M M' _ _ _ n1 n2 hP hx r⟩
theorem cOK_fc1 {d lv : Nat} (hd : 2 ≤ d) : cOK gAll (xF d) 200 (lv, [aRef 62, (0, 0, 1023, 0, 0, 0), (0, 0, 1023, 0, 0, 0)], [], FCw, [(none, [], [])]) := cOK_fc hd (fun _ _ _ _ _ _ _ _ _ _ e he => by cases he)
theorem cOK_fc0 {d lv : Nat} (hd : 2 ≤ d) : cOK gAll (xF d) 200 (lv, [aRef 62, (0, 0, 1023, 0, 0, 0), (0, 0, 1023, 0, 0, 0)], [(60, 3, (0, 0, 0, 0, 0, 0))], FCw, [(none, [], [(60, 30, (0, 0, 0, 0, 0, 0))])]) := cOK_fc hd (fun M M' S T sv ns g hP hx hr e he => by
  cases List.mem_singleton.mp he
  have h3 := gR0 (hP _ (List.mem_singleton.mpr rfl))
  have h4 : M 60 3 = (T : Int) := hx.2.2.1
  have h3 : 0 ≤ M 60 3 ∧ M 60 3 ≤ 0 := h3
  have hT : T = 0 := by omega
  subst hT
  refine ⟨?_, Or.inl rfl⟩
  have e1 : M' 60 30 = 0 := hr.2.2.1
  show gR (0, 0, 0, 0, 0, 0) (M' 60 30)
  rw [e1]
  exact Or.inl ⟨rfl, by decide, by decide⟩)
theorem cOK_pd {d lv o : Nat} {k : Nat} (hk : k = 210) (hr : ∀ (M : pM) (S T : Nat) (sv : Nat → Nat), FCx M S T sv → xF d 210 [.inr 62, .inr (o + 2)] M = rI (bitsOf (fun s => pdF (M o) (sv s) T) S : Nat) M) : cOK gAll (xF d) k (lv, [aRef 62, aRef (o + 2)], [], [], [(some (0, 0, 255, 0, 0, 0), [], [])]) := by
  subst hk
  intro A M hA hM hP
  obtain ⟨v0, r0, rfl, q0, hA⟩ := aF2_cons hA
  obtain ⟨v1, r1, rfl, q1, hA⟩ := aF2_cons hA
  have := aF2_nil hA
  subst this
  have e0 : v0 = .inr 62 := gW_ref q0 rfl
  have e1 : v1 = .inr (o + 2) := by
    have := gW_ref q1 rfl
    rw [this]
    show (Sum.inr ((Int.ofNat (o + 2)).toNat) : pV) = _
    rfl
  subst e0; subst e1
  have hx := fcx_of hM
  have hb : bitsOf (fun s => pdF (M o) ((fun k => (M 67 k).toNat) s) (M 60 3).toNat) (M 60 8).toNat < 256 := Nat.lt_of_lt_of_le (bitsOf_lt _ _) (Nat.pow_le_pow_right (show 0 < 2 by decide) hx.2.1)
  exact ⟨_, M, hr M _ _ _ hx, hM, Fr_rfl, _, List.mem_singleton.mpr rfl, Or.inl ⟨_, rfl, Or.inl ⟨rfl, Int.natCast_nonneg _, Int.ofNat_le.mpr (Nat.le_of_lt_succ hb)⟩⟩, fun j hj => absurd hj (Nat.not_lt_zero j), fun e he => by cases he⟩
/-- a contract used: an int comes back -/
theorem cOK_I {Y : pY} {k : Nat} {c : aC} (h : cOK gAll Y k c) {A : List pV} {M : pM} (hA : aF2 gW c.2.1 A) (hM : gM gAll M) (hP : gP0 c.2.2.1 M) (hi : c.2.2.2.2.all (fun t => match t.1 with
    | some a => Nat.ble a.1 2
    | none => false) = true) : ∃ z M', Y k A M = rI z M' ∧ gM gAll M' ∧ Fr c.2.2.2.1 M M' ∧ ∃ alt, alt ∈ c.2.2.2.2 ∧ gQ alt.1 (some (.inl z)) ∧ gP1 M alt.2.2 M' := by
  obtain ⟨rv, M', e, g, f, alt, ha, q, -, p⟩ := h A M hA hM hP
  have h1 := List.all_eq_true.mp hi alt ha
  cases hq : alt.1 with
  | none => rw [hq] at h1; cases h1
  | some a =>
    rw [hq] at h1 q
    cases rv with
    | none => exact q.elim
    | some v =>
      obtain ⟨z, rfl, -⟩ := gW_int q (Nat.le_of_ble_eq_true h1)
      exact ⟨z, M', e, g, f, alt, ha, by rw [hq]; exact q, p⟩
/-- nothing comes back -/
theorem cOK_V {Y : pY} {k : Nat} {c : aC} (h : cOK gAll Y k c) {A : List pV} {M : pM} (hA : aF2 gW c.2.1 A) (hM : gM gAll M) (hP : gP0 c.2.2.1 M) (hi : c.2.2.2.2.all (fun t => match t.1 with
    | some _ => false
    | none => true) = true) : ∃ M', Y k A M = rV M' ∧ gM gAll M' ∧ Fr c.2.2.2.1 M M' ∧ ∃ alt, alt ∈ c.2.2.2.2 ∧ gP1 M alt.2.2 M' := by
  obtain ⟨rv, M', e, g, f, alt, ha, q, -, p⟩ := h A M hA hM hP
  have h1 := List.all_eq_true.mp hi alt ha
  cases hq : alt.1 with
  | some a => rw [hq] at h1; cases h1
  | none =>
    rw [hq] at q
    cases rv with
    | none => exact ⟨M', e, g, f, alt, ha, p⟩
    | some v => exact q.elim
theorem gW_i {lo hi z : Int} {a : Nat} {b : Int} {c : Nat} (h1 : lo ≤ z) (h2 : z ≤ hi) : gW (0, lo, hi, a, b, c) (.inl z) := Or.inl ⟨z, rfl, Or.inl ⟨rfl, h1, h2⟩⟩
theorem gW_1 {z lo hi : Int} {a : Nat} {b : Int} {c : Nat} : gW (1, lo, hi, a, b, c) (.inl z) := Or.inl ⟨z, rfl, Or.inr (Or.inl rfl)⟩
theorem gW_o {n : Nat} : gW (aRef n) (.inr n) := Or.inr (Or.inl ⟨rfl, rfl⟩)
theorem gR_i {lo hi z : Int} {a : Nat} {b : Int} {c : Nat} (h1 : lo ≤ z) (h2 : z ≤ hi) : gR (0, lo, hi, a, b, c) z := Or.inl ⟨rfl, h1, h2⟩
end
section
/-! a text read sign by sign: .inl p: the sign at p can't stand; .inr a: at a, all good so far -/
abbrev rgs : Type := Nat ⊕ Nat
def hc (tx : Nat → Int) (st a : Nat) : Int := if a < st then tx a else -1
def sgN (tx : Nat → Int) (st : Nat) (c : Int) : rgs → rgs
  | .inl p => .inl p
  | .inr a => if hc tx st a = c then .inr (a + 1) else .inl a
noncomputable def sgD (tx : Nat → Int) (st : Nat) (lo hi : Int) : rgs → rgs
  | .inl p => .inl p
  | .inr a => if 48 ≤ hc tx st a ∧ hc tx st a ≤ 57 ∧ lo ≤ hc tx st a - 48 ∧ hc tx st a - 48 ≤ hi then .inr (a + 1) else .inl a
noncomputable def sgV (tx : Nat → Int) (st : Nat) (lo hi : Int) : rgs → Int
  | .inl _ => 0
  | .inr a => if 48 ≤ hc tx st a ∧ hc tx st a ≤ 57 ∧ lo ≤ hc tx st a - 48 ∧ hc tx st a - 48 ≤ hi then hc tx st a - 48 else 0
/-- 1 or 2 digits, not 0 -/
noncomputable def sgI (tx : Nat → Int) (st : Nat) : rgs → rgs
  | .inl p => .inl p
  | .inr a => if 48 ≤ hc tx st a ∧ hc tx st a ≤ 57 then (if 48 ≤ hc tx st (a + 1) ∧ hc tx st (a + 1) ≤ 57 then (if 10 * (hc tx st a - 48) + (hc tx st (a + 1) - 48) = 0 then .inl (a + 1) else .inr (a + 2)) else (if hc tx st a - 48 = 0 then .inl a else .inr (a + 1))) else .inl a
noncomputable def sgIv (tx : Nat → Int) (st : Nat) : rgs → Int
  | .inl _ => 0
  | .inr a => if 48 ≤ hc tx st a ∧ hc tx st a ≤ 57 then (if 48 ≤ hc tx st (a + 1) ∧ hc tx st (a + 1) ≤ 57 then 10 * (hc tx st a - 48) + (hc tx st (a + 1) - 48) else hc tx st a - 48) else 0
theorem hc_lt {tx : Nat → Int} {st a : Nat} (h : hc tx st a ≠ -1) : a < st := by
  unfold hc at h
  by_cases q : a < st
  · exact q
  · rw [if_neg q] at h; exact absurd rfl h
/-! the reference's reader -/
def RSt (tx : Nat → Int) (L top : Nat) (M : pM) (s : rgs) : Prop := M 60 18 = 70 ∧ M 60 19 = (L : Int) ∧ M 60 20 = (top : Int) ∧ L ≤ 80 ∧ top ≤ 76 ∧ (∀ i, i < 80 → M 68 i = tx i) ∧ (∀ i, i < 80 → -128 ≤ tx i ∧ tx i ≤ 127) ∧ 0 ≤ M 60 21 ∧ M 60 21 ≤ 80 ∧ (match s with
  | .inl p => M 60 22 = (p : Int) ∧ p ≤ 80
  | .inr a => M 60 21 = (a : Int) ∧ a ≤ min L top ∧ M 60 22 = -1)
/-- all but where it stands is the same -/
def AGr (M M' : pM) : Prop := ∀ o i, ¬ (o = 60 ∧ (i = 21 ∨ i = 22)) → M' o i = M o i
theorem AGr_rfl {M : pM} : AGr M M := fun _ _ _ => rfl
theorem AGr_tr {M M1 M2 : pM} (h1 : AGr M M1) (h2 : AGr M1 M2) : AGr M M2 := fun o i h => (h2 o i h).trans (h1 o i h)
theorem AGr_at {M M' : pM} (h : AGr M M') {v : Int} : AGr M (pset M' 60 21 v) := fun o i q => by
  unfold pset
  rw [if_neg (fun z => q ⟨z.1, Or.inl z.2⟩)]
  exact h o i q
theorem AGr_bad {M M' : pM} (h : AGr M M') {v : Int} : AGr M (pset M' 60 22 v) := fun o i q => by
  unfold pset
  rw [if_neg (fun z => q ⟨z.1, Or.inr z.2⟩)]
  exact h o i q
theorem m_here12 (D : Nat) (M : pM) : xE D 178 12 [.inr 62] [.inr 70] M = if 0 ≤ M 60 21 ∧ M 60 21 < 80 then some (some (.inl (M 68 (M 60 21).toNat)), M) else none := (x_run D 178 (fun i => C_178.getD i s_none) rfl (fun _ => false) 19 12 [.inr 62] [.inr 70] M).trans rfl
end
section
/-! a rule's text: what is read, and what it is worth -/
def isL (c : Int) : Bool := decide (c = 105 ∨ c = 98 ∨ c = 119 ∨ c = 103 ∨ c = 107 ∨ c = 114 ∨ c = 122 ∨ c = 100 ∨ c = 104)
section RPS
variable (tx : Nat → Int) (st : Nat) (lv : Int → Int)
/-- up to three digits: how many, and the number -/
noncomputable def ndS (a : Nat) : Nat := if 48 ≤ hc tx st (a + 1) ∧ hc tx st (a + 1) ≤ 57 then (if 48 ≤ hc tx st (a + 2) ∧ hc tx st (a + 2) ≤ 57 then 3 else 2) else 1
noncomputable def ndV (a : Nat) : Int := if 48 ≤ hc tx st (a + 1) ∧ hc tx st (a + 1) ≤ 57 then (if 48 ≤ hc tx st (a + 2) ∧ hc tx st (a + 2) ≤ 57 then 10 * (10 * (10 * 0 + hc tx st a - 48) + hc tx st (a + 1) - 48) + hc tx st (a + 2) - 48 else 10 * (10 * 0 + hc tx st a - 48) + hc tx st (a + 1) - 48) else 10 * 0 + hc tx st a - 48
noncomputable def rpH (rec : Nat → Nat → Int → rgs → rgs × Int) (b : Nat) (s : rgs) : rgs × Int := match (rec 1 b 0 s).1 with
  | .inl _ => rec 1 b 0 s
  | .inr a => if hc tx st a = 60 then ((rec 1 b 0 (.inr (a + 1))).1, if le32 (rec 1 b 0 (.inr (a + 1))).2 (rec 1 b 0 s).2 then 0 else 1)
    else if hc tx st a = 62 then ((rec 1 b 0 (.inr (a + 1))).1, if le32 (rec 1 b 0 s).2 (rec 1 b 0 (.inr (a + 1))).2 then 0 else 1)
    else if hc tx st a = 61 then ((rec 1 b 0 (.inr (a + 1))).1, if ¬ eq32 (rec 1 b 0 s).2 (rec 1 b 0 (.inr (a + 1))).2 then 0 else 1)
    else rec 1 b 0 s
noncomputable def rpA (rec : Nat → Nat → Int → rgs → rgs × Int) (b : Nat) (x : Int) (s : rgs) : rgs × Int := match s with
  | .inl q => (.inl q, x)
  | .inr a => if hc tx st a = 43 then rec 4 b (x + (rec 2 b 0 (.inr (a + 1))).2) (rec 2 b 0 (.inr (a + 1))).1
    else if hc tx st a = 45 then rec 4 b (x - (rec 2 b 0 (.inr (a + 1))).2) (rec 2 b 0 (.inr (a + 1))).1
    else (.inr a, x)
noncomputable def rpT (rec : Nat → Nat → Int → rgs → rgs × Int) (b : Nat) (x : Int) (s : rgs) : rgs × Int := match s with
  | .inl q => (.inl q, x)
  | .inr a => if hc tx st a = 42 then rec 5 b (x * (rec 3 b 0 (.inr (a + 1))).2) (rec 3 b 0 (.inr (a + 1))).1
    else if hc tx st a = 47 then rec 5 b (if eq32 (rec 3 b 0 (.inr (a + 1))).2 0 then 0 else jdiv x (rec 3 b 0 (.inr (a + 1))).2) (rec 3 b 0 (.inr (a + 1))).1
    else (.inr a, x)
noncomputable def rpF (rec : Nat → Nat → Int → rgs → rgs × Int) (b : Nat) (s : rgs) : rgs × Int := match s with
  | .inl q => (.inl q, 0)
  | .inr a => if hc tx st a = 45 then ((rec 3 b 0 (.inr (a + 1))).1, -(rec 3 b 0 (.inr (a + 1))).2)
    else if hc tx st a = 40 ∧ b < 4 then (sgN tx st 41 (rec 0 (b + 1) 0 (.inr (a + 1))).1, (rec 0 (b + 1) 0 (.inr (a + 1))).2)
    else if 48 ≤ hc tx st a ∧ hc tx st a ≤ 57 then (.inr (a + ndS tx st a), ndV tx st a)
    else if isL (hc tx st a) = true then (.inr (a + 1), lv (hc tx st a))
    else (.inl a, 0)
/-- modes: 0 held, 1 sum, 2 product, 3 factor, 4 on with a sum, 5 on with a product -/
noncomputable def rp : Nat → Nat → Nat → Int → rgs → rgs × Int
  | 0 => fun _ _ _ _ => (.inl 0, 0)
  | f + 1 => fun m b x s => match m with
    | 0 => rpH tx st (rp f) b s
    | 1 => rp f 4 b (rp f 2 b 0 s).2 (rp f 2 b 0 s).1
    | 2 => rp f 5 b (rp f 3 b 0 s).2 (rp f 3 b 0 s).1
    | 3 => rpF tx st lv (rp f) b s
    | 4 => rpA tx st (rp f) b x s
    | _ => rpT tx st (rp f) b x s
def rpk : Nat → Nat
  | 0 => 4
  | 1 => 3
  | 2 => 2
  | 3 => 1
  | _ => 0
def rmu (m : Nat) : rgs → Nat
  | .inl _ => rpk m
  | .inr a => 8 * (st + 1 - a) + rpk m
end RPS
section RPU
variable {tx : Nat → Int} {st : Nat} {lv : Int → Int}
theorem ndS_pos {a : Nat} : 1 ≤ ndS tx st a := by
  unfold ndS
  split
  · split <;> omega
  · omega
theorem sgN_up {c : Int} {s : rgs} {z : Nat} (h : sgN tx st c s = .inr z) : ∃ a, s = .inr a ∧ a ≤ z := by
  cases s with
  | inl p => cases h
  | inr a =>
    have h : (if hc tx st a = c then (.inr (a + 1) : rgs) else .inl a) = .inr z := h
    by_cases q : hc tx st a = c
    · rw [if_pos q] at h
      cases h
      exact ⟨a, rfl, by omega⟩
    · rw [if_neg q] at h; cases h
/-- what is read goes on -/
theorem rp_up : ∀ f m b x s z, (rp tx st lv f m b x s).1 = .inr z → ∃ a, s = .inr a ∧ a ≤ z ∧ (m ≤ 3 → a < z)
  | 0, m, b, x, s, z, h => by cases h
  | f + 1, m, b, x, s, z, h => by
    have ih := rp_up f
    rcases m with _ | _ | _ | _ | _ | m
    · have h : (rpH tx st (rp tx st lv f) b s).1 = .inr z := h
      unfold rpH at h
      cases e : (rp tx st lv f 1 b 0 s).1 with
      | inl q => rw [e] at h; dsimp only at h; rw [e] at h; cases h
      | inr a1 =>
        obtain ⟨a, ha, h1, h2⟩ := ih 1 b 0 s a1 e
        have h2 := h2 (by decide)
        rw [e] at h
        dsimp only at h
        refine ⟨a, ha, ?_⟩
        by_cases k1 : hc tx st a1 = 60
        · rw [if_pos k1] at h
          obtain ⟨c, hc', h3, h4⟩ := ih 1 b 0 _ z h
          cases hc'
          omega
        · rw [if_neg k1] at h
          by_cases k2 : hc tx st a1 = 62
          · rw [if_pos k2] at h
            obtain ⟨c, hc', h3, h4⟩ := ih 1 b 0 _ z h
            cases hc'
            omega
          · rw [if_neg k2] at h
            by_cases k3 : hc tx st a1 = 61
            · rw [if_pos k3] at h
              obtain ⟨c, hc', h3, h4⟩ := ih 1 b 0 _ z h
              cases hc'
              omega
            · rw [if_neg k3, e] at h
              cases h
              omega
    · obtain ⟨a1, h1, h2, -⟩ := ih 4 b _ _ z h
      obtain ⟨a, h3, h4, h5⟩ := ih 2 b 0 s a1 h1
      have := h5 (by decide)
      exact ⟨a, h3, by omega, fun _ => by omega⟩
    · obtain ⟨a1, h1, h2, -⟩ := ih 5 b _ _ z h
      obtain ⟨a, h3, h4, h5⟩ := ih 3 b 0 s a1 h1
      have := h5 (by decide)
      exact ⟨a, h3, by omega, fun _ => by omega⟩
    · have h : (rpF tx st lv (rp tx st lv f) b s).1 = .inr z := h
      unfold rpF at h
      cases s with
      | inl q => cases h
      | inr a =>
        dsimp only at h
        refine ⟨a, rfl, ?_⟩
        by_cases k1 : hc tx st a = 45
        · rw [if_pos k1] at h
          obtain ⟨c, hc', h3, h4⟩ := ih 3 b 0 _ z h
          cases hc'
          omega
        · rw [if_neg k1] at h
          by_cases k2 : hc tx st a = 40 ∧ b < 4
          · rw [if_pos k2] at h
            obtain ⟨c, hc', h3⟩ := sgN_up h
            obtain ⟨c2, hc2, h4, h5⟩ := ih 0 (b + 1) 0 _ c hc'
            cases hc2
            omega
          · rw [if_neg k2] at h
            by_cases k3 : 48 ≤ hc tx st a ∧ hc tx st a ≤ 57
            · rw [if_pos k3] at h
              cases h
              have := ndS_pos (tx := tx) (st := st) (a := a)
              omega
            · rw [if_neg k3] at h
              by_cases k4 : isL (hc tx st a) = true
              · rw [if_pos k4] at h
                cases h
                omega
              · rw [if_neg k4] at h; cases h
    · have h : (rpA tx st (rp tx st lv f) b x s).1 = .inr z := h
      unfold rpA at h
      cases s with
      | inl q => cases h
      | inr a =>
        dsimp only at h
        refine ⟨a, rfl, ?_, fun w => by omega⟩
        by_cases k1 : hc tx st a = 43
        · rw [if_pos k1] at h
          obtain ⟨a1, h1, h2, -⟩ := ih 4 b _ _ z h
          obtain ⟨c, hc', h3, h4⟩ := ih 2 b 0 _ a1 h1
          cases hc'
          omega
        · rw [if_neg k1] at h
          by_cases k2 : hc tx st a = 45
          · rw [if_pos k2] at h
            obtain ⟨a1, h1, h2, -⟩ := ih 4 b _ _ z h
            obtain ⟨c, hc', h3, h4⟩ := ih 2 b 0 _ a1 h1
            cases hc'
            omega
          · rw [if_neg k2] at h
            cases h
            omega
    · have h : (rpT tx st (rp tx st lv f) b x s).1 = .inr z := h
      unfold rpT at h
      cases s with
      | inl q => cases h
      | inr a =>
        dsimp only at h
        refine ⟨a, rfl, ?_, fun w => by omega⟩
        by_cases k1 : hc tx st a = 42
        · rw [if_pos k1] at h
          obtain ⟨a1, h1, h2, -⟩ := ih 5 b _ _ z h
          obtain ⟨c, hc', h3, h4⟩ := ih 3 b 0 _ a1 h1
          cases hc'
          omega
        · rw [if_neg k1] at h
          by_cases k2 : hc tx st a = 47
          · rw [if_pos k2] at h
            obtain ⟨a1, h1, h2, -⟩ := ih 5 b _ _ z h
            obtain ⟨c, hc', h3, h4⟩ := ih 3 b 0 _ a1 h1
            cases hc'
            omega
          · rw [if_neg k2] at h
            cases h
            omega
/-- after something is read, less is left -/
theorem rmu_lt {f m b m' : Nat} {x : Int} {s : rgs} (hm : m ≤ 3) (hs : ∀ c, (rp tx st lv f m b x s).1 = .inr c → c ≤ st) (hm' : rpk m' < rpk m ∨ ∃ a, s = .inr a ∧ a ≤ st) (hb : ∀ q, s = .inl q → rpk m' < rpk m) : rmu st m' (rp tx st lv f m b x s).1 < rmu st m s := by
  have k4 : rpk m' ≤ 4 := by unfold rpk; split <;> omega
  cases e : (rp tx st lv f m b x s).1 with
  | inl q =>
    show rpk m' < _
    cases s with
    | inl q' => exact hb q' rfl
    | inr a =>
      show rpk m' < 8 * (st + 1 - a) + rpk m
      rcases hm' with h | ⟨c, hc', h⟩
      · omega
      · cases hc'
        omega
  | inr c =>
    obtain ⟨a, ha, h1, h2⟩ := rp_up f m b x s c e
    have h3 := h2 hm
    have h4 := hs c e
    subst ha
    show 8 * (st + 1 - c) + rpk m' < 8 * (st + 1 - a) + rpk m
    omega
end RPU
/-! the reference reads a rule: typed, or kept -/
def RSq (tx : Nat → Int) (L q : Nat) (M : pM) (s : rgs) : Prop := M 60 18 = (q : Int) ∧ M 60 19 = (L : Int) ∧ M 60 20 = 40 ∧ L ≤ 80 ∧ (q = 70 ∨ q = 73) ∧ (∀ i, i < 80 → (q = 70 → M 68 i = tx i) ∧ (q = 73 → i < 40 → M 71 i = tx i)) ∧ (∀ i, i < 80 → -128 ≤ tx i ∧ tx i ≤ 127) ∧ 0 ≤ M 60 21 ∧ M 60 21 ≤ 40 ∧ (match s with
  | .inl p => M 60 22 = (p : Int) ∧ p ≤ 80
  | .inr a => M 60 21 = (a : Int) ∧ a ≤ min L 40 ∧ M 60 22 = -1)
theorem m_here12r (D : Nat) (M : pM) : xE D 178 12 [.inr 62] [.inr 73] M = if 0 ≤ M 60 21 ∧ M 60 21 < 40 then some (some (.inl (M 71 (M 60 21).toNat)), M) else none := (x_run D 178 (fun i => C_178.getD i s_none) rfl (fun _ => false) 19 12 [.inr 62] [.inr 73] M).trans rfl
section RQ
variable {tx : Nat → Int} {L q d D : Nat} {M : pM} {lv : Int → Int}
theorem hq_range {s : rgs} (h : RSq tx L q M s) (a : Nat) : -128 ≤ hc tx (min L 40) a ∧ hc tx (min L 40) a ≤ 127 := by
  unfold hc
  by_cases z : a < min L 40
  · rw [if_pos z]
    exact h.2.2.2.2.2.2.1 a (by omega)
  · rw [if_neg z]; omega
theorem q_here (hd : 1 ≤ d) {a : Nat} (h : RSq tx L q M (.inr a)) : xF d 178 [.inr 62] M = rI (hc tx (min L 40) a) M := by
  obtain ⟨D, rfl, -⟩ := dsucc hd
  obtain ⟨h1, h2, h3, h4, h5, h6, h7, h8, h9, h10, h11, h12⟩ := h
  rw [T_M_here, h2, h3, h10]
  unfold hc
  by_cases q1 : L ≤ a
  · rw [if_pos (by rw [le32_iff] <;> omega), if_neg (by omega)]
  · rw [if_neg (by rw [le32_iff] <;> omega)]
    by_cases q2 : 40 ≤ a
    · rw [if_pos (by rw [le32_iff] <;> omega), if_neg (by omega)]
    · rw [if_neg (by rw [le32_iff] <;> omega), h1, Int.toNat_natCast]
      rcases h5 with rfl | rfl
      · rw [m_here12, h10, if_pos (by omega), Int.toNat_natCast, (h6 a (by omega)).1 rfl, if_pos (by omega)]
      · rw [m_here12r, h10, if_pos (by omega), Int.toNat_natCast, (h6 a (by omega)).2 rfl (by omega), if_pos (by omega)]
theorem q_fineG (hd : 1 ≤ d) {a : Nat} (h : RSq tx L q M (.inr a)) : xF d 179 [.inr 62] M = rI 1 M := by
  obtain ⟨D, rfl, -⟩ := dsucc hd
  rw [T_M_fine, h.2.2.2.2.2.2.2.2.2.2.2, if_neg (fun z => z rfl)]
theorem q_fineB (hd : 1 ≤ d) {p : Nat} (h : RSq tx L q M (.inl p)) : xF d 179 [.inr 62] M = rI 0 M := by
  obtain ⟨D, rfl, -⟩ := dsucc hd
  have h2 := h.2.2.2.2.2.2.2.2.2.2
  rw [T_M_fine, h.2.2.2.2.2.2.2.2.2.1, if_pos (by rw [eq32_iff] <;> omega)]
theorem q_faultB (hd : 2 ≤ d) {p : Nat} (h : RSq tx L q M (.inl p)) (v : Int) : xF d 180 [.inr 62, .inl v] M = rV M := by
  obtain ⟨D, rfl, hD⟩ := dsucc hd
  rw [T_M_fault, q_fineB hD h, pbI_rI, if_pos rfl]
theorem q_faultG (hd : 2 ≤ d) {a : Nat} (h : RSq tx L q M (.inr a)) {p : Nat} (hp : p ≤ 80) : xF d 180 [.inr 62, .inl (p : Int)] M = rV (pset M 60 22 p) ∧ RSq tx L q (pset M 60 22 p) (.inl p) := by
  obtain ⟨D, rfl, hD⟩ := dsucc hd
  rw [T_M_fault, q_fineG hD h, pbI_rI, if_neg (by decide)]
  obtain ⟨h1, h2, h3, h4, h5, h6, h7, h8, h9, h10⟩ := h
  exact ⟨rfl, by rw [pset_ne2 (by decide)]; exact h1, by rw [pset_ne2 (by decide)]; exact h2, by rw [pset_ne2 (by decide)]; exact h3, h4, h5, fun i hi => by rw [pset_ne (by decide), pset_ne (by decide)]; exact h6 i hi, h7, by rw [pset_ne2 (by decide)]; exact h8, by rw [pset_ne2 (by decide)]; exact h9, pset_eq, hp⟩
theorem RSq_next {a : Nat} (h : RSq tx L q M (.inr a)) (ha : a < min L 40) : RSq tx L q (pset M 60 21 ((a : Int) + 1)) (.inr (a + 1)) := by
  obtain ⟨h1, h2, h3, h4, h5, h6, h7, h8, h9, h10, h11, h12⟩ := h
  exact ⟨by rw [pset_ne2 (by decide)]; exact h1, by rw [pset_ne2 (by decide)]; exact h2, by rw [pset_ne2 (by decide)]; exact h3, h4, h5, fun i hi => by rw [pset_ne (by decide), pset_ne (by decide)]; exact h6 i hi, h7, by rw [pset_eq]; omega, by rw [pset_eq]; omega, by rw [pset_eq]; omega, by omega, by rw [pset_ne2 (by decide)]; exact h12⟩
theorem q_passesG (hd : 2 ≤ d) {a : Nat} (h : RSq tx L q M (.inr a)) {c : Int} (hc0 : 0 ≤ c) (hc1 : c ≤ 127) : xF d 181 [.inr 62, .inl c] M = if hc tx (min L 40) a = c then rI 1 (pset M 60 21 ((a : Int) + 1)) else rI 0 M := by
  obtain ⟨D, rfl, hD⟩ := dsucc hd
  have hr := hq_range h a
  rw [T_M_passes, q_fineG hD h, pbI_rI, if_neg (by decide), q_here hD h, pbI_rI, h.2.2.2.2.2.2.2.2.2.1]
  by_cases z : hc tx (min L 40) a = c
  · rw [if_pos z, if_pos (by rw [z])]
  · rw [if_neg z, if_neg (by rw [eq32_iff] <;> omega)]
theorem q_passesB (hd : 2 ≤ d) {p : Nat} (h : RSq tx L q M (.inl p)) (c : Int) : xF d 181 [.inr 62, .inl c] M = rI 0 M := by
  obtain ⟨D, rfl, hD⟩ := dsucc hd
  rw [T_M_passes, q_fineB hD h, pbI_rI, if_pos rfl]
theorem q_need (hd : 3 ≤ d) {s : rgs} (h : RSq tx L q M s) {c : Int} (hc0 : 0 ≤ c) (hc1 : c ≤ 127) : ∃ M', xF d 182 [.inr 62, .inl c] M = rV M' ∧ RSq tx L q M' (sgN tx (min L 40) c s) ∧ AGr M M' := by
  obtain ⟨D, rfl, hD⟩ := dsucc hd
  rw [T_M_need]
  cases s with
  | inl p =>
    rw [q_passesB hD h, pbI_rI, if_neg (fun z => z rfl), q_faultB hD h, pbN_rV]
    exact ⟨M, rfl, h, AGr_rfl⟩
  | inr a =>
    rw [q_passesG hD h hc0 hc1]
    by_cases z : hc tx (min L 40) a = c
    · have ha : a < min L 40 := hc_lt (tx := tx) (st := min L 40) (by rw [z]; omega)
      rw [if_pos z, pbI_rI, if_pos (by decide)]
      exact ⟨_, rfl, by
        show RSq tx L q _ (if hc tx (min L 40) a = c then .inr (a + 1) else .inl a)
        rw [if_pos z]; exact RSq_next h ha, AGr_at AGr_rfl⟩
    · have h11 := h.2.2.2.2.2.2.2.2.2.2.1
      obtain ⟨e, r⟩ := q_faultG hD h (p := a) (by omega)
      rw [if_neg z, pbI_rI, if_neg (fun z => z rfl), h.2.2.2.2.2.2.2.2.2.1, e, pbN_rV]
      exact ⟨_, rfl, by
        show RSq tx L q _ (if hc tx (min L 40) a = c then .inr (a + 1) else .inl a)
        rw [if_neg z]; exact r, AGr_bad AGr_rfl⟩
/-! numbers -/
theorem q_in {z lo hi : Int} (hd : 1 ≤ d) : xF d 169 [.inl z, .inl lo, .inl hi] M = rI (if lt32 z lo ∨ lt32 hi z then 0 else 1) M := by
  obtain ⟨D, rfl, -⟩ := dsucc hd
  rw [T_M_in]
  by_cases q : lt32 z lo
  · rw [if_pos q, if_pos (Or.inl q)]
  · rw [if_neg q]
    by_cases q2 : lt32 hi z
    · rw [if_pos q2, if_pos (Or.inr q2)]
    · rw [if_neg q2, if_neg (fun w => w.elim q q2)]
theorem q_inD {v : Int} (hd : 1 ≤ d) (h1 : -1000 ≤ v) (h2 : v ≤ 1000) {lo hi : Int} (h3 : -1000 ≤ lo) (h4 : lo ≤ 1000) (h5 : -1000 ≤ hi) (h6 : hi ≤ 1000) : xF d 169 [.inl v, .inl lo, .inl hi] M = rI (if lo ≤ v ∧ v ≤ hi then 1 else 0) M := by
  have e1 : lt32 v lo ↔ v < lo := lt32_iff (by omega) (by omega) (by omega) (by omega)
  have e2 : lt32 hi v ↔ hi < v := lt32_iff (by omega) (by omega) (by omega) (by omega)
  rw [q_in hd]
  by_cases z : lo ≤ v ∧ v ≤ hi
  · rw [if_pos z, if_neg (fun w => by
      rw [e1, e2] at w
      omega)]
  · rw [if_neg z, if_pos (by rw [e1, e2]; omega)]
theorem q_nS (hD : 1 ≤ D) {a b : Nat} (ha : a ≤ b) (hb : b < a + 3) (h : RSq tx L q M (.inr b)) (g : 48 ≤ hc tx (min L 40) b ∧ hc tx (min L 40) b ≤ 57) (x5 : Int) : xE D 183 10 [.inr 62, .inl 3, .inl 0, .inl 999, .inl (a : Int), .inl x5] [] M = xE D 183 10 [.inr 62, .inl 3, .inl 0, .inl 999, .inl (a : Int), .inl (10 * x5 + hc tx (min L 40) b - 48)] [] (pset M 60 21 ((b : Int) + 1)) := by
  have hat := h.2.2.2.2.2.2.2.2.2.1
  have h11 := h.2.2.2.2.2.2.2.2.2.2.1
  have hr := hq_range h b
  rw [L_M_number_10 D 3 0 999 (a : Int) x5 M, hat, if_neg (by rw [le32_iff] <;> omega), q_here hD h, pbI_rI, q_inD hD (by omega) (by omega) (by omega) (by omega) (by omega) (by omega), pbI_rI, if_pos g, if_neg (by decide), q_here hD h, pbI_rI, hat]
theorem q_nE (hd : 1 ≤ d) {a b : Nat} (hab : a < b) (h : RSq tx L q M (.inr b)) {v : Int} (hv : 0 ≤ v ∧ v ≤ 999) : (if ¬ eq32 (M 60 21) (a : Int) then (pbI (xF d 169 [.inl v, .inl 0, .inl 999] M) fun v16 M15 => if ¬ eq32 v16 0 then (pbI (xF d 179 [.inr 62] M15) fun v18 M17 => if eq32 v18 0 then some (some (.inl 0), M17) else some (some (.inl v), M17)) else (pbN (xF d 180 [.inr 62, .inl ((M15 60 21) - 1)] M15) fun M19 => pbI (xF d 179 [.inr 62] M19) fun v21 M20 => if eq32 v21 0 then some (some (.inl 0), M20) else some (some (.inl v), M20))) else (pbN (xF d 180 [.inr 62, .inl (M 60 21)] M) fun M22 => pbI (xF d 179 [.inr 62] M22) fun v24 M23 => if eq32 v24 0 then some (some (.inl 0), M23) else some (some (.inl v), M23))) = rI v M := by
  have hat := h.2.2.2.2.2.2.2.2.2.1
  have h11 := h.2.2.2.2.2.2.2.2.2.2.1
  rw [hat, if_pos (by rw [eq32_iff] <;> omega), q_inD hd (by omega) (by omega) (by omega) (by omega) (by omega) (by omega), pbI_rI, if_pos hv, if_pos (by decide), q_fineG hd h, pbI_rI, if_neg (by decide)]
theorem q_nT (hD : 1 ≤ D) {a b : Nat} (hab : a < b) (hb : b ≤ a + 3) (h : RSq tx L q M (.inr b)) (g : b = a + 3 ∨ ¬ (48 ≤ hc tx (min L 40) b ∧ hc tx (min L 40) b ≤ 57)) {x5 : Int} (hv : 0 ≤ x5 ∧ x5 ≤ 999) : xE D 183 10 [.inr 62, .inl 3, .inl 0, .inl 999, .inl (a : Int), .inl x5] [] M = rI x5 M := by
  have hat := h.2.2.2.2.2.2.2.2.2.1
  have h11 := h.2.2.2.2.2.2.2.2.2.2.1
  have hr := hq_range h b
  have E := q_nE hD hab h hv
  by_cases z : b = a + 3
  · rw [L_M_number_10, if_pos (by rw [hat, le32_iff] <;> omega)]
    exact E
  · rw [L_M_number_10, if_neg (by rw [hat, le32_iff] <;> omega), q_here hD h, pbI_rI, q_inD hD (by omega) (by omega) (by omega) (by omega) (by omega) (by omega), pbI_rI, if_neg (g.resolve_left z), if_pos (by decide)]
    exact E
theorem q_num (hd : 2 ≤ d) {a : Nat} (h : RSq tx L q M (.inr a)) (g : 48 ≤ hc tx (min L 40) a ∧ hc tx (min L 40) a ≤ 57) : ∃ M', xF d 183 [.inr 62, .inl 3, .inl 0, .inl 999] M = rI (ndV tx (min L 40) a) M' ∧ RSq tx L q M' (.inr (a + ndS tx (min L 40) a)) ∧ AGr M M' := by
  obtain ⟨D, rfl, hD⟩ := dsucc hd
  have hat := h.2.2.2.2.2.2.2.2.2.1
  have lt0 : a < min L 40 := hc_lt (tx := tx) (st := min L 40) (by omega)
  have h1 := RSq_next h lt0
  rw [T_M_number, q_fineG hD h, pbI_rI, if_pos (by decide), hat, q_nS hD (Nat.le_refl a) (by omega) h g]
  unfold ndS ndV
  by_cases g1 : 48 ≤ hc tx (min L 40) (a + 1) ∧ hc tx (min L 40) (a + 1) ≤ 57
  · have lt1 : a + 1 < min L 40 := hc_lt (tx := tx) (st := min L 40) (by omega)
    have h2 : RSq tx L q _ (.inr (a + 2)) := RSq_next h1 lt1
    rw [if_pos g1, if_pos g1, q_nS hD (by omega) (by omega) h1 g1]
    by_cases g2 : 48 ≤ hc tx (min L 40) (a + 2) ∧ hc tx (min L 40) (a + 2) ≤ 57
    · have lt2 : a + 2 < min L 40 := hc_lt (tx := tx) (st := min L 40) (by omega)
      have h3 : RSq tx L q _ (.inr (a + 3)) := RSq_next h2 lt2
      rw [if_pos g2, if_pos g2, q_nS hD (by omega) (by omega) h2 g2, q_nT hD (by omega) (by omega) h3 (Or.inl rfl) (by omega)]
      exact ⟨_, rfl, h3, AGr_at (AGr_at (AGr_at AGr_rfl))⟩
    · rw [if_neg g2, if_neg g2, q_nT hD (by omega) (by omega) h2 (Or.inr g2) (by omega)]
      exact ⟨_, rfl, h2, AGr_at (AGr_at AGr_rfl)⟩
  · rw [if_neg g1, if_neg g1, q_nT hD (by omega) (by omega) h1 (Or.inr g1) (by omega)]
    exact ⟨_, rfl, h1, AGr_at AGr_rfl⟩
/-- what the letters stand for -/
def HLv (lv : Int → Int) (M : pM) : Prop := ∀ c, isL c = true → ∀ d M', 5 ≤ d → AGr M M' → (if ¬ eq32 (M' 60 26) (-1) then (pbI (xF d 192 [.inr 62, .inl c, .inl (M' 60 26), .inl (M' 60 27)] M') fun v N => some (some (.inl v), N)) else some (some (.inl 0), M')) = rI (lv c) M'
theorem HLv_ag {M' : pM} (h : HLv lv M) (e : AGr M M') : HLv lv M' := fun c hl d N hd e2 => h c hl d N hd (AGr_tr e e2)
theorem iteI {c : Prop} [Decidable c] {x y : Int} : (if c then (rI x M : Option pR) else rI y M) = rI (if c then x else y) M := by
  split <;> rfl
def OUT (tx : Nat → Int) (L q : Nat) (M : pM) (r : Option pR) (p : rgs × Int) : Prop := ∃ M', r = rI p.2 M' ∧ RSq tx L q M' p.1 ∧ AGr M M'
theorem OUT_tr {M' : pM} {r : Option pR} {p : rgs × Int} (e : AGr M M') (h : OUT tx L q M' r p) : OUT tx L q M r p := by
  obtain ⟨N, h1, h2, h3⟩ := h
  exact ⟨N, h1, h2, AGr_tr e h3⟩
theorem RSq_le {a : Nat} (h : RSq tx L q M (.inr a)) : a ≤ min L 40 := h.2.2.2.2.2.2.2.2.2.2.1
/-- the reference reads as rp says, so far as f goes -/
def RP (tx : Nat → Int) (L q : Nat) (lv : Int → Int) (f : Nat) : Prop := ∀ (b : Nat) (s : rgs) (M : pM) (d : Nat), b ≤ 4 → RSq tx L q M s → HLv lv M →
  (rmu (min L 40) 0 s < f → rmu (min L 40) 0 s + 6 ≤ d → OUT tx L q M (xF d 188 [.inr 62, .inl (b : Int)] M) (rp tx (min L 40) lv f 0 b 0 s)) ∧
  (rmu (min L 40) 1 s < f → rmu (min L 40) 1 s + 6 ≤ d → OUT tx L q M (xF d 189 [.inr 62, .inl (b : Int)] M) (rp tx (min L 40) lv f 1 b 0 s)) ∧
  (rmu (min L 40) 2 s < f → rmu (min L 40) 2 s + 6 ≤ d → OUT tx L q M (xF d 190 [.inr 62, .inl (b : Int)] M) (rp tx (min L 40) lv f 2 b 0 s)) ∧
  (rmu (min L 40) 3 s < f → rmu (min L 40) 3 s + 6 ≤ d → OUT tx L q M (xF d 191 [.inr 62, .inl (b : Int)] M) (rp tx (min L 40) lv f 3 b 0 s)) ∧
  (rmu (min L 40) 4 s < f → rmu (min L 40) 4 s + 6 ≤ d → ∀ (x : Int) (y3 y4 : pV), OUT tx L q M (xE d 189 4 [.inr 62, .inl (b : Int), .inl x, y3, y4] [] M) (rp tx (min L 40) lv f 4 b x s)) ∧
  (rmu (min L 40) 5 s < f → rmu (min L 40) 5 s + 6 ≤ d → ∀ (x : Int) (y3 y4 : pV), OUT tx L q M (xE d 190 4 [.inr 62, .inl (b : Int), .inl x, y3, y4] [] M) (rp tx (min L 40) lv f 5 b x s))
theorem RP_all : ∀ f, RP tx L q lv f
  | 0 => fun b s M d _ _ _ => ⟨fun h => absurd h (Nat.not_lt_zero _), fun h => absurd h (Nat.not_lt_zero _), fun h => absurd h (Nat.not_lt_zero _), fun h => absurd h (Nat.not_lt_zero _), fun h => absurd h (Nat.not_lt_zero _), fun h => absurd h (Nat.not_lt_zero _)⟩
  | f + 1 => fun b s M d hb R H => by
    have ih := RP_all f
    -- a step on from a good place
    have go : ∀ (m : Nat) (a : Nat) (N : pM), RSq tx L q N (.inr a) → a < min L 40 → RSq tx L q (pset N 60 21 ((a : Int) + 1)) (.inr (a + 1)) ∧ ∀ m', rpk m' ≤ 4 ∧ rmu (min L 40) m' (.inr (a + 1) : rgs) < rmu (min L 40) m (.inr a : rgs) := fun m a N r h => ⟨RSq_next r h, fun m' => ⟨by unfold rpk; split <;> omega, by
      have k4 : rpk m' ≤ 4 := by unfold rpk; split <;> omega
      show 8 * (min L 40 + 1 - (a + 1)) + rpk m' < 8 * (min L 40 + 1 - a) + rpk m
      omega⟩⟩
    have ltc : ∀ {a : Nat} {c : Int}, hc tx (min L 40) a = c → 0 ≤ c → a < min L 40 := fun {a c} h1 h2 => hc_lt (tx := tx) (st := min L 40) (by rw [h1]; omega)
    -- what comes behind something that was read
    have aft : ∀ {g m : Nat} {x : Int} (m' : Nat) {s : rgs} {N N' : pM}, m ≤ 3 → rpk m' < rpk m → RSq tx L q N s → RSq tx L q N' (rp tx (min L 40) lv g m b x s).1 → rmu (min L 40) m' (rp tx (min L 40) lv g m b x s).1 < rmu (min L 40) m s := fun {g m x} m' {s N N'} hm hk r1 r2 => rmu_lt hm (fun c e => by rw [e] at r2; exact RSq_le r2) (Or.inl hk) (fun _ _ => hk)
    refine ⟨fun hf hd => ?_, fun hf hd => ?_, fun hf hd => ?_, fun hf hd => ?_, fun hf hd x y3 y4 => ?_, fun hf hd x y3 y4 => ?_⟩
    · -- held
      obtain ⟨D, rfl, hD⟩ := dsucc (show 1 ≤ d by omega)
      have k : rmu (min L 40) 1 s + 1 = rmu (min L 40) 0 s := by cases s <;> rfl
      obtain ⟨M1, e1, R1, A1⟩ := (ih b s M D hb R H).2.1 (by omega) (by omega)
      have H1 := HLv_ag H A1
      show OUT tx L q M _ (rpH tx (min L 40) (rp tx (min L 40) lv f) b s)
      rw [T_M_held, e1, pbI_rI]
      unfold rpH
      have lt1 := aft (m := 1) (m' := 2) (g := f) (x := 0) (N := M) (N' := M1) (by decide) (by decide) R R1
      cases e : (rp tx (min L 40) lv f 1 b 0 s).1 with
      | inl p =>
        rw [e] at R1
        rw [q_passesB (by omega) R1, pbI_rI, if_pos rfl, q_passesB (by omega) R1, pbI_rI, if_pos rfl, q_passesB (by omega) R1, pbI_rI, if_pos rfl]
        exact ⟨M1, rfl, by rw [e]; exact R1, A1⟩
      | inr a =>
        rw [e] at R1 lt1
        have lt1 : 8 * (min L 40 + 1 - a) + 2 < rmu (min L 40) 1 s := lt1
        have la := RSq_le R1
        dsimp only
        have nx : ∀ c : Int, 0 ≤ c → hc tx (min L 40) a = c → ∃ M2, xF D 189 [.inr 62, .inl (b : Int)] (pset M1 60 21 ((a : Int) + 1)) = rI (rp tx (min L 40) lv f 1 b 0 (.inr (a + 1))).2 M2 ∧ RSq tx L q M2 (rp tx (min L 40) lv f 1 b 0 (.inr (a + 1))).1 ∧ AGr M M2 := fun c c0 hc' => by
          obtain ⟨R2, g2⟩ := go 2 a M1 R1 (ltc hc' c0)
          have g3 : rmu (min L 40) 1 (.inr (a + 1) : rgs) < 8 * (min L 40 + 1 - a) + 2 := (g2 1).2
          obtain ⟨M2, e2, R3, A3⟩ := (ih b (.inr (a + 1)) _ D hb R2 (HLv_ag H1 (AGr_at AGr_rfl))).2.1 (by omega) (by omega)
          exact ⟨M2, e2, R3, AGr_tr (AGr_at A1) A3⟩
        rw [q_passesG (by omega) R1 (by decide) (by decide)]
        by_cases k1 : hc tx (min L 40) a = 60
        · obtain ⟨M2, e2, R2, A2⟩ := nx 60 (by decide) k1
          rw [if_pos k1, if_pos k1, pbI_rI, if_neg (by decide), e2, pbI_rI, iteI]
          exact ⟨M2, rfl, R2, A2⟩
        · rw [if_neg k1, if_neg k1, pbI_rI, if_pos rfl, q_passesG (by omega) R1 (by decide) (by decide)]
          by_cases k2 : hc tx (min L 40) a = 62
          · obtain ⟨M2, e2, R2, A2⟩ := nx 62 (by decide) k2
            rw [if_pos k2, if_pos k2, pbI_rI, if_neg (by decide), e2, pbI_rI, iteI]
            exact ⟨M2, rfl, R2, A2⟩
          · rw [if_neg k2, if_neg k2, pbI_rI, if_pos rfl, q_passesG (by omega) R1 (by decide) (by decide)]
            by_cases k3 : hc tx (min L 40) a = 61
            · obtain ⟨M2, e2, R2, A2⟩ := nx 61 (by decide) k3
              rw [if_pos k3, if_pos k3, pbI_rI, if_neg (by decide), e2, pbI_rI, iteI]
              exact ⟨M2, rfl, R2, A2⟩
            · rw [if_neg k3, if_neg k3, pbI_rI, if_pos rfl]
              exact ⟨M1, rfl, by rw [e]; exact R1, A1⟩
    · -- sum
      obtain ⟨D, rfl, hD⟩ := dsucc (show 1 ≤ d by omega)
      have k : rmu (min L 40) 2 s + 1 = rmu (min L 40) 1 s := by cases s <;> rfl
      obtain ⟨M1, e1, R1, A1⟩ := (ih b s M D hb R H).2.2.1 (by omega) (by omega)
      have lt1 := aft (m := 2) (m' := 4) (g := f) (x := 0) (N := M) (N' := M1) (by decide) (by decide) R R1
      rw [T_M_sum, e1, pbI_rI]
      exact OUT_tr A1 ((ih b _ M1 D hb R1 (HLv_ag H A1)).2.2.2.2.1 (by omega) (by omega) _ _ _)
    · -- product
      obtain ⟨D, rfl, hD⟩ := dsucc (show 1 ≤ d by omega)
      have k : rmu (min L 40) 3 s + 1 = rmu (min L 40) 2 s := by cases s <;> rfl
      obtain ⟨M1, e1, R1, A1⟩ := (ih b s M D hb R H).2.2.2.1 (by omega) (by omega)
      have lt1 := aft (m := 3) (m' := 5) (g := f) (x := 0) (N := M) (N' := M1) (by decide) (by decide) R R1
      rw [T_M_product, e1, pbI_rI]
      exact OUT_tr A1 ((ih b _ M1 D hb R1 (HLv_ag H A1)).2.2.2.2.2 (by omega) (by omega) _ _ _)
    · -- factor
      obtain ⟨D, rfl, hD⟩ := dsucc (show 1 ≤ d by omega)
      show OUT tx L q M _ (rpF tx (min L 40) lv (rp tx (min L 40) lv f) b s)
      unfold rpF
      cases s with
      | inl p =>
        rw [T_M_factor, q_passesB (by omega) R, pbI_rI, if_pos rfl, q_fineB (by omega) R, pbI_rI, if_neg (fun z => z rfl)]
        exact ⟨M, rfl, R, AGr_rfl⟩
      | inr a =>
        have la := RSq_le R
        have hat := R.2.2.2.2.2.2.2.2.2.1
        have hr := hq_range R a
        have m0 : rmu (min L 40) 3 (.inr a : rgs) = 8 * (min L 40 + 1 - a) + 1 := rfl
        dsimp only
        rw [T_M_factor, q_passesG (by omega) R (by decide) (by decide)]
        by_cases k1 : hc tx (min L 40) a = 45
        · obtain ⟨R2, g2⟩ := go 3 a M R (ltc k1 (by decide))
          have g3 := (g2 3).2
          obtain ⟨M2, e2, R3, A3⟩ := (ih b (.inr (a + 1)) _ D hb R2 (HLv_ag H (AGr_at AGr_rfl))).2.2.2.1 (by omega) (by omega)
          rw [if_pos k1, if_pos k1, pbI_rI, if_neg (by decide), e2, pbI_rI]
          exact ⟨M2, rfl, R3, AGr_tr (AGr_at AGr_rfl) A3⟩
        · rw [if_neg k1, if_neg k1, pbI_rI, if_pos rfl, q_fineG (by omega) R, pbI_rI, if_pos (by decide), q_here (by omega) R, pbI_rI]
          by_cases k2 : hc tx (min L 40) a = 40
          · rw [if_neg (fun w => w (by rw [k2]))]
            by_cases k3 : b < 4
            · obtain ⟨R2, g2⟩ := go 3 a M R (ltc k2 (by decide))
              have g3 := (g2 0).2
              obtain ⟨M2, e2, R3, A3⟩ := (ih (b + 1) (.inr (a + 1)) _ D (by omega) R2 (HLv_ag H (AGr_at AGr_rfl))).1 (by omega) (by omega)
              obtain ⟨M3, e3, R4, A4⟩ := q_need (d := D) (by omega) R3 (c := 41) (by decide) (by decide)
              rw [if_neg (by rw [le32_iff] <;> omega), if_pos ⟨k2, k3⟩, hat, show ((b : Int) + 1) = ((b + 1 : Nat) : Int) by omega, e2, pbI_rI, e3, pbN_rV]
              exact ⟨M3, rfl, R4, AGr_tr (AGr_tr (AGr_at AGr_rfl) A3) A4⟩
            · obtain ⟨e, r⟩ := q_faultG (d := D) (by omega) R (p := a) (by omega)
              rw [if_pos (by rw [le32_iff] <;> omega), if_neg (fun w => k3 w.2), if_neg (by omega), if_neg (by rw [k2]; decide), q_inD (by omega) (by omega) (by omega) (by omega) (by omega) (by omega) (by omega), pbI_rI, if_neg (show ¬ ((48 : Int) ≤ hc tx (min L 40) a ∧ hc tx (min L 40) a ≤ 57) by omega), if_pos rfl, k2, if_neg (by decide), if_neg (by decide), if_neg (by decide), if_neg (by decide), if_neg (by decide), if_neg (by decide), if_neg (by decide), if_neg (by decide), if_neg (by decide), hat, e, pbN_rV]
              exact ⟨_, rfl, r, AGr_bad AGr_rfl⟩
          · rw [if_pos (by rw [eq32_iff] <;> omega), if_neg (fun w => k2 w.1), q_inD (by omega) (by omega) (by omega) (by omega) (by omega) (by omega) (by omega), pbI_rI]
            by_cases k3 : 48 ≤ hc tx (min L 40) a ∧ hc tx (min L 40) a ≤ 57
            · obtain ⟨M2, e2, R2, A2⟩ := q_num (d := D) (by omega) R k3
              rw [if_pos k3, if_pos k3, if_neg (by decide), e2, pbI_rI]
              exact ⟨M2, rfl, R2, A2⟩
            · rw [if_neg k3, if_neg k3, if_pos rfl, hat]
              generalize hu : hc tx (min L 40) a = u at *
              have fin : isL u = true → OUT tx L q M (if ¬ eq32 (pset M 60 21 ((a : Int) + 1) 60 26) (-1) then (pbI (xF D 192 [.inr 62, .inl u, .inl (pset M 60 21 ((a : Int) + 1) 60 26), .inl (pset M 60 21 ((a : Int) + 1) 60 27)] (pset M 60 21 ((a : Int) + 1))) fun v N => some (some (.inl v), N)) else some (some (.inl 0), pset M 60 21 ((a : Int) + 1))) (if isL u = true then (.inr (a + 1), lv u) else (.inl a, 0)) := fun hl => by
                have e := H u hl D (pset M 60 21 ((a : Int) + 1)) (by omega) (AGr_at AGr_rfl)
                have lt : a < min L 40 := hc_lt (tx := tx) (st := min L 40) (by
                  rw [hu]
                  have := of_decide_eq_true hl
                  omega)
                rw [e, if_pos hl]
                exact ⟨_, rfl, RSq_next R lt, AGr_at AGr_rfl⟩
              by_cases l0 : u = 105
              · rw [if_pos (by rw [l0])]; exact fin (decide_eq_true (by omega))
              rw [if_neg (by rw [eq32_iff] <;> omega)]
              by_cases l1 : u = 98
              · rw [if_pos (by rw [l1])]; exact fin (decide_eq_true (by omega))
              rw [if_neg (by rw [eq32_iff] <;> omega)]
              by_cases l2 : u = 119
              · rw [if_pos (by rw [l2])]; exact fin (decide_eq_true (by omega))
              rw [if_neg (by rw [eq32_iff] <;> omega)]
              by_cases l3 : u = 103
              · rw [if_pos (by rw [l3])]; exact fin (decide_eq_true (by omega))
              rw [if_neg (by rw [eq32_iff] <;> omega)]
              by_cases l4 : u = 107
              · rw [if_pos (by rw [l4])]; exact fin (decide_eq_true (by omega))
              rw [if_neg (by rw [eq32_iff] <;> omega)]
              by_cases l5 : u = 114
              · rw [if_pos (by rw [l5])]; exact fin (decide_eq_true (by omega))
              rw [if_neg (by rw [eq32_iff] <;> omega)]
              by_cases l6 : u = 122
              · rw [if_pos (by rw [l6])]; exact fin (decide_eq_true (by omega))
              rw [if_neg (by rw [eq32_iff] <;> omega)]
              by_cases l7 : u = 100
              · rw [if_pos (by rw [l7])]; exact fin (decide_eq_true (by omega))
              rw [if_neg (by rw [eq32_iff] <;> omega)]
              by_cases l8 : u = 104
              · rw [if_pos (by rw [l8])]; exact fin (decide_eq_true (by omega))
              rw [if_neg (by rw [eq32_iff] <;> omega)]
              obtain ⟨e, r⟩ := q_faultG (d := D) (by omega) R (p := a) (by omega)
              rw [e, pbN_rV, if_neg (fun hl => by
                have := of_decide_eq_true hl
                omega)]
              exact ⟨_, rfl, r, AGr_bad AGr_rfl⟩
    · -- on with a sum
      show OUT tx L q M _ (rpA tx (min L 40) (rp tx (min L 40) lv f) b x s)
      unfold rpA
      rw [L_M_sum_4]
      cases s with
      | inl p =>
        rw [q_fineB (by omega) R, pbI_rI, if_pos rfl]
        exact ⟨M, rfl, R, AGr_rfl⟩
      | inr a =>
        have hat := R.2.2.2.2.2.2.2.2.2.1
        have hr := hq_range R a
        have m0 : rmu (min L 40) 4 (.inr a : rgs) = 8 * (min L 40 + 1 - a) := rfl
        have nx : ∀ c : Int, 0 ≤ c → hc tx (min L 40) a = c → ∃ M2, xF d 190 [.inr 62, .inl (b : Int)] (pset M 60 21 ((a : Int) + 1)) = rI (rp tx (min L 40) lv f 2 b 0 (.inr (a + 1))).2 M2 ∧ ∀ (x : Int) (y3 y4 : pV), OUT tx L q M (xE d 189 4 [.inr 62, .inl (b : Int), .inl x, y3, y4] [] M2) (rp tx (min L 40) lv f 4 b x (rp tx (min L 40) lv f 2 b 0 (.inr (a + 1))).1) := fun c c0 hc' => by
          obtain ⟨R2, g2⟩ := go 4 a M R (ltc hc' c0)
          have g3 := (g2 2).2
          obtain ⟨M2, e2, R3, A3⟩ := (ih b (.inr (a + 1)) _ d hb R2 (HLv_ag H (AGr_at AGr_rfl))).2.2.1 (by omega) (by omega)
          have lt1 := aft (m := 2) (m' := 4) (g := f) (x := 0) (by decide) (by decide) R2 R3
          have A4 : AGr M M2 := AGr_tr (AGr_at AGr_rfl) A3
          exact ⟨M2, e2, fun x y3 y4 => OUT_tr A4 ((ih b _ M2 d hb R3 (HLv_ag H A4)).2.2.2.2.1 (by omega) (by omega) x y3 y4)⟩
        dsimp only
        rw [q_fineG (by omega) R, pbI_rI, if_neg (by decide), q_here (by omega) R, pbI_rI]
        by_cases k1 : hc tx (min L 40) a = 43
        · obtain ⟨M2, e2, h2⟩ := nx 43 (by decide) k1
          rw [if_pos (by rw [k1]), q_here (by omega) R, pbI_rI, if_neg (fun w => w (by rw [k1])), hat, e2, pbI_rI, if_neg (by decide), if_pos k1]
          exact h2 _ _ _
        · rw [if_neg (by rw [eq32_iff] <;> omega), q_here (by omega) R, pbI_rI, if_neg k1]
          by_cases k2 : hc tx (min L 40) a = 45
          · obtain ⟨M2, e2, h2⟩ := nx 45 (by decide) k2
            rw [if_neg (fun w => w (by rw [k2])), q_here (by omega) R, pbI_rI, if_pos (by rw [k2]; decide), hat, e2, pbI_rI, if_pos rfl, if_pos k2]
            exact h2 _ _ _
          · rw [if_pos (by rw [eq32_iff] <;> omega), if_neg k2]
            exact ⟨M, rfl, R, AGr_rfl⟩
    · -- on with a product
      show OUT tx L q M _ (rpT tx (min L 40) (rp tx (min L 40) lv f) b x s)
      unfold rpT
      rw [L_M_product_4]
      cases s with
      | inl p =>
        rw [q_fineB (by omega) R, pbI_rI, if_pos rfl]
        exact ⟨M, rfl, R, AGr_rfl⟩
      | inr a =>
        have hat := R.2.2.2.2.2.2.2.2.2.1
        have hr := hq_range R a
        have m0 : rmu (min L 40) 5 (.inr a : rgs) = 8 * (min L 40 + 1 - a) := rfl
        have nx : ∀ c : Int, 0 ≤ c → hc tx (min L 40) a = c → ∃ M2, xF d 191 [.inr 62, .inl (b : Int)] (pset M 60 21 ((a : Int) + 1)) = rI (rp tx (min L 40) lv f 3 b 0 (.inr (a + 1))).2 M2 ∧ ∀ (x : Int) (y3 y4 : pV), OUT tx L q M (xE d 190 4 [.inr 62, .inl (b : Int), .inl x, y3, y4] [] M2) (rp tx (min L 40) lv f 5 b x (rp tx (min L 40) lv f 3 b 0 (.inr (a + 1))).1) := fun c c0 hc' => by
          obtain ⟨R2, g2⟩ := go 5 a M R (ltc hc' c0)
          have g3 := (g2 3).2
          obtain ⟨M2, e2, R3, A3⟩ := (ih b (.inr (a + 1)) _ d hb R2 (HLv_ag H (AGr_at AGr_rfl))).2.2.2.1 (by omega) (by omega)
          have lt1 := aft (m := 3) (m' := 5) (g := f) (x := 0) (by decide) (by decide) R2 R3
          have A4 : AGr M M2 := AGr_tr (AGr_at AGr_rfl) A3
          exact ⟨M2, e2, fun x y3 y4 => OUT_tr A4 ((ih b _ M2 d hb R3 (HLv_ag H A4)).2.2.2.2.2 (by omega) (by omega) x y3 y4)⟩
        dsimp only
        rw [q_fineG (by omega) R, pbI_rI, if_neg (by decide), q_here (by omega) R, pbI_rI]
        by_cases k1 : hc tx (min L 40) a = 42
        · obtain ⟨M2, e2, h2⟩ := nx 42 (by decide) k1
          rw [if_pos (by rw [k1]), q_here (by omega) R, pbI_rI, if_neg (fun w => w (by rw [k1])), hat, e2, pbI_rI, if_neg (by decide), if_pos k1]
          exact h2 _ _ _
        · rw [if_neg (by rw [eq32_iff] <;> omega), q_here (by omega) R, pbI_rI, if_neg k1]
          by_cases k2 : hc tx (min L 40) a = 47
          · obtain ⟨M2, e2, h2⟩ := nx 47 (by decide) k2
            rw [if_neg (fun w => w (by rw [k2])), q_here (by omega) R, pbI_rI, if_pos (by rw [k2]; decide), hat, e2, pbI_rI, if_pos rfl, if_pos k2]
            by_cases z : eq32 (rp tx (min L 40) lv f 3 b 0 (.inr (a + 1))).2 0
            · rw [if_neg (fun w => w z), if_pos z]
              exact h2 _ _ _
            · rw [if_pos z, if_neg z, if_neg z]
              exact h2 _ _ _
          · rw [if_pos (by rw [eq32_iff] <;> omega), if_neg k2]
            exact ⟨M, rfl, R, AGr_rfl⟩
end RQ
end
section
/-! the reference's rule reading ends: its contract, by hand -/
section RCN
variable {D d : Nat} {M : pM}
theorem z_setsOf (h8 : 0 ≤ M 60 8 ∧ M 60 8 ≤ 8) (x1 : Int) : ∀ (m k : Nat) (x2 : Int), k + m = 8 → ∃ z, ∀ D M', AGr M M' → xE (D + 1) 196 4 [.inr 62, .inl x1, .inl x2, .inl (k : Int)] [] M' = rI z M'
  | 0, k, x2, hk => ⟨x2, fun D M' A => by rw [L_M_setsOf_4, A 60 8 (by omega), if_pos (by rw [le32_iff] <;> omega)]⟩
  | m + 1, k, x2, hk => by
    by_cases q : le32 (M 60 8) (k : Int)
    · exact ⟨x2, fun D M' A => by rw [L_M_setsOf_4, A 60 8 (by omega), if_pos q]⟩
    · by_cases q2 : eq32 (jand (jshr (M 67 k) x1) 1) 1
      · obtain ⟨z, e⟩ := z_setsOf h8 x1 m (k + 1) (jor x2 (jshl 1 (k : Int))) (by omega)
        refine ⟨z, fun D M' A => ?_⟩
        rw [L_M_setsOf_4, A 60 8 (by omega), if_neg q, if_pos (by omega), Int.toNat_natCast, A 67 k (by omega), T_M_has, if_neg (fun w => w q2), pbI_rI, if_neg (by decide), show ((k : Int) + 1) = ((k + 1 : Nat) : Int) by omega]
        exact e D M' A
      · obtain ⟨z, e⟩ := z_setsOf h8 x1 m (k + 1) (jor x2 0) (by omega)
        refine ⟨z, fun D M' A => ?_⟩
        rw [L_M_setsOf_4, A 60 8 (by omega), if_neg q, if_pos (by omega), Int.toNat_natCast, A 67 k (by omega), T_M_has, if_pos q2, pbI_rI, if_pos rfl, show ((k : Int) + 1) = ((k + 1 : Nat) : Int) by omega]
        exact e D M' A
theorem z_besides (h0 : 0 ≤ M 60 0 ∧ M 60 0 ≤ 6) {x1 : Int} (hx : 0 ≤ x1 ∧ x1 ≤ 5) : ∀ (m k : Nat) (x2 : Int), k + m = 6 → ∃ z, ∀ D M', AGr M M' → xE D 197 4 [.inr 62, .inl x1, .inl x2, .inl (k : Int)] [] M' = rI z M'
  | 0, k, x2, hk => ⟨x2, fun D M' A => by rw [L_M_besides_4, A 60 0 (by omega), if_pos (by rw [le32_iff] <;> omega)]⟩
  | m + 1, k, x2, hk => by
    by_cases q : le32 (M 60 0) (k : Int)
    · exact ⟨x2, fun D M' A => by rw [L_M_besides_4, A 60 0 (by omega), if_pos q]⟩
    · by_cases q2 : le32 (M 62 (6 * x1 + (k : Int)).toNat) 0
      · obtain ⟨z, e⟩ := z_besides h0 hx m (k + 1) (jor x2 0) (by omega)
        refine ⟨z, fun D M' A => ?_⟩
        rw [L_M_besides_4, A 60 0 (by omega), if_neg q, if_pos (by omega), A 62 _ (by omega), if_pos q2, show ((k : Int) + 1) = ((k + 1 : Nat) : Int) by omega]
        exact e D M' A
      · obtain ⟨z, e⟩ := z_besides h0 hx m (k + 1) (jor x2 (jshl 1 (k : Int))) (by omega)
        refine ⟨z, fun D M' A => ?_⟩
        rw [L_M_besides_4, A 60 0 (by omega), if_neg q, if_pos (by omega), A 62 _ (by omega), if_neg q2, show ((k : Int) + 1) = ((k + 1 : Nat) : Int) by omega]
        exact e D M' A
theorem z_letter (hM : gM gAll M) {t r : Int} (ht : 0 ≤ t ∧ t ≤ 9) (hr : 0 ≤ r ∧ r ≤ 5) {c : Int} (hl : isL c = true) : ∃ z, ∀ d M', 5 ≤ d → AGr M M' → xF d 192 [.inr 62, .inl c, .inl t, .inl r] M' = rI z M' := by
  have h8 := gm_i hM 60 8 (lo := 0) (hi := 8) (by decide +kernel) (by decide +kernel)
  have h0 := gm_i hM 60 0 (lo := 0) (hi := 6) (by decide +kernel) (by decide +kernel)
  have hl := of_decide_eq_true hl
  rcases hl with rfl | rfl | rfl | rfl | rfl | rfl | rfl | rfl | rfl
  · refine ⟨t, fun d M' hd A => ?_⟩
    obtain ⟨D, rfl, hD⟩ := dsucc (show 1 ≤ d by omega)
    rw [T_M_letter]
    repeat rw [if_neg (by decide)]
    rw [if_pos (by decide)]
  · refine ⟨M 63 t.toNat, fun d M' hd A => ?_⟩
    obtain ⟨D, rfl, hD⟩ := dsucc (show 1 ≤ d by omega)
    rw [T_M_letter, if_pos (by decide), if_pos (by omega), A 63 _ (by omega)]
  · refine ⟨M 64 t.toNat, fun d M' hd A => ?_⟩
    obtain ⟨D, rfl, hD⟩ := dsucc (show 1 ≤ d by omega)
    rw [T_M_letter]
    repeat rw [if_neg (by decide)]
    rw [if_pos (by decide), if_pos (by omega), A 64 _ (by omega)]
  · refine ⟨M 65 t.toNat, fun d M' hd A => ?_⟩
    obtain ⟨D, rfl, hD⟩ := dsucc (show 1 ≤ d by omega)
    rw [T_M_letter]
    repeat rw [if_neg (by decide)]
    rw [if_pos (by decide), if_pos (by omega), A 65 _ (by omega)]
  · obtain ⟨z, e⟩ := z_setsOf h8 t 8 0 0 (by omega)
    obtain ⟨w, hw⟩ : ∃ w, ∀ D M, xF (D + 1) 270 [.inl z] M = rI w M := ⟨_, fun D M => T_I_bitCount D z M⟩
    refine ⟨w, fun d M' hd A => ?_⟩
    obtain ⟨D, rfl, hD⟩ := dsucc (show 1 ≤ d by omega)
    obtain ⟨D', rfl, hD'⟩ := dsucc (show 1 ≤ D by omega)
    obtain ⟨D2, rfl, -⟩ := dsucc (show 1 ≤ D' by omega)
    have e' : xE (D2 + 1) 196 4 [.inr 62, .inl t, .inl 0, .inl 0] [] M' = rI z M' := e D2 M' A
    rw [T_M_letter]
    repeat rw [if_neg (by decide)]
    rw [if_pos (by decide), T_M_setsOf, e', pbI_rI, hw, pbI_rI]
  · refine ⟨r, fun d M' hd A => ?_⟩
    obtain ⟨D, rfl, hD⟩ := dsucc (show 1 ≤ d by omega)
    rw [T_M_letter]
    repeat rw [if_neg (by decide)]
    rw [if_pos (by decide)]
  · refine ⟨M 61 r.toNat, fun d M' hd A => ?_⟩
    obtain ⟨D, rfl, hD⟩ := dsucc (show 1 ≤ d by omega)
    rw [T_M_letter]
    repeat rw [if_neg (by decide)]
    rw [if_pos (by decide), if_pos (by omega), A 61 _ (by omega)]
  · obtain ⟨z, e⟩ := z_besides h0 hr 6 0 0 (by omega)
    obtain ⟨w, hw⟩ : ∃ w, ∀ D M, xF (D + 1) 270 [.inl z] M = rI w M := ⟨_, fun D M => T_I_bitCount D z M⟩
    refine ⟨w, fun d M' hd A => ?_⟩
    obtain ⟨D, rfl, hD⟩ := dsucc (show 1 ≤ d by omega)
    obtain ⟨D', rfl, hD'⟩ := dsucc (show 1 ≤ D by omega)
    have e' : xE D' 197 4 [.inr 62, .inl r, .inl 0, .inl 0] [] M' = rI z M' := e D' M' A
    rw [T_M_letter]
    repeat rw [if_neg (by decide)]
    rw [if_pos (by decide), T_M_besides, e', pbI_rI, hw, pbI_rI]
  · refine ⟨if eq32 (M 66 t.toNat) r then 1 else 0, fun d M' hd A => ?_⟩
    obtain ⟨D, rfl, hD⟩ := dsucc (show 1 ≤ d by omega)
    rw [T_M_letter]
    repeat rw [if_neg (by decide)]
    rw [if_pos (by decide), if_pos (by omega), A 66 _ (by omega)]
    by_cases q : eq32 (M 66 t.toNat) r
    · rw [if_neg (fun w => w q), if_pos q]
    · rw [if_pos q, if_neg q]
theorem z_HLv (hM : gM gAll M) : ∃ lv, HLv lv M := by
  have h26 := gm_i hM 60 26 (lo := -1) (hi := 9) (by decide +kernel) (by decide +kernel)
  have h27 := gm_i hM 60 27 (lo := 0) (hi := 5) (by decide +kernel) (by decide +kernel)
  have all : ∀ c : Int, ∃ z : Int, isL c = true → ∀ d M', 5 ≤ d → AGr M M' → (if ¬ eq32 (M' 60 26) (-1) then (pbI (xF d 192 [.inr 62, .inl c, .inl (M' 60 26), .inl (M' 60 27)] M') fun v N => some (some (.inl v), N)) else some (some (.inl 0), M')) = rI z M' := fun c => by
    by_cases q : eq32 (M 60 26) (-1)
    · exact ⟨0, fun _ d M' _ A => by rw [A 60 26 (by omega), if_neg (fun w => w q)]⟩
    · have n1 : M 60 26 ≠ -1 := fun w => q (by rw [w])
      cases hl : isL c with
      | false => exact ⟨0, fun h => by cases h⟩
      | true =>
        obtain ⟨z, e⟩ := z_letter hM (t := M 60 26) (r := M 60 27) (by omega) h27 hl
        exact ⟨z, fun _ d M' hd A => by rw [A 60 26 (by omega), A 60 27 (by omega), if_pos q, e d M' hd A, pbI_rI]⟩
  obtain ⟨lv, h⟩ := Classical.axiomOfChoice all
  exact ⟨lv, h⟩
theorem gM_RSq {tx : Nat → Int} {L q : Nat} {M' : pM} {s : rgs} (hM : gM gAll M) (a : AGr M M') (h : RSq tx L q M' s) : gM gAll M' := by
  intro o k hk
  by_cases q : o = 60 ∧ (k = 21 ∨ k = 22)
  · obtain ⟨rfl, q⟩ := q
    rcases q with rfl | rfl
    · rw [show gAll 60 21 = (0, 0, 80, 0, 0, 0) by decide +kernel]
      exact Or.inl ⟨rfl, h.2.2.2.2.2.2.2.1, (show M' 60 21 ≤ 80 by have := h.2.2.2.2.2.2.2.2.1; omega)⟩
    · rw [show gAll 60 22 = (0, -1, 80, 0, 0, 0) by decide +kernel]
      have := h.2.2.2.2.2.2.2.2.2
      cases s with
      | inl p => exact Or.inl ⟨rfl, (show -1 ≤ M' 60 22 by have := this.1; omega), (show M' 60 22 ≤ 80 by have := this; omega)⟩
      | inr a => exact Or.inl ⟨rfl, (show -1 ≤ M' 60 22 by have := this.2.2; omega), (show M' 60 22 ≤ 80 by have := this.2.2; omega)⟩
  · rw [a o k q]; exact hM o k hk
theorem cOK_held {d lv : Nat} {q : Int} (hq : q = 70 ∨ q = 73) (hd : 340 ≤ d) : cOK gAll (xF d) 188 (lv, [aRef 62, (0, 0, 4, 0, 0, 0)], [(60, 18, (0, q, q, 0, 0, 0)), (60, 20, (0, 40, 40, 0, 0, 0)), (60, 21, (0, 0, 0, 0, 0, 0)), (60, 22, (0, -1, -1, 0, 0, 0))], [(60, 21), (60, 22)], [(some (1, 0, 0, 0, 0, 0), [], [(60, 21, (0, 0, 40, 0, 0, 0))])]) := by
  intro A M hA hM hP
  obtain ⟨v0, r0, rfl, q0, hA⟩ := aF2_cons hA
  obtain ⟨v1, r1, rfl, q1, hA⟩ := aF2_cons hA
  have := aF2_nil hA
  subst this
  have e0 : v0 = .inr 62 := gW_ref q0 rfl
  obtain ⟨z1, e1, q1⟩ := gW_int q1 (by decide)
  have s1 := gR0 q1
  obtain ⟨b, rfl⟩ := natI s1.1
  subst e0; subst e1
  have p18 := gR0 (hP (60, 18, (0, q, q, 0, 0, 0)) (by simp))
  have p20 := gR0 (hP (60, 20, (0, 40, 40, 0, 0, 0)) (by simp))
  have p21 := gR0 (hP (60, 21, (0, 0, 0, 0, 0, 0)) (by simp))
  have p22 := gR0 (hP (60, 22, (0, -1, -1, 0, 0, 0)) (by simp))
  have p18 : q ≤ M 60 18 ∧ M 60 18 ≤ q := p18
  have p20 : 40 ≤ M 60 20 ∧ M 60 20 ≤ 40 := p20
  have p21 : 0 ≤ M 60 21 ∧ M 60 21 ≤ 0 := p21
  have p22 : -1 ≤ M 60 22 ∧ M 60 22 ≤ -1 := p22
  have h19 := gm_i hM 60 19 (lo := 0) (hi := 80) (by decide +kernel) (by decide +kernel)
  obtain ⟨L, hL⟩ := natI h19.1
  obtain ⟨lv', H⟩ := z_HLv hM
  have R : RSq (fun i => if q = 70 then M 68 i else if i < 40 then M 71 i else 0) L q.toNat M (.inr 0) := by
    refine ⟨by omega, hL, by omega, by omega, by omega, fun i hi => ⟨fun z => ?_, fun z z2 => ?_⟩, fun i hi => ?_, by omega, by omega, by omega, by omega, by omega⟩
    · show M 68 i = if q = 70 then M 68 i else if i < 40 then M 71 i else 0
      rw [if_pos (by omega)]
    · show M 71 i = if q = 70 then M 68 i else if i < 40 then M 71 i else 0
      rw [if_neg (by omega), if_pos z2]
    · have r1 : -128 ≤ M 68 i ∧ M 68 i ≤ 127 := gm_r hM (o := 68) (lo := -128) (hi := 127) (by decide +kernel) (by decide +kernel) (show i < 80 from hi)
      show -128 ≤ (if q = 70 then M 68 i else if i < 40 then M 71 i else 0) ∧ (if q = 70 then M 68 i else if i < 40 then M 71 i else 0) ≤ 127
      by_cases z : q = 70
      · rw [if_pos z]; exact r1
      · rw [if_neg z]
        by_cases z2 : i < 40
        · rw [if_pos z2]
          exact gm_r hM (o := 71) (lo := -128) (hi := 127) (by decide +kernel) (by decide +kernel) (show i < 40 from z2)
        · rw [if_neg z2]; omega
  have mu : rmu (min L 40) 0 (.inr 0 : rgs) = 8 * (min L 40 + 1 - 0) + 4 := rfl
  have s1 : 0 ≤ (b : Int) ∧ (b : Int) ≤ 4 := s1
  obtain ⟨M', e, R', A'⟩ := (RP_all 400 b (.inr 0) M d (by omega) R H).1 (by omega) (by omega)
  exact ⟨_, M', e, gM_RSq hM A' R', fun o k hk => A' o k (fun w => by
    obtain ⟨rfl, w⟩ := w
    rcases w with rfl | rfl
    · cases hk
    · cases hk), _, List.mem_singleton.mpr rfl, Or.inl ⟨_, rfl, Or.inr (Or.inl rfl)⟩, fun j hj => absurd hj (Nat.not_lt_zero j), fun e he => by
    cases List.mem_singleton.mp he
    exact ⟨Or.inl ⟨rfl, R'.2.2.2.2.2.2.2.1, R'.2.2.2.2.2.2.2.2.1⟩, Or.inl rfl⟩⟩
end RCN
end
