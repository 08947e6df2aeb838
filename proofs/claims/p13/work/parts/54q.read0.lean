/-! a text read sign by sign: .inl p: the sign at p can't stand; .inr a: at a, all good so far -/
abbrev rgs : Type := Nat ⊕ Nat
def hc (tx : Nat → Int) (st a : Nat) : Int := if a < st then tx a else -1
def isD (z : Int) : Prop := 48 ≤ z ∧ z ≤ 57
def sgN (tx : Nat → Int) (st : Nat) (c : Int) : rgs → rgs
  | .inl p => .inl p
  | .inr a => if hc tx st a = c then .inr (a + 1) else .inl a
noncomputable def sgD (tx : Nat → Int) (st : Nat) (lo hi : Int) : rgs → rgs
  | .inl p => .inl p
  | .inr a => if 48 ≤ hc tx st a ∧ hc tx st a ≤ 57 ∧ lo ≤ hc tx st a - 48 ∧ hc tx st a - 48 ≤ hi then .inr (a + 1) else .inl a
noncomputable def sgV (tx : Nat → Int) (st : Nat) (lo hi : Int) : rgs → Int
  | .inl _ => 0
  | .inr a => if 48 ≤ hc tx st a ∧ hc tx st a ≤ 57 ∧ lo ≤ hc tx st a - 48 ∧ hc tx st a - 48 ≤ hi then hc tx st a - 48 else 0
/-- 1 or 2 digits, not 0 -/
noncomputable def sgI (tx : Nat → Int) (st : Nat) : rgs → rgs
  | .inl p => .inl p
  | .inr a => if 48 ≤ hc tx st a ∧ hc tx st a ≤ 57 then (if 48 ≤ hc tx st (a + 1) ∧ hc tx st (a + 1) ≤ 57 then (if 10 * (hc tx st a - 48) + (hc tx st (a + 1) - 48) = 0 then .inl (a + 1) else .inr (a + 2)) else (if hc tx st a - 48 = 0 then .inl a else .inr (a + 1))) else .inl a
noncomputable def sgIv (tx : Nat → Int) (st : Nat) : rgs → Int
  | .inl _ => 0
  | .inr a => if 48 ≤ hc tx st a ∧ hc tx st a ≤ 57 then (if 48 ≤ hc tx st (a + 1) ∧ hc tx st (a + 1) ≤ 57 then 10 * (hc tx st a - 48) + (hc tx st (a + 1) - 48) else hc tx st a - 48) else 0
theorem hc_lt {tx : Nat → Int} {st a : Nat} (h : hc tx st a ≠ -1) : a < st := by
  unfold hc at h
  by_cases q : a < st
  · exact q
  · rw [if_neg q] at h; exact absurd rfl h
/-! the reference's reader -/
def RSt (tx : Nat → Int) (L top : Nat) (M : pM) (s : rgs) : Prop := M 60 18 = 70 ∧ M 60 19 = (L : Int) ∧ M 60 20 = (top : Int) ∧ L ≤ 80 ∧ top ≤ 76 ∧ (∀ i, i < 80 → M 68 i = tx i) ∧ (∀ i, i < 80 → -128 ≤ tx i ∧ tx i ≤ 127) ∧ 0 ≤ M 60 21 ∧ M 60 21 ≤ 80 ∧ (match s with
  | .inl p => M 60 22 = (p : Int) ∧ p ≤ 80
  | .inr a => M 60 21 = (a : Int) ∧ a ≤ min L top ∧ M 60 22 = -1)
/-- all but where it stands is the same -/
def AGr (M M' : pM) : Prop := ∀ o i, ¬ (o = 60 ∧ (i = 21 ∨ i = 22)) → M' o i = M o i
theorem AGr_rfl {M : pM} : AGr M M := fun _ _ _ => rfl
theorem AGr_tr {M M1 M2 : pM} (h1 : AGr M M1) (h2 : AGr M1 M2) : AGr M M2 := fun o i h => (h2 o i h).trans (h1 o i h)
theorem AGr_at {M M' : pM} (h : AGr M M') {v : Int} : AGr M (pset M' 60 21 v) := fun o i q => by
  unfold pset
  rw [if_neg (fun z => q ⟨z.1, Or.inl z.2⟩)]
  exact h o i q
theorem AGr_bad {M M' : pM} (h : AGr M M') {v : Int} : AGr M (pset M' 60 22 v) := fun o i q => by
  unfold pset
  rw [if_neg (fun z => q ⟨z.1, Or.inr z.2⟩)]
  exact h o i q
theorem m_here12 (D : Nat) (M : pM) : xE D 178 12 [.inr 62] [.inr 70] M = if 0 ≤ M 60 21 ∧ M 60 21 < 80 then some (some (.inl (M 68 (M 60 21).toNat)), M) else none := (x_run D 178 (fun i => C_178.getD i s_none) rfl (fun _ => false) 19 12 [.inr 62] [.inr 70] M).trans rfl
