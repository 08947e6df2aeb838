/-! what house answers depends on how many there are alone -/
def CE (h h' : pM) : Prop := hR h = hR h' ∧ hT h = hT h' ∧ hS h = hS h'
theorem lnS_cg {tx : Nat → Int} {st a : Nat} {h h' : pM} (e : CE h h') : (lnS tx st h a).1 = (lnS tx st h' a).1 ∧ CE (lnS tx st h a).2 (lnS tx st h' a).2 := by
  obtain ⟨e1, e2, e3⟩ := e
  unfold lnS
  rw [e1, e2, e3]
  by_cases c1 : hc tx st a = 114
  · rw [if_pos c1, if_pos c1]
    by_cases c2 : hR h' = 6
    · rw [if_pos c2, if_pos c2]; exact ⟨rfl, e1, e2, e3⟩
    · rw [if_neg c2, if_neg c2]
      dsimp only
      exact ⟨rfl, by rw [hR_addR, hR_addR, e1], by rw [hT_addR, hT_addR, e2], by rw [hS_addR, hS_addR, e3]⟩
  · rw [if_neg c1, if_neg c1]
    by_cases c2 : hc tx st a = 100
    · rw [if_pos c2, if_pos c2]
      refine ⟨rfl, ?_⟩
      dsimp only
      unfold CE hR hT hS
      rw [hx_addD, hx_addD, hx_addD, hx_addD, hx_addD, hx_addD]
      exact ⟨e1, e2, e3⟩
    · rw [if_neg c2, if_neg c2]
      by_cases c3 : hc tx st a = 115
      · rw [if_pos c3, if_pos c3]
        by_cases c4 : hS h' = 8
        · rw [if_pos c4, if_pos c4]; exact ⟨rfl, e1, e2, e3⟩
        · rw [if_neg c4, if_neg c4]
          dsimp only
          exact ⟨rfl, by rw [hR_addS, hR_addS, e1], by rw [hT_addS, hT_addS, e2], by rw [hS_addS, hS_addS, e3]⟩
      · rw [if_neg c3, if_neg c3]
        by_cases c4 : hT h' = 10
        · rw [if_pos c4, if_pos c4]; exact ⟨rfl, e1, e2, e3⟩
        · rw [if_neg c4, if_neg c4]
          dsimp only
          exact ⟨rfl, by rw [hR_addT, hR_addT, e1], by rw [hT_addT, hT_addT, e2], by rw [hS_addT, hS_addT, e3]⟩
theorem phS_cg {tx : Nat → Int} {st : Nat} : ∀ (f a : Nat) (h h' : pM) (n : Nat), CE h h' → (phS tx st f a h n).1 = (phS tx st f a h' n).1 ∧ (phS tx st f a h n).2.2 = (phS tx st f a h' n).2.2 ∧ CE (phS tx st f a h n).2.1 (phS tx st f a h' n).2.1
  | 0, a, h, h', n, e => ⟨rfl, rfl, e⟩
  | f + 1, a, h, h', n, e => by
    have hu : ∀ h : pM, phS tx st (f + 1) a h n = match (lnS tx st h a).1 with
      | .inl p => (.inl p, (lnS tx st h a).2, n + 1)
      | .inr b => if hc tx st b = 59 then phS tx st f (b + 1) (lnS tx st h a).2 (n + 1) else (.inr b, (lnS tx st h a).2, n + 1) := fun _ => rfl
    obtain ⟨l1, l2⟩ := lnS_cg (tx := tx) (st := st) (a := a) e
    rw [hu h, hu h', l1]
    cases (lnS tx st h' a).1 with
    | inl p => exact ⟨rfl, rfl, l2⟩
    | inr b =>
      dsimp only
      by_cases z : hc tx st b = 59
      · rw [if_pos z, if_pos z]; exact phS_cg f (b + 1) _ _ (n + 1) l2
      · rw [if_neg z, if_neg z]; exact ⟨rfl, rfl, l2⟩
theorem hs_cg {tx : Nat → Int} {L : Nat} {h h' : pM} (e : CE h h') : hsA tx L h = hsA tx L h' ∧ CE (hsH tx L h) (hsH tx L h') := by
  obtain ⟨p1, p2, p3⟩ := phS_cg (tx := tx) (st := min L 76) 78 0 h h' 0 e
  unfold hsA hsH
  by_cases q : L = 0
  · rw [if_pos q, if_pos q, if_pos q, if_pos q]; exact ⟨rfl, e⟩
  · rw [if_neg q, if_neg q, if_neg q, if_neg q, p1, p2]
    cases phE L (phS tx (min L 76) 78 0 h' 0).1 with
    | inl p => exact ⟨rfl, e⟩
    | inr b => exact ⟨rfl, p3⟩
/-- the house that the class's memory tells -/
def xOf (M : pM) : pM := fun o i => match o with
  | 0 => (match i with
    | 0 => M 7 9
    | 1 => M 7 10
    | _ => M 7 11)
  | 1 => M 8 i
  | 2 => M 9 i
  | 3 => M 10 i
  | 4 => M 11 i
  | 5 => M 12 i
  | 6 => M 13 i
  | _ => M 14 i
theorem XH_of {M : pM} (hM : gM gAll M) (h14 : ∀ s : Nat, s < 8 → 0 ≤ M 14 s) : XH M (xOf M) ∧ BD (xOf M) := by
  have h0 := gm_i hM 7 9 (lo := 0) (hi := 6) (by decide +kernel) (by decide +kernel)
  have h3 := gm_i hM 7 10 (lo := 0) (hi := 10) (by decide +kernel) (by decide +kernel)
  have h8 := gm_i hM 7 11 (lo := 0) (hi := 8) (by decide +kernel) (by decide +kernel)
  have e0 : M 7 9 = hR (xOf M) := by show M 7 9 = ((M 7 9).toNat : Int); omega
  have e3 : M 7 10 = hT (xOf M) := by show M 7 10 = ((M 7 10).toNat : Int); omega
  have e8 : M 7 11 = hS (xOf M) := by show M 7 11 = ((M 7 11).toNat : Int); omega
  refine ⟨⟨e0, e3, e8, fun r _ => rfl, fun p _ => rfl, fun t _ => ⟨rfl, rfl, rfl, rfl⟩, fun s hs => ?_⟩, by omega, by omega, by omega⟩
  have := h14 s (by omega)
  show M 14 s = ((M 14 s).toNat : Int)
  omega
