section
/-! aim, on both sides: digits of rooms, one for each thing -/
noncomputable def amS (tx : Nat → Int) (st R : Nat) : Nat → rgs
  | 0 => .inr 0
  | k + 1 => sgD tx st 0 ((R : Int) - 1) (amS tx st R k)
/-- what aim answers -/
noncomputable def amA (tx : Nat → Int) (L T R : Nat) : Int := if L = 0 then 0 else match amS tx (min L T) R T with
  | .inl p => -1 - (p : Int)
  | .inr _ => if L ≤ T then (L : Int) else -1 - (T : Int)
section AMS
variable {tx : Nat → Int} {st R : Nat}
theorem amS_ok {k : Nat} (h : amS tx st R k = .inr k) (q : 48 ≤ hc tx st k ∧ hc tx st k ≤ (R : Int) + 47) (hR : R ≤ 6) : amS tx st R (k + 1) = .inr (k + 1) := by
  show sgD tx st 0 ((R : Int) - 1) (amS tx st R k) = _
  rw [h]
  exact if_pos ⟨q.1, by omega, by omega, by omega⟩
theorem amS_no {k : Nat} (h : amS tx st R k = .inr k) (q : ¬ (48 ≤ hc tx st k ∧ hc tx st k ≤ (R : Int) + 47)) : amS tx st R (k + 1) = .inl k := by
  show sgD tx st 0 ((R : Int) - 1) (amS tx st R k) = _
  rw [h]
  exact if_neg (fun z => q ⟨z.1, by omega⟩)
theorem amS_stay {p k : Nat} (h : amS tx st R k = .inl p) : ∀ j, amS tx st R (k + j) = .inl p
  | 0 => h
  | j + 1 => by
    show sgD tx st 0 ((R : Int) - 1) (amS tx st R (k + j)) = _
    rw [amS_stay h j]; rfl
theorem amS_inr (hR : R ≤ 6) : ∀ (k a : Nat), amS tx st R k = .inr a → a = k ∧ ∀ i, i < k → 48 ≤ hc tx st i ∧ hc tx st i ≤ (R : Int) + 47
  | 0, a, h => by
    have h : (.inr 0 : rgs) = .inr a := h
    cases h
    exact ⟨rfl, fun i hi => absurd hi (Nat.not_lt_zero _)⟩
  | k + 1, a, h => by
    have h : sgD tx st 0 ((R : Int) - 1) (amS tx st R k) = .inr a := h
    cases e : amS tx st R k with
    | inl p =>
      rw [e] at h
      exact absurd (show (.inl p : rgs) = .inr a from h) (fun z => by cases z)
    | inr b =>
      obtain ⟨r, hh⟩ := amS_inr hR k b e
      rw [r] at e
      by_cases q : 48 ≤ hc tx st k ∧ hc tx st k ≤ (R : Int) + 47
      · have e2 := (amS_ok e q hR).symm.trans h
        cases e2
        refine ⟨rfl, fun i hi => ?_⟩
        rcases Nat.lt_or_ge i k with z | z
        · exact hh i z
        · have : i = k := by omega
          rw [this]; exact q
      · have e2 := (amS_no e q).symm.trans h
        cases e2
theorem amS_le (hR : R ≤ 6) {k a : Nat} (h : amS tx st R k = .inr a) : k ≤ st := by
  rcases Nat.lt_or_ge st k with q | q
  · have := (amS_inr hR k a h).2 st q
    unfold hc at this
    rw [if_neg (Nat.lt_irrefl _)] at this
    omega
  · exact q
theorem amS_inl (hR : R ≤ 6) : ∀ (k p : Nat), amS tx st R k = .inl p → p < k
  | 0, p, h => absurd (show (.inr 0 : rgs) = .inl p from h) (fun z => by cases z)
  | k + 1, p, h => by
    cases e : amS tx st R k with
    | inl p' =>
      have h2 := (amS_stay e 1).symm.trans h
      have := amS_inl hR k p' e
      cases h2
      omega
    | inr b =>
      obtain ⟨r, -⟩ := amS_inr hR k b e
      rw [r] at e
      by_cases q : 48 ≤ hc tx st k ∧ hc tx st k ≤ (R : Int) + 47
      · have e2 := (amS_ok e q hR).symm.trans h
        cases e2
      · have e2 := (amS_no e q).symm.trans h
        cases e2
        exact Nat.lt_succ_self _
end AMS
/-- what aim leaves at the class: o the places told, n how many -/
def amX (tx : Nat → Int) (L : Nat) (a : Int) (M M' : pM) : Prop := if 0 < a then M' 0 14 = (L : Int) ∧ ∀ t, t < L → M' 58 t = tx t - 48 else if L = 0 then M' 0 14 = 0 else M' 0 14 = M 0 14 ∧ ∀ t, M' 58 t = M 58 t
def amM (tx : Nat → Int) (L : Nat) (a : Int) (M M' : pM) : Prop := if 0 < a then M' 60 43 = (L : Int) ∧ M' 60 44 = 1 ∧ ∀ t, t < L → M' 81 t = tx t - 48 else if L = 0 then M' 60 44 = 0 else M' 60 43 = M 60 43 ∧ M' 60 44 = M 60 44 ∧ ∀ t, M' 81 t = M 81 t
section AMX
variable {tx : Nat → Int} {D d st L T R : Nat} {M : pM}
theorem x_cutL (hd : 1 ≤ d) (h1 : M 1 1 = (L : Int)) (hL : L ≤ 80) : xF d 153 [.inr 3, .inl 0] M = rI 1 (pset M 1 1 0) := by
  obtain ⟨D, rfl, -⟩ := dsucc hd
  rw [T_Text_cut, h1, if_neg (by rw [lt32_iff] <;> omega), if_pos (by rw [le32_iff] <;> omega)]
theorem x_at (hd : 2 ≤ d) (h1 : M 1 1 = (L : Int)) (hL : L ≤ 80) {k : Nat} (hk : k < L) : xF d 154 [.inr 3, .inl (k : Int)] M = rI (M 2 k) M := by
  obtain ⟨D, rfl, hD⟩ := dsucc hd
  obtain ⟨D', rfl, -⟩ := dsucc (show 1 ≤ D by omega)
  rw [T_Text_at, h1, if_neg (by rw [lt32_iff] <;> omega), if_neg (by rw [le32_iff] <;> omega), T_X_numberAt_2, if_neg (by rw [lt32_iff] <;> omega), if_neg (by rw [le32_iff] <;> omega), if_pos (by omega), Int.toNat_natCast, pbI_rI]
noncomputable def amF (tx : Nat → Int) (st R L T : Nat) : Int := match amS tx st R T with
  | .inl p => (p : Int)
  | .inr _ => if L ≤ st then -1 else (st : Int)
theorem x_am8 (hD : 4 ≤ D) (hR : R ≤ 6) (hT : T ≤ 10) (hL : L ≤ 80) : ∀ (m k : Nat) (M : pM), k + m = T → XSt tx st M (amS tx st R k) → M 7 9 = (R : Int) → M 7 10 = (T : Int) → M 1 1 = (L : Int) → ∃ M', xE D 56 8 [.inr 2, .inl (k : Int)] [] M = rI (amF tx st R L T) M' ∧ AGx M M' := by
  intro m
  induction m with
  | zero =>
    intro k M hk x h9 h10 h1
    have e : k = T := by omega
    rw [L_X_aimFault_8, h10, if_pos (by rw [le32_iff] <;> omega)]
    rw [e] at x
    unfold amF
    cases z : amS tx st R T with
    | inl p =>
      rw [z] at x
      rw [x_faultB (by omega) x, pbI_rI]
      exact ⟨M, rfl, AGx_rfl⟩
    | inr a =>
      rw [z] at x
      rw [x_faultG (by omega) x h1 hL, pbI_rI]
      exact ⟨M, rfl, AGx_rfl⟩
  | succ m ih =>
    intro k M hk x h9 h10 h1
    obtain ⟨v, M1, e1, x1, a1, -⟩ := x_digit (d := D) (by omega) x (lo := 0) (hi := (R : Int) - 1) (by decide) (by decide) (by omega) (by omega)
    rw [Int.sub_add_cancel] at e1
    rw [L_X_aimFault_8, h10, if_neg (by rw [le32_iff] <;> omega), h9, e1, pbI_rI]
    obtain ⟨M2, e2, a2⟩ := ih (k + 1) M1 (by omega) x1 (by rw [a1 7 9 (by omega)]; exact h9) (by rw [a1 7 10 (by omega)]; exact h10) (by rw [a1 1 1 (by omega)]; exact h1)
    exact ⟨M2, e2, AGx_tr a1 a2⟩
theorem x_aimFault (hd : 5 ≤ d) (hR : R ≤ 6) (hT : T ≤ 10) (hL : L ≤ 80) (h9 : M 7 9 = (R : Int)) (h10 : M 7 10 = (T : Int)) (h1 : M 1 1 = (L : Int)) (ht : ∀ i, i < 80 → M 2 i = ux (tx i)) (hx : ∀ i, i < 80 → -128 ≤ tx i ∧ tx i ≤ 127) : ∃ M', xF d 56 [.inr 2] M = rI (amF tx (min L T) R L T) M' ∧ ∀ o i, ¬ (o = 3 ∧ (i = 1 ∨ i = 2 ∨ i = 3)) → M' o i = M o i := by
  obtain ⟨D, rfl, hD⟩ := dsucc hd
  obtain ⟨D', rfl, -⟩ := dsucc (show 1 ≤ D by omega)
  have ej : jmin (L : Int) (T : Int) = ((min L T : Nat) : Int) := by
    rw [jmin_eq (by omega) (by omega) (by omega) (by omega)]; omega
  rw [T_X_aimFault, h10, T_Reader_start_3, pbN_rV, pset_ne (show 1 ≠ 3 by decide), pset_ne (show 1 ≠ 3 by decide), h1, ej]
  generalize hB : pset (pset (pset M 3 1 0) 3 3 (-1)) 3 2 ((min L T : Nat) : Int) = MB
  have eo : ∀ o i, ¬ (o = 3 ∧ (i = 1 ∨ i = 2 ∨ i = 3)) → MB o i = M o i := fun o i ho => by
    rw [← hB]
    unfold pset
    rw [if_neg (fun z => ho ⟨z.1, by omega⟩), if_neg (fun z => ho ⟨z.1, by omega⟩), if_neg (fun z => ho ⟨z.1, by omega⟩)]
  have xB : XSt tx (min L T) MB (amS tx (min L T) R 0) := by
    refine ⟨?_, by omega, fun i hi => by rw [eo 2 i (by omega)]; exact ht i hi, hx, ?_, ?_, ?_, by omega, ?_⟩
    · rw [← hB, pset_eq]
    · rw [← hB, pset_ne2 (by decide), pset_ne2 (by decide), pset_eq]; decide
    · rw [← hB, pset_ne2 (by decide), pset_ne2 (by decide), pset_eq]; decide
    · rw [← hB, pset_ne2 (by decide), pset_ne2 (by decide), pset_eq]; rfl
    · rw [← hB, pset_ne2 (by decide), pset_eq]
  obtain ⟨M', e, a⟩ := x_am8 (D := D' + 1) (by omega) hR hT hL T 0 MB (by omega) xB (by rw [eo 7 9 (by omega)]; exact h9) (by rw [eo 7 10 (by omega)]; exact h10) (by rw [eo 1 1 (by omega)]; exact h1)
  exact ⟨M', e, fun o i ho => (a o i (fun z => ho ⟨z.1, by omega⟩)).trans (eo o i ho)⟩
/-- what stays at the class's aim -/
def AGa (M M' : pM) : Prop := ∀ o i, o ≠ 3 → o ≠ 58 → ¬ (o = 1 ∧ i = 1) → ¬ (o = 0 ∧ i = 14) → M' o i = M o i
theorem x_am16 (hD : 3 ≤ D) (hL : L ≤ 10) (x2 : Int) (h2 : x2 = -1) : ∀ (m k : Nat) (M : pM), k + m = L → M 1 1 = (L : Int) → (∀ i, i < L → M 2 i = tx i) → (∀ i, i < L → -128 ≤ tx i ∧ tx i ≤ 127) → (∀ t, t < k → M 58 t = tx t - 48) → ∃ M', xE D 38 16 [.inr 2, .inl (L : Int), .inl x2, .inl (k : Int)] [] M = rI (L : Int) M' ∧ M' 1 1 = 0 ∧ M' 0 14 = (L : Int) ∧ (∀ t, t < L → M' 58 t = tx t - 48) ∧ AGa M M' := by
  intro m
  induction m with
  | zero =>
    intro k M hk h1 ht hx h58
    have e : k = L := by omega
    rw [L_X_aim_16, if_pos (by rw [le32_iff] <;> omega), x_cutL (L := L) (by omega) (by rw [pset_ne (by decide)]; exact h1) (by omega), pbI_rI, if_neg (fun z => z (by rw [h2]))]
    refine ⟨_, rfl, pset_eq, by rw [pset_ne (by decide), pset_eq], fun t ht2 => by rw [pset_ne (by decide), pset_ne (by decide)]; exact h58 t (by omega), fun o i a b c e => ?_⟩
    unfold pset
    rw [if_neg (fun z => c z), if_neg (fun z => e z)]
  | succ m ih =>
    intro k M hk h1 ht hx h58
    have hv := hx k (by omega)
    rw [L_X_aim_16, if_neg (by rw [le32_iff] <;> omega), if_neg (by rw [le32_iff] <;> omega), x_at (by omega) h1 (by omega) (show k < L by omega), pbI_rI, if_pos (by omega), Int.toNat_natCast, ht k (by omega)]
    obtain ⟨M', e, r1, r2, r3, r4⟩ := ih (k + 1) (pset M 58 k (tx k - 48)) (by omega) (by rw [pset_ne (by decide)]; exact h1) (fun i hi => by rw [pset_ne (by decide)]; exact ht i hi) hx (fun t ht2 => by
      by_cases q : t = k
      · rw [q, pset_eq]
      · rw [pset_ne2 q]; exact h58 t (by omega))
    exact ⟨M', e, r1, r2, r3, fun o i a b c e => by rw [r4 o i a b c e, pset_ne b]⟩
/-- the class's aim -/
theorem x_aim (hd : 6 ≤ d) (hR : R ≤ 6) (hT : T ≤ 10) (hL : L ≤ 80) (h9 : M 7 9 = (R : Int)) (h10 : M 7 10 = (T : Int)) (h1 : M 1 1 = (L : Int)) (ht : ∀ i, i < 80 → M 2 i = ux (tx i)) (hx : ∀ i, i < 80 → -128 ≤ tx i ∧ tx i ≤ 127) : ∃ M', xF d 38 [.inr 2] M = rI (amA tx L T R) M' ∧ M' 1 1 = 0 ∧ amX tx L (amA tx L T R) M M' ∧ AGa M M' := by
  obtain ⟨D, rfl, hD⟩ := dsucc hd
  rw [T_X_aim, h1]
  by_cases q : L = 0
  · have eA : amA tx L T R = 0 := if_pos q
    rw [if_neg (fun y => y (by rw [q]; rfl)), if_neg (fun y => y rfl), eA, q]
    rw [q] at h1
    obtain ⟨M', e, r1, r2, r3, r4⟩ := x_am16 (tx := tx) (L := 0) (D := D) (by omega) (by omega) (-1) rfl 0 0 M rfl h1 (fun i hi => absurd hi (Nat.not_lt_zero _)) (fun i hi => absurd hi (Nat.not_lt_zero _)) (fun i hi => absurd hi (Nat.not_lt_zero _))
    refine ⟨M', e, r1, ?_, r4⟩
    unfold amX
    rw [if_neg (by decide), if_pos rfl]; exact r2
  · obtain ⟨M1, e1, a1⟩ := x_aimFault (tx := tx) (d := D) (by omega) hR hT hL h9 h10 h1 ht hx
    have uA : amA tx L T R = match amS tx (min L T) R T with
      | .inl p => -1 - (p : Int)
      | .inr _ => if L ≤ T then (L : Int) else -1 - (T : Int) := if_neg q
    have k1 : M1 1 1 = (L : Int) := by rw [a1 1 1 (by omega)]; exact h1
    have k0 : M1 0 14 = M 0 14 := a1 0 14 (by omega)
    have bad : ∀ z : Nat, z ≤ 10 → amF tx (min L T) R L T = (z : Int) → amA tx L T R = -1 - (z : Int) → ∃ M', (if ¬ eq32 (amF tx (min L T) R L T) (-1) then pbI (xF D 153 [.inr 3, .inl 0] M1) fun v4 M3 => if ¬ eq32 (amF tx (min L T) R L T) (-1) then rI (-1 - amF tx (min L T) R L T) M3 else rI (L : Int) M3 else xE D 38 16 [.inr 2, .inl (L : Int), .inl (amF tx (min L T) R L T), .inl 0] [] M1) = rI (amA tx L T R) M' ∧ M' 1 1 = 0 ∧ amX tx L (amA tx L T R) M M' ∧ AGa M M' := by
      intro z hz ez eA
      rw [ez, eA, if_pos (by rw [eq32_iff] <;> omega), x_cutL (by omega) k1 hL, pbI_rI, if_pos (by rw [eq32_iff] <;> omega)]
      refine ⟨_, rfl, pset_eq, ?_, fun o i a b c e => ?_⟩
      · unfold amX
        rw [if_neg (by omega), if_neg q]
        exact ⟨by rw [pset_ne (by decide)]; exact k0, fun t => by rw [pset_ne (by decide)]; exact a1 58 t (by omega)⟩
      · unfold pset
        rw [if_neg (fun z => c z)]
        exact a1 o i (fun z => a z.1)
    rw [if_pos (by rw [eq32_iff] <;> omega), e1, pbI_rI]
    cases z : amS tx (min L T) R T with
    | inl p =>
      have := amS_inl hR T p z
      exact bad p (by omega) (by unfold amF; rw [z]) (by rw [uA, z])
    | inr a =>
      have l1 := amS_le hR z
      have l2 := (amS_inr hR T a z).2
      by_cases q2 : L ≤ T
      · have e2 : L = T := by omega
        have ez : amF tx (min L T) R L T = -1 := by
          unfold amF; rw [z]; exact if_pos (by omega)
        have eA : amA tx L T R = (L : Int) := by rw [uA, z]; exact if_pos q2
        have dg : ∀ i, i < L → 48 ≤ tx i := fun i hi => by
          have := (l2 i (by omega)).1
          unfold hc at this
          rw [if_pos (by omega)] at this; exact this
        rw [ez, eA, if_neg (fun y => y rfl)]
        obtain ⟨M', e, r1, r2, r3, r4⟩ := x_am16 (tx := tx) (L := L) (D := D) (by omega) (by omega) (-1) rfl L 0 M1 (by omega) k1 (fun i hi => by
          rw [a1 2 i (by omega), ht i (by omega)]
          unfold ux
          rw [if_neg (by have := dg i hi; omega)]) (fun i hi => hx i (by omega)) (fun i hi => absurd hi (Nat.not_lt_zero _))
        refine ⟨M', e, r1, ?_, fun o i a b c e => (r4 o i a b c e).trans (a1 o i (fun z => a z.1))⟩
        unfold amX
        rw [if_pos (by omega)]; exact ⟨r2, r3⟩
      · exact bad T hT (by unfold amF; rw [z]; show (if _ then _ else _) = _; rw [if_neg (by omega)]; omega) (by rw [uA, z]; exact if_neg q2)
/-! the reference's aim -/
def AGb (M M' : pM) : Prop := ∀ o i, o ≠ 81 → ¬ (o = 60 ∧ (i = 14 ∨ i = 17 ∨ i = 43 ∨ i = 44)) → M' o i = M o i
theorem m_am54 (hL : L ≤ 10) : ∀ (m k : Nat) (M : pM), k + m = L → (∀ i, i < L → M 68 i = tx i) → (∀ i, i < L → -128 ≤ tx i ∧ tx i ≤ 127) → (∀ t, t < k → M 81 t = tx t - 48) → ∃ M', xE D 255 54 [.inr 62, .inl (L : Int), .inl (k : Int)] [] M = rI (L : Int) M' ∧ M' 60 43 = (L : Int) ∧ M' 60 44 = 1 ∧ (∀ t, t < L → M' 81 t = tx t - 48) ∧ M' 60 14 = M 60 14 ∧ AGb M M' := by
  intro m
  induction m with
  | zero =>
    intro k M hk ht hx h81
    have e : k = L := by omega
    rw [L_M_aim_54, if_pos (by rw [le32_iff] <;> omega)]
    refine ⟨_, rfl, by rw [pset_ne2 (by decide), pset_eq], pset_eq, fun t h => by rw [pset_ne (by decide), pset_ne (by decide)]; exact h81 t (by omega), by rw [pset_ne2 (by decide), pset_ne2 (by decide)], fun o i a b => ?_⟩
    unfold pset
    rw [if_neg (fun z => b ⟨z.1, by omega⟩), if_neg (fun z => b ⟨z.1, by omega⟩)]
  | succ m ih =>
    intro k M hk ht hx h81
    have hv := hx k (by omega)
    rw [L_M_aim_54, if_neg (by rw [le32_iff] <;> omega), if_pos (by omega), if_pos (by omega), Int.toNat_natCast, ht k (by omega)]
    obtain ⟨M', e, r1, r2, r3, r4, r5⟩ := ih (k + 1) (pset M 81 k (tx k - 48)) (by omega) (fun i hi => by rw [pset_ne (by decide)]; exact ht i hi) hx (fun t ht2 => by
      by_cases q : t = k
      · rw [q, pset_eq]
      · rw [pset_ne2 q]; exact h81 t (by omega))
    exact ⟨M', e, r1, r2, r3, by rw [r4, pset_ne (by decide)], fun o i a b => by rw [r5 o i a b, pset_ne a]⟩
theorem m_am18 (hD : 1 ≤ D) (hR : R ≤ 6) (hT : T ≤ 10) (hL : L ≤ 80) (hL0 : L ≠ 0) (h0 : M 60 0 = (R : Int)) (h3 : M 60 3 = (T : Int)) (ht : ∀ i, i < 80 → M 68 i = tx i) (hx : ∀ i, i < 80 → -128 ≤ tx i ∧ tx i ≤ 127) : ∀ (m k : Nat), k + m = L → k ≤ T → amS tx (min L T) R k = .inr k → ∃ M', xE D 255 18 [.inr 62, .inl (L : Int), .inl (k : Int)] [] M = rI (amA tx L T R) M' ∧ M' 60 14 = M 60 14 ∧ amM tx L (amA tx L T R) M M' ∧ AGb M M' := by
  have uA : amA tx L T R = match amS tx (min L T) R T with
      | .inl p => -1 - (p : Int)
      | .inr _ => if L ≤ T then (L : Int) else -1 - (T : Int) := if_neg hL0
  have bad : ∀ k : Nat, amA tx L T R = -1 - (k : Int) → ∃ M', (rI (-1 - (k : Int)) M : Option pR) = rI (amA tx L T R) M' ∧ M' 60 14 = M 60 14 ∧ amM tx L (amA tx L T R) M M' ∧ AGb M M' := by
    intro k e
    refine ⟨M, by rw [e], rfl, ?_, fun _ _ _ _ => rfl⟩
    unfold amM
    rw [if_neg (by omega), if_neg hL0]
    exact ⟨rfl, rfl, fun _ => rfl⟩
  have stop : ∀ k : Nat, k < T → amS tx (min L T) R (k + 1) = .inl k → amA tx L T R = -1 - (k : Int) := by
    intro k hk e
    have := amS_stay e (T - (k + 1))
    rw [show k + 1 + (T - (k + 1)) = T by omega] at this
    rw [uA, this]
  intro m
  induction m with
  | zero =>
    intro k hk hkT hs
    have e : k = L := by omega
    rw [L_M_aim_18, if_pos (by rw [le32_iff] <;> omega), h3]
    by_cases q : T ≤ L
    · have e2 : T = k := by omega
      have hs2 : amS tx (min L T) R T = .inr T := by
        have z := hs
        rw [← e2] at z
        exact z
      have eA : amA tx L T R = (L : Int) := by rw [uA, hs2]; exact if_pos (by omega)
      have l2 := (amS_inr hR k k hs).2
      have dg : ∀ i, i < L → 48 ≤ tx i := fun i hi => by
        have := (l2 i (by omega)).1
        unfold hc at this
        rw [if_pos (by omega)] at this; exact this
      rw [if_pos (by rw [le32_iff] <;> omega)]
      obtain ⟨M', e3, r1, r2, r3, r4, r5⟩ := m_am54 (tx := tx) (D := D) (L := L) (by omega) L 0 M (by omega) (fun i hi => ht i (by omega)) (fun i hi => hx i (by omega)) (fun t ht => absurd ht (Nat.not_lt_zero _))
      refine ⟨M', e3.trans (by rw [eA]), r4, ?_, r5⟩
      unfold amM
      rw [if_pos (by omega)]; exact ⟨r1, r2, r3⟩
    · rw [if_neg (by rw [le32_iff] <;> omega)]
      have := stop k (by omega) (amS_no hs (fun z => by
        unfold hc at z
        rw [if_neg (by omega)] at z
        omega))
      rw [e] at this
      exact bad L this
  | succ m ih =>
    intro k hk hkT hs
    rw [L_M_aim_18, if_neg (by rw [le32_iff] <;> omega), h3]
    by_cases q : k = T
    · rw [if_pos (by rw [q])]
      have hs2 : amS tx (min L T) R T = .inr T := by
        have z := hs
        rw [q] at z
        exact z
      exact bad k (by rw [uA, hs2]; show (if _ then _ else _) = _; rw [if_neg (by omega), q])
    · have hv := hx k (by omega)
      have eh : hc tx (min L T) k = tx k := if_pos (by omega)
      rw [if_neg (by rw [eq32_iff] <;> omega), if_pos (by omega), Int.toNat_natCast, ht k (by omega), h0, m_in hD, pbI_rI]
      by_cases q2 : 48 ≤ hc tx (min L T) k ∧ hc tx (min L T) k ≤ (R : Int) + 47
      · rw [if_neg (show ¬ (lt32 (tx k) 48 ∨ lt32 (48 + (R : Int) - 1) (tx k)) by
          rw [lt32_iff (by omega) (by omega) (by omega) (by omega), lt32_iff (by omega) (by omega) (by omega) (by omega)]; omega), if_pos (by decide)]
        exact ih (k + 1) (by omega) (by omega) (amS_ok hs q2 hR)
      · rw [if_pos (show (lt32 (tx k) 48 ∨ lt32 (48 + (R : Int) - 1) (tx k)) by
          rw [lt32_iff (by omega) (by omega) (by omega) (by omega), lt32_iff (by omega) (by omega) (by omega) (by omega)]; omega), if_neg (fun z => z rfl)]
        exact bad k (stop k (by omega) (amS_no hs q2))
theorem m_aim (hd : 2 ≤ d) (hR : R ≤ 6) (hT : T ≤ 10) (hL : L ≤ 80) (h0 : M 60 0 = (R : Int)) (h3 : M 60 3 = (T : Int)) (h14 : M 60 14 = (L : Int)) (ht : ∀ i, i < 80 → M 68 i = tx i) (hx : ∀ i, i < 80 → -128 ≤ tx i ∧ tx i ≤ 127) : ∃ M', xF d 255 [.inr 62] M = rI (amA tx L T R) M' ∧ M' 60 14 = 0 ∧ amM tx L (amA tx L T R) M M' ∧ AGb M M' := by
  obtain ⟨D, rfl, hD⟩ := dsucc hd
  rw [T_M_aim, pset_ne2 (show 14 ≠ 17 by decide), h14]
  by_cases q : L = 0
  · have eA : amA tx L T R = 0 := if_pos q
    rw [if_neg (fun y => y (by rw [q]; rfl)), eA]
    refine ⟨_, rfl, by rw [pset_ne2 (by decide), pset_eq], ?_, fun o i a b => ?_⟩
    · unfold amM
      rw [if_neg (by decide), if_pos q]; exact pset_eq
    · unfold pset
      rw [if_neg (fun z => b ⟨z.1, by omega⟩), if_neg (fun z => b ⟨z.1, by omega⟩), if_neg (fun z => b ⟨z.1, by omega⟩)]
  · rw [if_pos (by rw [eq32_iff] <;> omega)]
    obtain ⟨M', e, r1, r2, r3⟩ := m_am18 (tx := tx) (M := pset (pset M 60 17 0) 60 14 0) (D := D) (by omega) hR hT hL q (by rw [pset_ne2 (by decide), pset_ne2 (by decide)]; exact h0) (by rw [pset_ne2 (by decide), pset_ne2 (by decide)]; exact h3) (fun i hi => by rw [pset_ne (by decide), pset_ne (by decide)]; exact ht i hi) hx L 0 (by omega) (by omega) rfl
    refine ⟨M', e, by rw [r1, pset_eq], ?_, fun o i a b => ?_⟩
    · unfold amM at r2 ⊢
      by_cases z : 0 < amA tx L T R
      · rw [if_pos z] at r2 ⊢; exact r2
      · rw [if_neg z] at r2 ⊢
        rw [if_neg q] at r2 ⊢
        exact ⟨by rw [r2.1, pset_ne2 (by decide), pset_ne2 (by decide)], by rw [r2.2.1, pset_ne2 (by decide), pset_ne2 (by decide)], fun t => by rw [r2.2.2 t, pset_ne (by decide), pset_ne (by decide)]⟩
    · rw [r3 o i a b]
      unfold pset
      rw [if_neg (fun z => b ⟨z.1, by omega⟩), if_neg (fun z => b ⟨z.1, by omega⟩)]
end AMX
/-! sheet, on both sides -/
def shC (k v : Int) : Int := jmax 1 (jmin 9 (if k = 0 then jb v else if k = 1 then js v else v))
/-- the weight of thing t by a sheet -/
def shW (k n f s : Int) (t : Nat) : Int := if k = 3 ∨ n ≤ (t : Int) then 1 else shC k (f + (t : Int) * s)
def shA (k n f s : Int) (T : Nat) : Int := if k < 0 ∨ 3 < k ∨ 10 < n then -1 else if k = 3 then -3 else if n < 0 then -2 else sumTo (shW k n f s) T
def shZ (k n f s : Int) (T : Nat) (p : Nat → Int) (i : Nat) : Int := if ((0 ≤ k ∧ k ≤ 3 ∧ n ≤ 10) ∧ (k = 3 ∨ 0 ≤ n)) ∧ i < T then shW k n f s i else p i
section SH
variable {D d T : Nat} {k n f s : Int} {M : pM}
theorem x_sh4 (hT : T ≤ 10) (hk : 0 ≤ k ∧ k ≤ 2) (hn : -2147483648 ≤ n ∧ n ≤ 10) : ∀ (m t : Nat) (y7 y8 : pV) (M : pM), t + m = T → M 7 10 = (T : Int) → (∀ i, i < t → M 12 i = shW k n f s i) → ∃ M', xE D 76 4 [.inr 9, .inl k, .inl n, .inl f, .inl s, .inl (sumTo (shW k n f s) t), .inl (t : Int), y7, y8] [] M = rI (sumTo (shW k n f s) T) M' ∧ (∀ i, i < T → M' 12 i = shW k n f s i) ∧ (∀ i, T ≤ i → M' 12 i = M 12 i) ∧ ∀ o i, o ≠ 12 → M' o i = M o i := by
  intro m
  induction m with
  | zero =>
    intro t y7 y8 M ht h10 hi
    have e : t = T := by omega
    rw [L_House_weigh_4, h10, if_pos (by rw [le32_iff] <;> omega), e]
    exact ⟨M, rfl, fun i h => hi i (by omega), fun _ _ => rfl, fun _ _ _ => rfl⟩
  | succ m ih =>
    intro t y7 y8 M ht h10 hi
    have e1 : ((t : Int) + 1) = ((t + 1 : Nat) : Int) := by omega
    have t1 : (0 : Int) ≤ (t : Int) ∧ (t : Int) < 10 := by omega
    have go : ∀ (v : Int) (y7 y8 : pV), v = shW k n f s t → ∃ M', xE D 76 4 [.inr 9, .inl k, .inl n, .inl f, .inl s, .inl (sumTo (shW k n f s) t + v), .inl ((t + 1 : Nat) : Int), y7, y8] [] (pset M 12 t v) = rI (sumTo (shW k n f s) T) M' ∧ (∀ i, i < T → M' 12 i = shW k n f s i) ∧ (∀ i, T ≤ i → M' 12 i = M 12 i) ∧ ∀ o i, o ≠ 12 → M' o i = M o i := by
      intro v y7 y8 hv
      obtain ⟨M', e, r1, r2, r3⟩ := ih (t + 1) y7 y8 (pset M 12 t v) (by omega) (by rw [pset_ne (by decide)]; exact h10) (fun i h => by
        by_cases q : i = t
        · rw [q, pset_eq, hv]
        · rw [pset_ne2 q]; exact hi i (by omega))
      have es : sumTo (shW k n f s) t + v = sumTo (shW k n f s) (t + 1) := by rw [hv]; rfl
      rw [es]
      exact ⟨M', e, r1, fun i h => by rw [r2 i h, pset_ne2 (by omega)], fun o i h => by rw [r3 o i h, pset_ne h]⟩
    rw [L_House_weigh_4, h10, if_neg (by rw [le32_iff] <;> omega)]
    simp only [if_pos t1, Int.toNat_natCast, e1, pset_eq]
    by_cases qn : n ≤ (t : Int)
    · have hw : shW k n f s t = 1 := if_pos (Or.inr qn)
      rw [if_pos (by rw [le32_iff] <;> omega)]
      by_cases q0 : k = 0
      · rw [if_neg (fun z => z (by rw [q0]))]
        exact go _ _ _ (by rw [hw]; decide +kernel)
      · rw [if_pos (by rw [eq32_iff] <;> omega)]
        by_cases q1 : k = 1
        · rw [if_neg (fun z => z (by rw [q1]))]
          exact go _ _ _ (by rw [hw]; decide +kernel)
        · rw [if_pos (by rw [eq32_iff] <;> omega)]
          exact go _ _ _ (by rw [hw]; decide +kernel)
    · have hw : shW k n f s t = shC k (f + (t : Int) * s) := if_neg (by omega)
      rw [if_neg (by rw [le32_iff] <;> omega)]
      by_cases q0 : k = 0
      · rw [if_neg (fun z => z (by rw [q0]))]
        exact go _ _ _ (by rw [hw]; unfold shC; rw [if_pos q0])
      · rw [if_pos (by rw [eq32_iff] <;> omega)]
        by_cases q1 : k = 1
        · rw [if_neg (fun z => z (by rw [q1]))]
          exact go _ _ _ (by rw [hw]; unfold shC; rw [if_neg q0, if_pos q1])
        · rw [if_pos (by rw [eq32_iff] <;> omega)]
          exact go _ _ _ (by rw [hw]; unfold shC; rw [if_neg q0, if_neg q1])
theorem x_weigh (hd : 1 ≤ d) (hT : T ≤ 10) (hk : 0 ≤ k ∧ k ≤ 2) (hn : -2147483648 ≤ n ∧ n ≤ 10) (h10 : M 7 10 = (T : Int)) : ∃ M', xF d 76 [.inr 9, .inl k, .inl n, .inl f, .inl s] M = rI (sumTo (shW k n f s) T) M' ∧ (∀ i, i < T → M' 12 i = shW k n f s i) ∧ (∀ i, T ≤ i → M' 12 i = M 12 i) ∧ ∀ o i, o ≠ 12 → M' o i = M o i := by
  obtain ⟨D, rfl, -⟩ := dsucc hd
  rw [T_House_weigh]
  exact x_sh4 hT hk hn T 0 _ _ M (by omega) h10 (fun i h => absurd h (Nat.not_lt_zero _))
theorem x_sheet (hd : 2 ≤ d) (hT : T ≤ 10) (hk : -2147483648 ≤ k ∧ k ≤ 2147483647) (hn : -2147483648 ≤ n ∧ n ≤ 2147483647) (h10 : M 7 10 = (T : Int)) : ∃ M', xF d 10 [.inr 2, .inl k, .inl n, .inl f, .inl s] M = rI (shA k n f s T) M' ∧ (∀ i, M' 12 i = shZ k n f s T (M 12) i) ∧ ∀ o i, o ≠ 12 → M' o i = M o i := by
  obtain ⟨D, rfl, hD⟩ := dsucc hd
  have no : ∀ a : Int, shA k n f s T = a → ¬ ((0 ≤ k ∧ k ≤ 3 ∧ n ≤ 10) ∧ (k = 3 ∨ 0 ≤ n)) → ∃ M', (rI a M : Option pR) = rI (shA k n f s T) M' ∧ (∀ i, M' 12 i = shZ k n f s T (M 12) i) ∧ ∀ o i, o ≠ 12 → M' o i = M o i := fun a ha h => ⟨M, by rw [ha], fun i => (if_neg (fun z => h z.1)).symm, fun _ _ _ => rfl⟩
  have z3 : ∀ a b : Int, ∀ M' : pM, shA k n f s T = a → ((0 ≤ k ∧ k ≤ 3 ∧ n ≤ 10) ∧ (k = 3 ∨ 0 ≤ n)) → (∀ i, i < T → M' 12 i = shW k n f s i) → (∀ i, T ≤ i → M' 12 i = M 12 i) → (∀ o i, o ≠ 12 → M' o i = M o i) → ∃ M'', (rI a M' : Option pR) = rI (shA k n f s T) M'' ∧ (∀ i, M'' 12 i = shZ k n f s T (M 12) i) ∧ ∀ o i, o ≠ 12 → M'' o i = M o i := fun a b M' ha h r1 r2 r3 => ⟨M', by rw [ha], fun i => by
    unfold shZ
    by_cases q : i < T
    · rw [if_pos ⟨h, q⟩]; exact r1 i q
    · rw [if_neg (fun z => q z.2)]; exact r2 i (by omega), r3⟩
  rw [T_X_sheet]
  by_cases a1 : k < 0
  · rw [if_pos (by rw [lt32_iff] <;> omega)]
    exact no _ (if_pos (Or.inl a1)) (by omega)
  · rw [if_neg (by rw [lt32_iff] <;> omega)]
    by_cases a2 : 3 < k
    · rw [if_pos (by rw [lt32_iff] <;> omega)]
      exact no _ (if_pos (Or.inr (Or.inl a2))) (by omega)
    · rw [if_neg (by rw [lt32_iff] <;> omega)]
      by_cases a3 : 10 < n
      · rw [if_neg (by rw [le32_iff] <;> omega)]
        exact no _ (if_pos (Or.inr (Or.inr a3))) (by omega)
      · rw [if_pos (by rw [le32_iff] <;> omega)]
        have u : shA k n f s T = if k = 3 then -3 else if n < 0 then -2 else sumTo (shW k n f s) T := if_neg (by omega)
        by_cases a4 : k = 3
        · rw [if_neg (fun z => z (by rw [a4]))]
          obtain ⟨M', e, r1, r2, r3⟩ := x_weigh (d := D) (by omega) hT (k := 2) (n := 0) (f := 0) (s := 0) (by decide) (by decide) h10
          rw [e, pbI_rI]
          refine z3 _ 0 M' (by rw [u, if_pos a4]) (by omega) (fun i hi => ?_) r2 r3
          rw [r1 i hi]
          unfold shW
          rw [if_pos (Or.inr (by omega)), if_pos (Or.inl a4)]
        · rw [if_pos (by rw [eq32_iff] <;> omega)]
          by_cases a5 : n < 0
          · rw [if_neg (by rw [le32_iff] <;> omega)]
            exact no _ (by rw [u, if_neg a4, if_pos a5]) (by omega)
          · rw [if_pos (by rw [le32_iff] <;> omega)]
            obtain ⟨M', e, r1, r2, r3⟩ := x_weigh (d := D) (by omega) hT (k := k) (n := n) (f := f) (s := s) (by omega) (by omega) h10
            rw [e, pbI_rI]
            exact z3 _ 0 M' (by rw [u, if_neg a4, if_neg a5]) (by omega) r1 r2 r3
theorem m_sh26F (hT : T ≤ 10) (hk : 0 ≤ k ∧ k ≤ 3) (hn : -2147483648 ≤ n ∧ n ≤ 10) : ∀ (m t : Nat) (y8 : pV) (M : pM), t + m = T → M 60 3 = (T : Int) → (∀ i, i < t → M 65 i = shW k n f s i) → ∃ M', xE D 206 26 [.inr 62, .inl k, .inl n, .inl f, .inl s, .inl (sumTo (shW k n f s) t), .inl (f + (t : Int) * s), .inl (t : Int), y8] [] M = rI (if k = 3 then -3 else sumTo (shW k n f s) T) M' ∧ (∀ i, i < T → M' 65 i = shW k n f s i) ∧ (∀ i, T ≤ i → M' 65 i = M 65 i) ∧ ∀ o i, o ≠ 65 → M' o i = M o i := by
  intro m
  induction m with
  | zero =>
    intro t y8 M ht h3 hi
    have e : t = T := by omega
    rw [L_M_sheet_26, h3, if_pos (by rw [le32_iff] <;> omega), e]
    by_cases q : k = 3
    · rw [if_neg (fun z => z (by rw [q])), if_pos q]
      exact ⟨M, rfl, fun i h => hi i (by omega), fun _ _ => rfl, fun _ _ _ => rfl⟩
    · rw [if_pos (by rw [eq32_iff] <;> omega), if_neg q]
      exact ⟨M, rfl, fun i h => hi i (by omega), fun _ _ => rfl, fun _ _ _ => rfl⟩
  | succ m ih =>
    intro t y8 M ht h3 hi
    have e1 : ((t : Int) + 1) = ((t + 1 : Nat) : Int) := by omega
    have e2 : f + (t : Int) * s + s = f + ((t + 1 : Nat) : Int) * s := by
      rw [← e1, Int.add_mul]; omega
    have t1 : (0 : Int) ≤ (t : Int) ∧ (t : Int) < 10 := by omega
    have go : ∀ (v : Int) (y8 : pV), v = shW k n f s t → ∃ M', xE D 206 26 [.inr 62, .inl k, .inl n, .inl f, .inl s, .inl (sumTo (shW k n f s) t + v), .inl (f + ((t + 1 : Nat) : Int) * s), .inl ((t + 1 : Nat) : Int), y8] [] (pset M 65 t v) = rI (if k = 3 then -3 else sumTo (shW k n f s) T) M' ∧ (∀ i, i < T → M' 65 i = shW k n f s i) ∧ (∀ i, T ≤ i → M' 65 i = M 65 i) ∧ ∀ o i, o ≠ 65 → M' o i = M o i := by
      intro v y8 hv
      obtain ⟨M', e, r1, r2, r3⟩ := ih (t + 1) y8 (pset M 65 t v) (by omega) (by rw [pset_ne (by decide)]; exact h3) (fun i h => by
        by_cases q : i = t
        · rw [q, pset_eq, hv]
        · rw [pset_ne2 q]; exact hi i (by omega))
      have es : sumTo (shW k n f s) t + v = sumTo (shW k n f s) (t + 1) := by rw [hv]; rfl
      rw [es]
      exact ⟨M', e, r1, fun i h => by rw [r2 i h, pset_ne2 (by omega)], fun o i h => by rw [r3 o i h, pset_ne h]⟩
    rw [L_M_sheet_26, h3, if_neg (by rw [le32_iff] <;> omega)]
    simp only [if_pos t1, Int.toNat_natCast, e1, e2, pset_eq]
    by_cases q3 : k = 3
    · have hw : shW k n f s t = 1 := if_pos (Or.inl q3)
      rw [if_pos (by rw [eq32_iff] <;> omega), if_pos (by rw [eq32_iff] <;> omega), if_pos (show eq32 k 3 by rw [q3])]
      exact go _ _ hw.symm
    · have n3 : ¬ eq32 k 3 := by rw [eq32_iff] <;> omega
      simp only [if_neg n3]
      by_cases qn : n ≤ (t : Int)
      · have hw : shW k n f s t = 1 := if_pos (Or.inr qn)
        have nl : ¬ lt32 (t : Int) n := by rw [lt32_iff] <;> omega
        simp only [if_neg nl]
        by_cases q0 : k = 0
        · rw [if_neg (fun z => z (by rw [q0]))]
          exact go _ _ hw.symm
        · rw [if_pos (by rw [eq32_iff] <;> omega)]
          by_cases q1 : k = 1
          · rw [if_neg (fun z => z (by rw [q1]))]
            exact go _ _ hw.symm
          · rw [if_pos (by rw [eq32_iff] <;> omega)]
            exact go _ _ hw.symm
      · have hw : shW k n f s t = shC k (f + (t : Int) * s) := if_neg (by omega)
        have nl : lt32 (t : Int) n := by rw [lt32_iff] <;> omega
        simp only [if_pos nl]
        by_cases q0 : k = 0
        · rw [if_neg (fun z => z (by rw [q0]))]
          exact go _ _ (by rw [hw]; unfold shC; rw [if_pos q0])
        · rw [if_pos (by rw [eq32_iff] <;> omega)]
          by_cases q1 : k = 1
          · rw [if_neg (fun z => z (by rw [q1]))]
            exact go _ _ (by rw [hw]; unfold shC; rw [if_neg q0, if_pos q1])
          · rw [if_pos (by rw [eq32_iff] <;> omega)]
            exact go _ _ (by rw [hw]; unfold shC; rw [if_neg q0, if_neg q1])
theorem m_sheet (hd : 2 ≤ d) (hT : T ≤ 10) (hk : -2147483648 ≤ k ∧ k ≤ 2147483647) (hn : -2147483648 ≤ n ∧ n ≤ 2147483647) (h3 : M 60 3 = (T : Int)) : ∃ M', xF d 206 [.inr 62, .inl k, .inl n, .inl f, .inl s] M = rI (shA k n f s T) M' ∧ (∀ i, M' 65 i = shZ k n f s T (M 65) i) ∧ ∀ o i, o ≠ 65 → ¬ (o = 60 ∧ i = 17) → M' o i = M o i := by
  obtain ⟨D, rfl, hD⟩ := dsucc hd
  have no : ∀ a : Int, shA k n f s T = a → ¬ ((0 ≤ k ∧ k ≤ 3 ∧ n ≤ 10) ∧ (k = 3 ∨ 0 ≤ n)) → ∃ M', (rI a (pset M 60 17 0) : Option pR) = rI (shA k n f s T) M' ∧ (∀ i, M' 65 i = shZ k n f s T (M 65) i) ∧ ∀ o i, o ≠ 65 → ¬ (o = 60 ∧ i = 17) → M' o i = M o i := fun a ha h => ⟨_, by rw [ha], fun i => by
    unfold shZ
    rw [if_neg (fun z => h z.1), pset_ne (by decide)], fun o i _ q => by
    unfold pset
    rw [if_neg (fun z => q z)]⟩
  have go : shA k n f s T = (if k = 3 then -3 else sumTo (shW k n f s) T) → ((0 ≤ k ∧ k ≤ 3 ∧ n ≤ 10) ∧ (k = 3 ∨ 0 ≤ n)) → ∃ M', xE D 206 26 [.inr 62, .inl k, .inl n, .inl f, .inl s, .inl 0, .inl f, .inl 0, .inr 0] [] (pset M 60 17 0) = rI (shA k n f s T) M' ∧ (∀ i, M' 65 i = shZ k n f s T (M 65) i) ∧ ∀ o i, o ≠ 65 → ¬ (o = 60 ∧ i = 17) → M' o i = M o i := by
    intro u h
    obtain ⟨M', e, r1, r2, r3⟩ := m_sh26F (D := D) (k := k) (n := n) (f := f) (s := s) hT (by omega) (by omega) T 0 (.inr 0) (pset M 60 17 0) (by omega) (by rw [pset_ne2 (by decide)]; exact h3) (fun i h => absurd h (Nat.not_lt_zero _))
    have e0 : f + ((0 : Nat) : Int) * s = f := by rw [show ((0 : Nat) : Int) = 0 from rfl, Int.zero_mul, Int.add_zero]
    rw [e0] at e
    refine ⟨M', by rw [u]; exact e, fun i => ?_, fun o i q z => ?_⟩
    · unfold shZ
      by_cases q : i < T
      · rw [if_pos ⟨h, q⟩]; exact r1 i q
      · rw [if_neg (fun z => q z.2), r2 i (by omega), pset_ne (by decide)]
    · rw [r3 o i q]
      unfold pset
      rw [if_neg (fun y => z y)]
  rw [T_M_sheet, m_in (by omega), pbI_rI]
  by_cases a1 : k < 0 ∨ 3 < k
  · rw [if_pos (show lt32 k 0 ∨ lt32 3 k by rw [lt32_iff (by omega) (by omega) (by omega) (by omega), lt32_iff (by omega) (by omega) (by omega) (by omega)]; exact a1), if_pos rfl]
    exact no _ (if_pos (by omega)) (by omega)
  · rw [if_neg (show ¬ (lt32 k 0 ∨ lt32 3 k) by rw [lt32_iff (by omega) (by omega) (by omega) (by omega), lt32_iff (by omega) (by omega) (by omega) (by omega)]; exact a1), if_neg (by decide)]
    by_cases a3 : 10 < n
    · rw [if_neg (by rw [le32_iff] <;> omega)]
      exact no _ (if_pos (Or.inr (Or.inr a3))) (by omega)
    · rw [if_pos (by rw [le32_iff] <;> omega)]
      have u : shA k n f s T = if k = 3 then -3 else if n < 0 then -2 else sumTo (shW k n f s) T := if_neg (by omega)
      by_cases a4 : k = 3
      · rw [if_pos (by rw [le32_iff] <;> omega)]
        exact go (by rw [u, if_pos a4, if_pos a4]) (by omega)
      · rw [if_neg (by rw [le32_iff] <;> omega)]
        by_cases a5 : n < 0
        · rw [if_neg (by rw [le32_iff] <;> omega)]
          exact no _ (by rw [u, if_neg a4, if_pos a5]) (by omega)
        · rw [if_pos (by rw [le32_iff] <;> omega)]
          exact go (by rw [u, if_neg a4, if_neg a5, if_neg a4]) (by omega)
end SH
/-! steps: both sides count the same -/
def eg (h : pM) (w : Int) (a b : Nat) : Prop := a = b ∨ w ≤ h 2 (6 * a + b)
section STP
variable {h : pM} {w : Int}
theorem rch_bit {a b n : Nat} (hb : b < 6) : (rch h w a (n + 1)).testBit b = true ↔ ∃ c, c < 6 ∧ (rch h w a n).testBit c = true ∧ eg h w c b := by
  show (oneL (rch h w a n) (fun p => decide (w ≤ h 2 p)) 36).testBit b = true ↔ _
  rw [oneL_bit]
  constructor
  · rintro (q | ⟨p, p1, p2, p3, p4⟩)
    · exact ⟨b, hb, q, Or.inl rfl⟩
    · refine ⟨p / 6, by omega, p3, Or.inr ?_⟩
      rw [show 6 * (p / 6) + b = p by omega]
      exact of_decide_eq_true p4
  · rintro ⟨c, c1, c2, c3⟩
    rcases c3 with rfl | c3
    · exact Or.inl c2
    · exact Or.inr ⟨6 * c + b, by omega, by omega, by rw [show (6 * c + b) / 6 = c by omega]; exact c2, decide_eq_true c3⟩
theorem rch_zero {a b : Nat} : (rch h w a 0).testBit b = true ↔ a = b := by
  show (2 ^ a).testBit b = true ↔ _
  rw [Nat.testBit_two_pow]; exact decide_eq_true_iff
theorem rch_lt6 {a b n : Nat} (ha : a < 6) (hb : (rch h w a n).testBit b = true) : b < 6 := by
  rcases Nat.lt_or_ge b 6 with q | q
  · exact q
  · have h1 := rch_lt (h := h) (w := w) ha n
    have h2 : rch h w a n < 2 ^ b := Nat.lt_of_lt_of_le h1 (Nat.pow_le_pow_right (n := 2) (i := 6) (by decide) q)
    rw [Nat.testBit_lt_two_pow h2] at hb
    cases hb
theorem rch_mono {a b n : Nat} (hb : (rch h w a n).testBit b = true) : (rch h w a (n + 1)).testBit b = true := by
  show (oneL (rch h w a n) (fun p => decide (w ≤ h 2 p)) 36).testBit b = true
  rw [oneL_bit]; exact Or.inl hb
theorem eg_comm (W : WF h) {a b : Nat} (ha : a < 6) (hb : b < 6) (e : eg h w a b) : eg h w b a := by
  rcases e with rfl | e
  · exact Or.inl rfl
  · exact Or.inr (by rw [W.2.2.2.2.2.1 b a hb ha]; exact e)
theorem rch_left : ∀ (n a b : Nat), a < 6 → b < 6 → ((rch h w a (n + 1)).testBit b = true ↔ ∃ c, c < 6 ∧ eg h w a c ∧ (rch h w c n).testBit b = true)
  | 0, a, b, ha, hb => by
    rw [rch_bit hb]
    constructor
    · rintro ⟨c, c1, c2, c3⟩
      have e := rch_zero.mp c2
      exact ⟨b, hb, by rw [e]; exact c3, rch_zero.mpr rfl⟩
    · rintro ⟨c, c1, c2, c3⟩
      have e := rch_zero.mp c3
      exact ⟨a, ha, rch_zero.mpr rfl, by rw [← e]; exact c2⟩
  | n + 1, a, b, ha, hb => by
    rw [rch_bit hb]
    constructor
    · rintro ⟨c, c1, c2, c3⟩
      obtain ⟨e, e1, e2, e3⟩ := (rch_left n a c ha c1).mp c2
      exact ⟨e, e1, e2, (rch_bit hb).mpr ⟨c, c1, e3, c3⟩⟩
    · rintro ⟨e, e1, e2, e3⟩
      obtain ⟨c, c1, c2, c3⟩ := (rch_bit hb).mp e3
      exact ⟨c, c1, (rch_left n a c ha c1).mpr ⟨e, e1, e2, c2⟩, c3⟩
theorem rch_comm1 (W : WF h) : ∀ (n a b : Nat), a < 6 → b < 6 → (rch h w a n).testBit b = true → (rch h w b n).testBit a = true
  | 0, a, b, _, _, q => rch_zero.mpr (rch_zero.mp q).symm
  | n + 1, a, b, ha, hb, q => by
    obtain ⟨c, c1, c2, c3⟩ := (rch_bit hb).mp q
    exact (rch_left n b a hb ha).mpr ⟨c, c1, eg_comm W c1 hb c3, rch_comm1 W n a c ha c1 c2⟩
theorem rch_comm (W : WF h) {n a b : Nat} (ha : a < 6) (hb : b < 6) : (rch h w a n).testBit b = (rch h w b n).testBit a := Bool.eq_iff_iff.mpr ⟨rch_comm1 W n a b ha hb, rch_comm1 W n b a hb ha⟩
theorem stp_comm (W : WF h) {a b : Nat} (ha : a < 6) (hb : b < 6) : stp h w a b = stp h w b a := firstN_congr fun i _ _ => rch_comm W ha hb
theorem rch_room (W : WF h) (hw : 1 ≤ w) {a : Nat} (ha : a < hR h) : ∀ (n b : Nat), (rch h w a n).testBit b = true → b < hR h
  | 0, b, q => by rw [← rch_zero.mp q]; exact ha
  | n + 1, b, q => by
    have w1 := W.1
    have hb := rch_lt6 (by omega) q
    obtain ⟨c, c1, c2, c3⟩ := (rch_bit hb).mp q
    have hc := rch_room W hw ha n c c2
    rcases c3 with rfl | c3
    · exact hc
    · rcases Nat.lt_or_ge b (hR h) with z | z
      · exact z
      · rw [W.2.2.2.2.2.2.1 c b c1 hb (by omega)] at c3
        omega
theorem rch_stop {a n : Nat} (ha : a < 6) (hs : ∀ b, (rch h w a (n + 1)).testBit b = true → (rch h w a n).testBit b = true) : ∀ (m b : Nat), (rch h w a (n + m)).testBit b = true → (rch h w a n).testBit b = true
  | 0, b, q => q
  | m + 1, b, q => by
    have hb := rch_lt6 ha q
    obtain ⟨c, c1, c2, c3⟩ := (rch_bit (n := n + m) hb).mp q
    exact hs b ((rch_bit hb).mpr ⟨c, c1, rch_stop ha hs m c c2, c3⟩)
theorem rch_cnt (W : WF h) (hw : 1 ≤ w) {a : Nat} (ha : a < hR h) : ∀ n, (∀ k, k < n → ∃ b, (rch h w a (k + 1)).testBit b = true ∧ (rch h w a k).testBit b = false) → n + 1 ≤ cntTo (rch h w a n).testBit (hR h)
  | 0, _ => by
    have := (cntTo_lt (f := fun _ => false) (g := (rch h w a 0).testBit) (fun i hi => by cases hi) (c := a) rfl (rch_zero.mpr rfl) (hR h)).2 ha
    omega
  | n + 1, hk => by
    obtain ⟨b, b1, b2⟩ := hk n (Nat.lt_succ_self n)
    have := (cntTo_lt (f := (rch h w a n).testBit) (g := (rch h w a (n + 1)).testBit) (fun i hi => rch_mono hi) b2 b1 (hR h)).2 (rch_room W hw ha (n + 1) b b1)
    have := rch_cnt W hw ha n (fun k hk2 => hk k (by omega))
    omega
/-- who is come to in as many steps as there are rooms is come to in fewer -/
theorem rch_end (W : WF h) (hw : 1 ≤ w) {a b : Nat} (ha : a < hR h) (q : (rch h w a (hR h)).testBit b = true) : ∃ j, j < hR h ∧ (rch h w a j).testBit b = true := by
  have w1 := W.1
  apply Classical.byContradiction
  intro no
  have hk : ∀ k, k < hR h → ∃ b, (rch h w a (k + 1)).testBit b = true ∧ (rch h w a k).testBit b = false := by
    intro k hk
    apply Classical.byContradiction
    intro z
    refine no ⟨k, hk, rch_stop (n := k) (by omega) (fun c hc => ?_) (hR h - k) b (by rw [show k + (hR h - k) = hR h by omega]; exact q)⟩
    cases e : (rch h w a k).testBit c with
    | true => rfl
    | false => exact absurd ⟨c, hc, e⟩ z
  have h1 := rch_cnt W hw ha (hR h) hk
  have h2 := cntTo_le (c := (rch h w a (hR h)).testBit) (hR h)
  omega
/-- what the reference's row of steps says of a place -/
def fv (h : pM) (w : Int) (a b : Nat) : Int := if stp h w a b < 0 then 1000000 else stp h w a b
theorem fv_of (W : WF h) (hw : 1 ≤ w) {a b : Nat} (ha : a < hR h) {v : Int} (h1 : v = 1000000 ∨ ∃ e : Nat, v = (e : Int) ∧ e ≤ hR h ∧ (rch h w a e).testBit b = true) (h2 : ∀ j, j ≤ hR h → (rch h w a j).testBit b = true → v ≤ (j : Int)) : v = fv h w a b := by
  have w1 := W.1
  unfold fv stp
  rcases firstN_spec (fun n => (rch h w a n).testBit b) (hR h) 0 with ⟨e, no⟩ | ⟨j, e, j0, j1, j2, j3⟩
  · rw [e, if_pos (by decide)]
    rcases h1 with z | ⟨k, k1, k2, k3⟩
    · exact z
    · have : ∃ j, j < hR h ∧ (rch h w a j).testBit b = true := by
        rcases Nat.lt_or_ge k (hR h) with q | q
        · exact ⟨k, q, k3⟩
        · have : k = hR h := by omega
          rw [this] at k3
          exact rch_end W hw ha k3
      obtain ⟨j, j1, j2⟩ := this
      have := no j (by omega) (by omega)
      rw [j2] at this; cases this
  · rw [e, if_neg (by omega)]
    have u := h2 j (by omega) j2
    rcases h1 with z | ⟨k, k1, k2, k3⟩
    · omega
    · rcases Nat.lt_or_ge k j with q | q
      · have := j3 k (by omega) q
        rw [k3] at this; cases this
      · omega
end STP
/-! the reference's row of steps -/
def FG (h : pM) (w : Int) (a n : Nat) (M : pM) : Prop := ∀ x, x < hR h → M 74 x = 1000000 ∨ ∃ e : Nat, M 74 x = (e : Int) ∧ e ≤ n ∧ (rch h w a e).testBit x = true
def FB (h : pM) (w : Int) (a n : Nat) (M : pM) : Prop := ∀ x j, x < hR h → j ≤ n → (rch h w a j).testBit x = true → M 74 x ≤ (j : Int)
def FP (h : pM) (w : Int) (n r o : Nat) (M : pM) : Prop := ∀ r' o', (r' < r ∨ (r' = r ∧ o' < o)) → r' < hR h → o' < hR h → M 74 r' = (n : Int) → w ≤ h 2 (6 * r' + o') → M 74 o' ≤ (n : Int) + 1
section FFR
variable {D d : Nat} {w : Int} {h M : pM}
theorem fg_upd {a n r o : Nat} (W : WF h) (hn : n ≤ 6) (hr : r < hR h) (ho : o < hR h) (h1 : M 74 r = (n : Int)) (h2 : w ≤ h 2 (6 * r + o)) (g : FG h w a (n + 1) M) (b : FB h w a n M) (p : FP h w n r o M) : FG h w a (n + 1) (pset M 74 o (jmin (M 74 o) ((n : Int) + 1))) ∧ FB h w a n (pset M 74 o (jmin (M 74 o) ((n : Int) + 1))) ∧ FP h w n r (o + 1) (pset M 74 o (jmin (M 74 o) ((n : Int) + 1))) := by
  have w1 := W.1
  have ro : 0 ≤ M 74 o ∧ M 74 o ≤ 1000000 := by
    rcases g o ho with z | ⟨e, z, z2, -⟩
    · omega
    · omega
  have ej : jmin (M 74 o) ((n : Int) + 1) = min (M 74 o) ((n : Int) + 1) := by
    rw [jmin_eq (by omega) (by omega) (by omega) (by omega)] <;> omega
  rw [ej]
  have hx : ∀ x, pset M 74 o (min (M 74 o) ((n : Int) + 1)) 74 x ≤ M 74 x := fun x => by
    by_cases q : x = o
    · rw [q, pset_eq]; omega
    · rw [pset_ne2 q]; omega
  have hn2 : ∀ x, pset M 74 o (min (M 74 o) ((n : Int) + 1)) 74 x = (n : Int) → M 74 x = (n : Int) := fun x => by
    by_cases q : x = o
    · rw [q, pset_eq]; omega
    · rw [pset_ne2 q]; exact id
  refine ⟨fun x hx2 => ?_, fun x j h3 h4 h5 => Int.le_trans (hx x) (b x j h3 h4 h5), fun r' o' h3 h4 h5 h6 h7 => ?_⟩
  · by_cases q : x = o
    · rw [q, pset_eq]
      rcases g o ho with z | ⟨e, z, z2, z3⟩
      · refine Or.inr ⟨n + 1, by omega, Nat.le_refl _, ?_⟩
        rcases g r hr with y | ⟨e, y, y2, y3⟩
        · omega
        · have : e = n := by omega
          rw [this] at y3
          exact (rch_bit (by omega)).mpr ⟨r, by omega, y3, Or.inr h2⟩
      · exact Or.inr ⟨e, by omega, z2, z3⟩
    · rw [pset_ne2 q]; exact g x hx2
  · by_cases q : r' < r ∨ (r' = r ∧ o' < o)
    · exact Int.le_trans (hx o') (p r' o' q h4 h5 (hn2 r' h6) h7)
    · have : o' = o := by omega
      rw [this, pset_eq]; omega
theorem m_fx32 (hD : 1 ≤ D) (W : WF h) (hw1 : 0 ≤ w) (hw2 : w ≤ 9) {a n r : Nat} (hn : n ≤ 6) (hr : r < hR h) (x1 : Int) : ∀ m o (M : pM), o + m = hR h → (∀ p, p < 36 → M 62 p = h 2 p) → M 60 0 = (hR h : Int) → FG h w a (n + 1) M → FB h w a n M → FP h w n r o M → ∃ (y5 : pV) (M' : pM), xE D 207 32 [.inr 62, .inl x1, .inl w, .inl (n : Int), .inl (r : Int), .inl (o : Int)] [] M = xE D 207 26 [.inr 62, .inl x1, .inl w, .inl (n : Int), .inl ((r + 1 : Nat) : Int), y5] [] M' ∧ FG h w a (n + 1) M' ∧ FB h w a n M' ∧ FP h w n (r + 1) 0 M' ∧ ∀ o i, o ≠ 74 → M' o i = M o i := by
  have w1 := W.1
  intro m
  induction m with
  | zero =>
    intro o M ho hd h0 g b p
    rw [L_M_findFar_32, h0, if_pos (by rw [le32_iff] <;> omega), show ((r : Int) + 1) = ((r + 1 : Nat) : Int) by omega]
    exact ⟨_, M, rfl, g, b, fun r' o' h3 h4 h5 => p r' o' (by omega) h4 h5, fun _ _ _ => rfl⟩
  | succ m ih =>
    intro o M ho hd h0 g b p
    have e1 : ((o : Int) + 1) = ((o + 1 : Nat) : Int) := by omega
    have e2 : (6 * (r : Int) + (o : Int)).toNat = 6 * r + o := by omega
    have d0 := W.2.2.2.2.1 (6 * r + o) (by omega)
    have rr : ∀ x, x < hR h → 0 ≤ M 74 x ∧ M 74 x ≤ 1000000 := fun x hx => by
      rcases g x hx with z | ⟨e, z, z2, -⟩
      · omega
      · omega
    have f0 := rr r hr
    rw [L_M_findFar_32, h0, if_neg (by rw [le32_iff] <;> omega), if_pos (by omega), Int.toNat_natCast, Int.toNat_natCast, e1, e2, hd _ (by omega)]
    by_cases q1 : eq32 (M 74 r) (n : Int)
    · rw [if_neg (fun z => z q1), if_pos (by omega)]
      rw [eq32_iff (by omega) (by omega) (by omega) (by omega)] at q1
      by_cases q2 : lt32 (h 2 (6 * r + o)) w
      · rw [if_pos q2]
        rw [lt32_iff (by omega) (by omega) (by omega) (by omega)] at q2
        refine ih (o + 1) M (by omega) hd h0 g b (fun r' o' h3 h4 h5 h6 h7 => ?_)
        by_cases q : r' < r ∨ (r' = r ∧ o' < o)
        · exact p r' o' q h4 h5 h6 h7
        · have : o' = o ∧ r' = r := by omega
          rw [this.1, this.2] at h7
          omega
      · rw [if_neg q2, if_pos (by omega), if_pos (by omega)]
        rw [lt32_iff (by omega) (by omega) (by omega) (by omega)] at q2
        obtain ⟨g2, b2, p2⟩ := fg_upd W hn hr (show o < hR h by omega) q1 (by omega) g b p
        obtain ⟨y5, M', e, r1, r2, r3, r4⟩ := ih (o + 1) (pset M 74 o (jmin (M 74 o) ((n : Int) + 1))) (by omega) (fun p hp => by rw [pset_ne (by decide)]; exact hd p hp) (by rw [pset_ne (by decide)]; exact h0) g2 b2 p2
        exact ⟨y5, M', e, r1, r2, r3, fun o i ho => by rw [r4 o i ho, pset_ne ho]⟩
    · rw [if_pos q1]
      rw [eq32_iff (by omega) (by omega) (by omega) (by omega)] at q1
      refine ih (o + 1) M (by omega) hd h0 g b (fun r' o' h3 h4 h5 h6 h7 => ?_)
      by_cases q : r' < r ∨ (r' = r ∧ o' < o)
      · exact p r' o' q h4 h5 h6 h7
      · have : o' = o ∧ r' = r := by omega
        rw [this.2] at h6
        exact absurd h6 q1
theorem m_fx26 (hD : 1 ≤ D) (W : WF h) (hw1 : 0 ≤ w) (hw2 : w ≤ 9) {a n : Nat} (hn : n ≤ 6) (x1 : Int) : ∀ m r (y5 : pV) (M : pM), r + m = hR h → (∀ p, p < 36 → M 62 p = h 2 p) → M 60 0 = (hR h : Int) → FG h w a (n + 1) M → FB h w a n M → FP h w n r 0 M → ∃ (y4 y5' : pV) (M' : pM), xE D 207 26 [.inr 62, .inl x1, .inl w, .inl (n : Int), .inl (r : Int), y5] [] M = xE D 207 20 [.inr 62, .inl x1, .inl w, .inl ((n + 1 : Nat) : Int), y4, y5'] [] M' ∧ FG h w a (n + 1) M' ∧ FB h w a n M' ∧ FP h w n (hR h) 0 M' ∧ ∀ o i, o ≠ 74 → M' o i = M o i := by
  have w1 := W.1
  intro m
  induction m with
  | zero =>
    intro r y5 M hr hd h0 g b p
    have e : r = hR h := by omega
    rw [L_M_findFar_26, h0, if_pos (by rw [le32_iff] <;> omega), show ((n : Int) + 1) = ((n + 1 : Nat) : Int) by omega]
    rw [e] at p
    exact ⟨_, y5, M, rfl, g, b, p, fun _ _ _ => rfl⟩
  | succ m ih =>
    intro r y5 M hr hd h0 g b p
    rw [L_M_findFar_26, h0, if_neg (by rw [le32_iff] <;> omega)]
    obtain ⟨y, M1, e1, g1, b1, p1, f1⟩ := m_fx32 (D := D) (a := a) hD W hw1 hw2 hn (show r < hR h by omega) x1 (hR h) 0 M (by omega) hd h0 g b p
    rw [show (.inl 0 : pV) = .inl ((0 : Nat) : Int) from rfl, e1]
    obtain ⟨y4, y5', M', e, g2, b2, p2, f2⟩ := ih (r + 1) y M1 (by omega) (fun p hp => by rw [f1 62 p (by decide)]; exact hd p hp) (by rw [f1 60 0 (by decide)]; exact h0) g1 b1 p1
    exact ⟨y4, y5', M', e, g2, b2, p2, fun o i ho => (f2 o i ho).trans (f1 o i ho)⟩
theorem fb_succ {a n : Nat} (hn : n ≤ 6) (W : WF h) (hw : 1 ≤ w) (ha : a < hR h) (g : FG h w a (n + 1) M) (b : FB h w a n M) (p : FP h w n (hR h) 0 M) : FB h w a (n + 1) M := by
  have w1 := W.1
  intro x j hx hj hb
  rcases Nat.lt_or_ge n j with q | q
  · have : j = n + 1 := by omega
    subst this
    obtain ⟨c, c1, c2, c3⟩ := (rch_bit (by omega)).mp hb
    have hc := rch_room W hw ha n c c2
    have u := b c n hc (Nat.le_refl n) c2
    rcases c3 with rfl | c3
    · omega
    · by_cases z : M 74 c = (n : Int)
      · have := p c x (by omega) hc hx z c3
        omega
      · rcases g c hc with y | ⟨e, y, y2, y3⟩
        · omega
        · have := b x (e + 1) hx (by omega) ((rch_bit (by omega)).mpr ⟨c, c1, y3, Or.inr c3⟩)
          omega
  · exact b x j hx q hb
theorem m_fx20 (hD : 1 ≤ D) (W : WF h) (hw1 : 1 ≤ w) (hw2 : w ≤ 9) {a : Nat} (ha : a < hR h) (x1 : Int) : ∀ m n (y4 y5 : pV) (M : pM), n + m = hR h → (∀ p, p < 36 → M 62 p = h 2 p) → M 60 0 = (hR h : Int) → FG h w a n M → FB h w a n M → ∃ M', xE D 207 20 [.inr 62, .inl x1, .inl w, .inl (n : Int), y4, y5] [] M = rV M' ∧ FG h w a (hR h) M' ∧ FB h w a (hR h) M' ∧ ∀ o i, o ≠ 74 → M' o i = M o i := by
  have w1 := W.1
  intro m
  induction m with
  | zero =>
    intro n y4 y5 M hn hd h0 g b
    have e : n = hR h := by omega
    rw [L_M_findFar_20, h0, if_pos (by rw [le32_iff] <;> omega)]
    rw [e] at g b
    exact ⟨M, rfl, g, b, fun _ _ _ => rfl⟩
  | succ m ih =>
    intro n y4 y5 M hn hd h0 g b
    rw [L_M_findFar_20, h0, if_neg (by rw [le32_iff] <;> omega)]
    obtain ⟨y4', y5', M1, e1, g1, b1, p1, f1⟩ := m_fx26 (D := D) (a := a) hD W (by omega) hw2 (show n ≤ 6 by omega) x1 (hR h) 0 y5 M (by omega) hd h0 (fun x hx => by
      rcases g x hx with z | ⟨e, z1, z2, z3⟩
      · exact Or.inl z
      · exact Or.inr ⟨e, z1, by omega, z3⟩) b (fun r' o' h3 => by omega)
    rw [show (.inl 0 : pV) = .inl ((0 : Nat) : Int) from rfl, e1]
    obtain ⟨M', e, g2, b2, f2⟩ := ih (n + 1) y4' y5' M1 (by omega) (fun p hp => by rw [f1 62 p (by decide)]; exact hd p hp) (by rw [f1 60 0 (by decide)]; exact h0) g1 (fb_succ (by omega) W hw1 ha g1 b1 p1)
    exact ⟨M', e, g2, b2, fun o i ho => (f2 o i ho).trans (f1 o i ho)⟩
theorem m_fx2 (hD : 1 ≤ D) (W : WF h) (hw1 : 1 ≤ w) (hw2 : w ≤ 9) {a : Nat} (ha : a < hR h) : ∀ m i (M : pM), i + m = hR h → (∀ p, p < 36 → M 62 p = h 2 p) → M 60 0 = (hR h : Int) → (∀ j, j < i → M 74 j = if j = a then 0 else 1000000) → ∃ M', xE D 207 2 [.inr 62, .inl (a : Int), .inl w, .inl (i : Int), .inr 0, .inr 0] [] M = rV M' ∧ FG h w a (hR h) M' ∧ FB h w a (hR h) M' ∧ ∀ o i, o ≠ 74 → M' o i = M o i := by
  have w1 := W.1
  intro m
  induction m with
  | zero =>
    intro i M hi hd h0 hj
    have e : i = hR h := by omega
    rw [L_M_findFar_2, h0, if_pos (by rw [le32_iff] <;> omega), show (.inl 0 : pV) = .inl ((0 : Nat) : Int) from rfl]
    refine m_fx20 (D := D) hD W hw1 hw2 ha (a : Int) (hR h) 0 _ _ M (by omega) hd h0 (fun x hx => ?_) (fun x j hx hj2 hb => ?_)
    · rw [hj x (by omega)]
      by_cases q : x = a
      · rw [if_pos q]
        exact Or.inr ⟨0, rfl, Nat.le_refl _, rch_zero.mpr q.symm⟩
      · rw [if_neg q]; exact Or.inl rfl
    · have : j = 0 := by omega
      rw [this] at hb ⊢
      rw [hj x (by omega), if_pos (rch_zero.mp hb).symm]
      exact Int.le_refl _
  | succ m ih =>
    intro i M hi hd h0 hj
    have e1 : ((i : Int) + 1) = ((i + 1 : Nat) : Int) := by omega
    have go : ∀ v : Int, (v = if i = a then 0 else 1000000) → ∃ M', xE D 207 2 [.inr 62, .inl (a : Int), .inl w, .inl ((i + 1 : Nat) : Int), .inr 0, .inr 0] [] (pset M 74 i v) = rV M' ∧ FG h w a (hR h) M' ∧ FB h w a (hR h) M' ∧ ∀ o i, o ≠ 74 → M' o i = M o i := by
      intro v hv
      obtain ⟨M', e, g, b, f⟩ := ih (i + 1) (pset M 74 i v) (by omega) (fun p hp => by rw [pset_ne (by decide)]; exact hd p hp) (by rw [pset_ne (by decide)]; exact h0) (fun j hj2 => by
        by_cases q : j = i
        · rw [q, pset_eq]; exact hv
        · rw [pset_ne2 q]; exact hj j (by omega))
      exact ⟨M', e, g, b, fun o i ho => by rw [f o i ho, pset_ne ho]⟩
    rw [L_M_findFar_2, h0, if_neg (by rw [le32_iff] <;> omega)]
    by_cases q : i = a
    · rw [if_neg (fun z => z (by rw [q])), if_pos (by omega), Int.toNat_natCast, e1]
      exact go 0 (if_pos q).symm
    · rw [if_pos (by rw [eq32_iff] <;> omega), if_pos (by omega), Int.toNat_natCast, e1]
      exact go 1000000 (if_neg q).symm
/-- the reference's row of steps, in full -/
theorem m_far (hd : 2 ≤ d) (W : WF h) (hw1 : 1 ≤ w) (hw2 : w ≤ 9) {a : Nat} (ha : a < hR h) (hdo : ∀ p, p < 36 → M 62 p = h 2 p) (h0 : M 60 0 = (hR h : Int)) : ∃ M', xF d 207 [.inr 62, .inl (a : Int), .inl w] M = rV M' ∧ (∀ x, x < hR h → M' 74 x = fv h w a x) ∧ ∀ o i, o ≠ 74 → M' o i = M o i := by
  obtain ⟨D, rfl, hD⟩ := dsucc hd
  rw [T_M_findFar, show (.inl 0 : pV) = .inl ((0 : Nat) : Int) from rfl]
  obtain ⟨M', e, g, b, f⟩ := m_fx2 (D := D) (by omega) W hw1 hw2 ha (hR h) 0 M (by omega) hdo h0 (fun j hj => absurd hj (Nat.not_lt_zero j))
  exact ⟨M', e, fun x hx => fv_of W hw1 ha (g x hx) (fun j hj hb => b x j hx hj hb), f⟩
theorem fv_comm (W : WF h) {a b : Nat} (ha : a < hR h) (hb : b < hR h) : fv h w a b = fv h w b a := by
  have w1 := W.1
  unfold fv
  rw [stp_comm W (show a < 6 by omega) (show b < 6 by omega)]
theorem m_stepsF (hd : 3 ≤ d) (W : WF h) {t a b : Nat} (ht : t < hT h) (ha : a < hR h) (hb : b < hR h) (h64 : M 64 t = h 4 t) (hdo : ∀ p, p < 36 → M 62 p = h 2 p) (h0 : M 60 0 = (hR h : Int)) : ∃ M', xF d 208 [.inr 62, .inl (t : Int), .inl (a : Int), .inl (b : Int)] M = rI (fv h (h 4 t) a b) M' ∧ ∀ o i, o ≠ 74 → M' o i = M o i := by
  obtain ⟨D, rfl, hD⟩ := dsucc hd
  have w1 := W.1
  have w2 := W.2.1
  have hg := (W.2.2.2.2.2.2.2.1 t ht).2.1
  obtain ⟨M', e, r, f⟩ := m_far (d := D) (M := M) (by omega) W hg.1 hg.2 hb hdo h0
  rw [T_M_steps, if_pos (by omega), Int.toNat_natCast, h64, e, pbN_rV, if_pos (by omega), Int.toNat_natCast, r a ha, fv_comm W hb ha]
  exact ⟨M', rfl, f⟩
end FFR
/-! which arrangement is lawful: both sides say the same -/
section LWS
variable {h M : pM} {p : Nat → Int}
theorem inR_bit {r : Int} {t : Nat} (ht : t < hT h) : (inR h p r).testBit t = decide (p t = r) := by
  unfold inR
  rw [bitsOf_bit, decide_eq_true ht, Bool.true_and]
theorem pdF_iff {a T : Nat} : pdF p a T = true ↔ ∃ t, t < T ∧ a.testBit t = true ∧ ¬ eq32 (p t) (p (fst1 a)) := by
  induction T with
  | zero =>
    constructor
    · intro q; cases q
    · rintro ⟨t, ht, -⟩; omega
  | succ T ih =>
    show (pdF p a T || (a.testBit T && !decide (eq32 (p T) (p (fst1 a))))) = true ↔ _
    rw [Bool.or_eq_true, ih, Bool.and_eq_true]
    constructor
    · rintro (⟨t, t1, t2⟩ | ⟨t1, t2⟩)
      · exact ⟨t, by omega, t2⟩
      · refine ⟨T, Nat.lt_succ_self T, t1, fun z => ?_⟩
        rw [decide_eq_true z] at t2; cases t2
    · rintro ⟨t, t1, t2, t3⟩
      rcases Nat.lt_or_ge t T with q | q
      · exact Or.inl ⟨t, q, t2, t3⟩
      · have : t = T := by omega
        rw [this] at t2 t3
        exact Or.inr ⟨t2, by rw [decide_eq_false t3]; rfl⟩
theorem fst1_bit {a : Nat} (ha : a < 1024) (h0 : a ≠ 0) : a.testBit (fst1 a) = true := by
  unfold fst1 ntz
  rw [if_neg h0, if_neg h0]
  rcases firstN_spec a.testBit 10 0 with ⟨-, h2⟩ | ⟨j, h1, -, h3, h4, -⟩
  · refine absurd (Nat.eq_of_testBit_eq fun i => ?_) h0
    rw [Nat.zero_testBit]
    rcases Nat.lt_or_ge i 10 with y | y
    · exact h2 i (Nat.zero_le i) (by omega)
    · exact Nat.testBit_lt_two_pow (Nat.lt_of_lt_of_le ha (pow_le_of (k := 10) y))
  · rw [h1, Int.toNat_natCast]; exact h4
theorem bit_lt {a t n : Nat} (ha : a < 2 ^ n) (q : a.testBit t = true) : t < n := by
  rcases Nat.lt_or_ge t n with z | z
  · exact z
  · rw [Nat.testBit_lt_two_pow (Nat.lt_of_lt_of_le ha (pow_le_of z))] at q
    cases q
theorem pd_one (W : WF h) (hp : ∀ t, t < hT h → 0 ≤ p t ∧ p t < hR h) {a : Nat} (ha : a < 2 ^ hT h) : pdF p a (hT h) = !oneR h p a := by
  have w1 := W.1
  have w2 := W.2.1
  have a10 : a < 1024 := Nat.lt_of_lt_of_le ha (p_T W)
  have key : (pdF p a (hT h) = true) ↔ ¬ (oneR h p a = true) := by
    rw [pdF_iff]
    constructor
    · rintro ⟨t, t1, t2, t3⟩ q
      have h0 : a ≠ 0 := fun z => by
        rw [z, Nat.zero_testBit] at t2
        cases t2
      have f1 := fst1_bit a10 h0
      have f2 := bit_lt ha f1
      have pf := hp _ f2
      have pt := hp t t1
      have u := allTo_iff.mp q (p (fst1 a)).toNat (by omega)
      rw [show (((p (fst1 a)).toNat : Nat) : Int) = p (fst1 a) by omega] at u
      rw [Bool.or_eq_true, decide_eq_true_iff, decide_eq_true_iff] at u
      rcases u with u | u
      · have := congrArg (fun z => Nat.testBit z (fst1 a)) u
        simp only [Nat.testBit_and, Nat.zero_testBit, f1, Bool.and_true] at this
        rw [inR_bit f2, decide_eq_true rfl] at this
        cases this
      · have := congrArg (fun z => Nat.testBit z t) u
        simp only [Nat.testBit_and, t2, Bool.and_true] at this
        rw [inR_bit t1] at this
        exact t3 (by rw [of_decide_eq_true this])
    · intro q
      apply Classical.byContradiction
      intro no
      refine q (allTo_iff.mpr fun r hr => ?_)
      have eqf : ∀ t, t < hT h → a.testBit t = true → p t = p (fst1 a) := fun t t1 t2 => by
        have h0 : a ≠ 0 := fun z => by
          rw [z, Nat.zero_testBit] at t2
          cases t2
        have pf := hp _ (bit_lt ha (fst1_bit a10 h0))
        have pt := hp t t1
        apply Classical.byContradiction
        intro z
        exact no ⟨t, t1, t2, fun y => z ((eq32_iff (by omega) (by omega) (by omega) (by omega)).mp y)⟩
      rw [Bool.or_eq_true, decide_eq_true_iff, decide_eq_true_iff]
      by_cases z : p (fst1 a) = (r : Int)
      · refine Or.inr (Nat.eq_of_testBit_eq fun i => ?_)
        rw [Nat.testBit_and]
        cases e : a.testBit i with
        | false => rw [Bool.and_false]
        | true =>
          have hi := bit_lt ha e
          rw [inR_bit hi, eqf i hi e, decide_eq_true z]; rfl
      · refine Or.inl (Nat.eq_of_testBit_eq fun i => ?_)
        rw [Nat.testBit_and, Nat.zero_testBit]
        cases e : a.testBit i with
        | false => rw [Bool.and_false]
        | true =>
          have hi := bit_lt ha e
          rw [inR_bit hi, eqf i hi e, decide_eq_false z]; rfl
  cases e : oneR h p a with
  | true =>
    cases e2 : pdF p a (hT h) with
    | false => rfl
    | true => exact absurd e (key.mp e2)
  | false =>
    rw [key.mpr (by rw [e]; decide)]; rfl
theorem fr_sum (hp : ∀ t, t < hT h → 0 ≤ p t ∧ p t < 6) {r : Int} (hr : 0 ≤ r ∧ r < 6) (h63 : ∀ t, t < hT h → M 63 t = h 3 t) : ∀ k, k ≤ hT h → frF M p r k = M 61 r.toNat - sumTo (fun t => if (inR h p r).testBit t then h 3 t else 0) k
  | 0, _ => by
    show M 61 r.toNat = M 61 r.toNat - 0
    omega
  | k + 1, hk => by
    have ih := fr_sum hp hr h63 k (by omega)
    have hpk := hp k (by omega)
    show (if eq32 (p k) r then frF M p r k - M 63 k else frF M p r k - 0) = M 61 r.toNat - (sumTo (fun t => if (inR h p r).testBit t then h 3 t else 0) k + if (inR h p r).testBit k then h 3 k else 0)
    rw [inR_bit (show k < hT h by omega), ih, h63 k (by omega)]
    by_cases q : p k = r
    · rw [if_pos (by rw [q]), if_pos (decide_eq_true q)]; omega
    · rw [if_neg (by rw [eq32_iff] <;> omega), if_neg (by rw [decide_eq_false q]; decide)]; omega
theorem MH_fc (W : WF h) (X : MH M h) : FCx M (hS h) (hT h) (me h) := ⟨X.2.2.1, W.2.2.1, X.2.1, W.2.1, X.2.2.2.2.2.2, fun k hk => Nat.lt_of_lt_of_le (W.2.2.2.2.2.2.2.2 k hk) (p_T W)⟩
theorem ptd_same (W : WF h) (hp : ∀ t, t < hT h → 0 ≤ p t ∧ p t < hR h) : bitsOf (fun s => pdF p (me h s) (hT h)) (hS h) = ptd h p := bitsOf_congr fun s hs => pd_one W hp (W.2.2.2.2.2.2.2.2 s hs)
theorem free_same (W : WF h) (X : MH M h) (hp : ∀ t, t < hT h → 0 ≤ p t ∧ p t < hR h) {r : Nat} (hr : r < hR h) : frF M p r (hT h) = h 1 r - blk h (inR h p (r : Int)) := by
  have w1 := W.1
  rw [fr_sum (h := h) (fun t ht => by have := hp t ht; omega) (by omega) (fun t ht => (X.2.2.2.2.2.1 t ht).1) (hT h) (Nat.le_refl _), Int.toNat_natCast, X.2.2.2.1 r hr]
  rfl
theorem ovf_same (W : WF h) (X : MH M h) (hp : ∀ t, t < hT h → 0 ≤ p t ∧ p t < hR h) : bitsOf (fun r => decide (¬ le32 0 (frF M p r (hT h)))) (hR h) = ovf h p := bitsOf_congr fun r hr => by
  have b := blk_range W (inR h p (r : Int))
  have s := W.2.2.2.1 r hr
  rw [free_same W X hp hr]
  have e : (¬ le32 0 (h 1 r - blk h (inR h p (r : Int)))) ↔ h 1 r < blk h (inR h p (r : Int)) := by
    rw [le32_iff (by omega) (by omega) (by omega) (by omega)]; omega
  exact decide_eq_decide.mpr e
theorem lw_same (W : WF h) (X : MH M h) (hp : ∀ t, t < hT h → 0 ≤ p t ∧ p t < hR h) : lwB M p (hS h) (hT h) (hR h) (me h) = true ↔ lwf h p := by
  unfold lwB lwf
  rw [ptd_same W hp, ovf_same W X hp, Bool.and_eq_true, beq_iff_eq, beq_iff_eq]
end LWS
end
section
/-! what both sides hold, told without a machine: G 0 to 7 the house, 8: days, carried, strength, 9: how many undos, 10 to 12: they, 13 to 19: what is kept -/
def XP (M G : pM) : Prop := M 39 3 = G 9 0 ∧ ∀ k : Nat, (k : Int) < G 9 0 → M 40 k = G 10 k ∧ M 41 k = G 11 k ∧ M 42 k = G 12 k
def XK (M G : pM) : Prop := ∀ i, i < 2 → M (44 + 2 * i) 1 = G 13 i ∧ (G 13 i ≠ 0 → M (44 + 2 * i) 2 = G 14 i ∧ M (44 + 2 * i) 3 = G 15 i ∧ M (44 + 2 * i) 4 = G 18 i ∧ M (44 + 2 * i) 5 = G 19 i ∧ ∀ t : Nat, (t : Int) < G 15 i → M (45 + 2 * i) t = G (16 + i) t)
def XD (M G : pM) : Prop := M 0 15 = G 8 0 ∧ M 0 16 = G 8 1 ∧ M 0 17 = G 8 2
def XG (M G : pM) : Prop := XH M G ∧ XD M G ∧ XP M G ∧ XK M G
def MP (M G : pM) : Prop := M 60 33 = G 9 0 ∧ ∀ k : Nat, (k : Int) < G 9 0 → M 75 (3 * k) = G 10 k ∧ M 75 (3 * k + 1) = G 11 k ∧ M 75 (3 * k + 2) = G 12 k
def MK (M G : pM) : Prop := ∀ i, i < 2 → M 88 i = G 13 i ∧ (G 13 i ≠ 0 → M 89 i ≤ M 60 52 ∧ (M 89 i = M 60 52 ↔ G 14 i = hR G ∧ G 15 i = hT G) ∧ G 14 i ≤ hR G ∧ G 15 i ≤ hT G ∧ M 87 (12 * i + 10) = G 18 i ∧ M 87 (12 * i + 11) = G 19 i ∧ ∀ t : Nat, (t : Int) < G 15 i → M 87 (12 * i + t) = G (16 + i) t)
def MD (M G : pM) : Prop := M 60 10 = G 8 0 ∧ M 60 11 = G 8 1 ∧ M 60 12 = G 8 2
def MG (M G : pM) : Prop := MH M G ∧ MD M G ∧ MP M G ∧ MK M G
/-! where they hold it -/
def cx (o i : Nat) : Bool := (Nat.beq o 0 && (Nat.beq i 15 || Nat.beq i 16 || Nat.beq i 17)) || (Nat.beq o 7 && (Nat.beq i 9 || Nat.beq i 10 || Nat.beq i 11)) || (Nat.ble 8 o && Nat.ble o 14) || (Nat.beq o 39 && Nat.beq i 3) || (Nat.ble 40 o && Nat.ble o 42) || (Nat.ble 44 o && Nat.ble o 47)
def cxo (o : Nat) : Bool := Nat.beq o 0 || Nat.beq o 7 || (Nat.ble 8 o && Nat.ble o 14) || Nat.beq o 39 || (Nat.ble 40 o && Nat.ble o 42) || (Nat.ble 44 o && Nat.ble o 47)
def cm (o i : Nat) : Bool := (Nat.beq o 60 && (Nat.beq i 0 || Nat.beq i 3 || Nat.beq i 8 || Nat.beq i 10 || Nat.beq i 11 || Nat.beq i 12 || Nat.beq i 33 || Nat.beq i 52)) || (Nat.ble 61 o && Nat.ble o 67) || Nat.beq o 75 || (Nat.ble 87 o && Nat.ble o 89)
def cmo (o : Nat) : Bool := Nat.beq o 60 || (Nat.ble 61 o && Nat.ble o 67) || Nat.beq o 75 || (Nat.ble 87 o && Nat.ble o 89)
theorem cx_o (o i : Nat) (h : cx o i = true) : cxo o = true := by
  unfold cx at h
  unfold cxo
  simp only [Bool.or_eq_true, Bool.and_eq_true] at h ⊢
  rcases h with ((((h | h) | h) | h) | h) | h
  · exact Or.inl (Or.inl (Or.inl (Or.inl (Or.inl h.1))))
  · exact Or.inl (Or.inl (Or.inl (Or.inl (Or.inr h.1))))
  · exact Or.inl (Or.inl (Or.inl (Or.inr h)))
  · exact Or.inl (Or.inl (Or.inr h.1))
  · exact Or.inl (Or.inr h)
  · exact Or.inr h
theorem cm_o (o i : Nat) (h : cm o i = true) : cmo o = true := by
  unfold cm at h
  unfold cmo
  simp only [Bool.or_eq_true, Bool.and_eq_true] at h ⊢
  rcases h with ((h | h) | h) | h
  · exact Or.inl (Or.inl (Or.inl h.1))
  · exact Or.inl (Or.inl (Or.inr h))
  · exact Or.inl (Or.inr h)
  · exact Or.inr h
def okW (c : Nat → Nat → Bool) (co : Nat → Bool) (w : List (Nat × Nat)) : Bool := w.all fun q => bif Nat.beq q.2 999 then !(co q.1) else !(c q.1 q.2)
theorem okW_no {c : Nat → Nat → Bool} {co : Nat → Bool} {w : List (Nat × Nat)} (hc : ∀ o i, c o i = true → co o = true) (h : okW c co w = true) {o i : Nat} (q : c o i = true) : wOK w o i = false := by
  cases e : wOK w o i with
  | false => rfl
  | true =>
    obtain ⟨r, hr, h2⟩ := List.any_eq_true.mp e
    rw [Bool.and_eq_true, Bool.or_eq_true] at h2
    have k := List.all_eq_true.mp h r hr
    have e1 := Nat.eq_of_beq_eq_true h2.1
    cases z : Nat.beq r.2 999 with
    | true =>
      rw [z, cond_true, e1, hc o i q] at k
      cases k
    | false =>
      rw [z, cond_false] at k
      rcases h2.2 with y | y
      · rw [e1, Nat.eq_of_beq_eq_true y, q] at k; cases k
      · rw [z] at y; cases y
section COR
variable {M M' G h : pM}
theorem XG_ag (e : ∀ o i, cx o i = true → M' o i = M o i) (X : XG M G) : XG M' G := by
  obtain ⟨⟨x1, x2, x3, x4, x5, x6, x7⟩, ⟨d1, d2, d3⟩, ⟨p1, p2⟩, k⟩ := X
  refine ⟨⟨by rw [e 7 9 rfl]; exact x1, by rw [e 7 10 rfl]; exact x2, by rw [e 7 11 rfl]; exact x3, fun r hr => by rw [e 8 r rfl]; exact x4 r hr, fun p hp => by rw [e 9 p rfl]; exact x5 p hp, fun t ht => by rw [e 10 t rfl, e 11 t rfl, e 12 t rfl, e 13 t rfl]; exact x6 t ht, fun s hs => by rw [e 14 s rfl]; exact x7 s hs⟩, ⟨by rw [e 0 15 rfl]; exact d1, by rw [e 0 16 rfl]; exact d2, by rw [e 0 17 rfl]; exact d3⟩, ⟨by rw [e 39 3 rfl]; exact p1, fun j hj => by rw [e 40 j rfl, e 41 j rfl, e 42 j rfl]; exact p2 j hj⟩, fun i hi => ?_⟩
  have a : ∀ j, M' (44 + 2 * i) j = M (44 + 2 * i) j := fun j => by
    rcases (show i = 0 ∨ i = 1 by omega) with rfl | rfl
    · exact e 44 j rfl
    · exact e 46 j rfl
  have b : ∀ j, M' (45 + 2 * i) j = M (45 + 2 * i) j := fun j => by
    rcases (show i = 0 ∨ i = 1 by omega) with rfl | rfl
    · exact e 45 j rfl
    · exact e 47 j rfl
  simp only [a, b]
  exact k i hi
theorem MG_ag (e : ∀ o i, cm o i = true → M' o i = M o i) (X : MG M G) : MG M' G := by
  obtain ⟨⟨x1, x2, x3, x4, x5, x6, x7⟩, ⟨d1, d2, d3⟩, ⟨p1, p2⟩, k⟩ := X
  refine ⟨⟨by rw [e 60 0 rfl]; exact x1, by rw [e 60 3 rfl]; exact x2, by rw [e 60 8 rfl]; exact x3, fun r hr => by rw [e 61 r rfl]; exact x4 r hr, fun p hp => by rw [e 62 p rfl]; exact x5 p hp, fun t ht => by rw [e 63 t rfl, e 64 t rfl, e 65 t rfl, e 66 t rfl]; exact x6 t ht, fun s hs => by rw [e 67 s rfl]; exact x7 s hs⟩, ⟨by rw [e 60 10 rfl]; exact d1, by rw [e 60 11 rfl]; exact d2, by rw [e 60 12 rfl]; exact d3⟩, ⟨by rw [e 60 33 rfl]; exact p1, fun j hj => by rw [e 75 _ rfl, e 75 _ rfl, e 75 _ rfl]; exact p2 j hj⟩, fun i hi => ?_⟩
  have a : ∀ j, M' 87 j = M 87 j := fun j => e 87 j rfl
  have b : ∀ j, M' 88 j = M 88 j := fun j => e 88 j rfl
  have c : ∀ j, M' 89 j = M 89 j := fun j => e 89 j rfl
  simp only [a, b, c, e 60 52 rfl]
  exact k i hi
theorem XG_Fr {w : List (Nat × Nat)} (f : Fr w M M') (h : okW cx cxo w = true) (X : XG M G) : XG M' G := XG_ag (fun o i q => f o i (okW_no cx_o h q)) X
theorem MG_Fr {w : List (Nat × Nat)} (f : Fr w M M') (h : okW cm cmo w = true) (X : MG M G) : MG M' G := MG_ag (fun o i q => f o i (okW_no cm_o h q)) X
/-- what the reference holds is a house -/
theorem WF_MH (hM : gM gAll M) (w : WM M) (X : MH M h) : WF h := by
  obtain ⟨y1, y2, y3, y4, y5, y6, y7, y8, y9⟩ := WF_of hM w
  obtain ⟨x1, x2, x3, x4, x5, x6, x7⟩ := X
  have e0 : hR (hOf M) = hR h := by show (M 60 0).toNat = hR h; omega
  have e3 : hT (hOf M) = hT h := by show (M 60 3).toNat = hT h; omega
  have e8 : hS (hOf M) = hS h := by show (M 60 8).toNat = hS h; omega
  rw [e0] at y1 y4 y7 y8
  rw [e3] at y2 y8 y9
  rw [e8] at y3 y9
  refine ⟨y1, y2, y3, fun r hr => ?_, fun p hp => ?_, fun a b ha hb => ?_, fun a b ha hb hh => ?_, fun t ht => ?_, fun s hs => ?_⟩
  · rw [← x4 r hr]; exact y4 r hr
  · rw [← x5 p hp]; exact y5 p hp
  · rw [← x5 _ (by omega), ← x5 _ (by omega)]; exact y6 a b ha hb
  · rw [← x5 _ (by omega)]; exact y7 a b ha hb hh
  · obtain ⟨z1, z2, z3, z4⟩ := x6 t ht
    rw [← z1, ← z2, ← z3, ← z4]; exact y8 t ht
  · have := y9 s hs
    have z := x7 s hs
    have e : me (hOf M) s = me h s := by show (M 67 s).toNat = me h s; omega
    rw [← e]; exact this
end COR
/-! widen, sheet, breaks: what both sides hold then -/
section COS
variable {D d : Nat} {M M' G G' h : pM}
theorem XG_new (X : XG M G) (H : XH M' G') (eM : ∀ o i, (o < 7 ∨ 15 ≤ o) → cx o i = true → M' o i = M o i) (eG : ∀ o i, 8 ≤ o → G' o i = G o i) : XG M' G' := by
  obtain ⟨-, ⟨d1, d2, d3⟩, ⟨p1, p2⟩, k⟩ := X
  refine ⟨H, ⟨by rw [eM 0 15 (by decide) rfl, eG 8 0 (by decide)]; exact d1, by rw [eM 0 16 (by decide) rfl, eG 8 1 (by decide)]; exact d2, by rw [eM 0 17 (by decide) rfl, eG 8 2 (by decide)]; exact d3⟩, ⟨by rw [eM 39 3 (by decide) rfl, eG 9 0 (by decide)]; exact p1, fun j hj => ?_⟩, fun i hi => ?_⟩
  · rw [eG 9 0 (by decide)] at hj
    rw [eM 40 j (by decide) rfl, eM 41 j (by decide) rfl, eM 42 j (by decide) rfl, eG 10 j (by decide), eG 11 j (by decide), eG 12 j (by decide)]
    exact p2 j hj
  · have a : ∀ j, M' (44 + 2 * i) j = M (44 + 2 * i) j := fun j => by
      rcases (show i = 0 ∨ i = 1 by omega) with rfl | rfl
      · exact eM 44 j (by decide) rfl
      · exact eM 46 j (by decide) rfl
    have b : ∀ j, M' (45 + 2 * i) j = M (45 + 2 * i) j := fun j => by
      rcases (show i = 0 ∨ i = 1 by omega) with rfl | rfl
      · exact eM 45 j (by decide) rfl
      · exact eM 47 j (by decide) rfl
    have c : ∀ j, G' (16 + i) j = G (16 + i) j := fun j => eG _ j (by omega)
    simp only [a, b, c, eG 13 i (by decide), eG 14 i (by decide), eG 15 i (by decide), eG 18 i (by decide), eG 19 i (by decide)]
    exact k i hi
theorem MG_new (X : MG M G) (H : MH M' G') (eM : ∀ o i, (o < 61 ∨ 67 < o) → cm o i = true → M' o i = M o i) (eG : ∀ o i, 8 ≤ o → G' o i = G o i) (eR : hR G' = hR G) (eT : hT G' = hT G) : MG M' G' := by
  obtain ⟨-, ⟨d1, d2, d3⟩, ⟨p1, p2⟩, k⟩ := X
  refine ⟨H, ⟨by rw [eM 60 10 (by decide) rfl, eG 8 0 (by decide)]; exact d1, by rw [eM 60 11 (by decide) rfl, eG 8 1 (by decide)]; exact d2, by rw [eM 60 12 (by decide) rfl, eG 8 2 (by decide)]; exact d3⟩, ⟨by rw [eM 60 33 (by decide) rfl, eG 9 0 (by decide)]; exact p1, fun j hj => ?_⟩, fun i hi => ?_⟩
  · rw [eG 9 0 (by decide)] at hj
    rw [eM 75 _ (by decide) rfl, eM 75 _ (by decide) rfl, eM 75 _ (by decide) rfl, eG 10 j (by decide), eG 11 j (by decide), eG 12 j (by decide)]
    exact p2 j hj
  · have a : ∀ j, M' 87 j = M 87 j := fun j => eM 87 j (by decide) rfl
    have b : ∀ j, M' 88 j = M 88 j := fun j => eM 88 j (by decide) rfl
    have c : ∀ j, M' 89 j = M 89 j := fun j => eM 89 j (by decide) rfl
    have z : ∀ j, G' (16 + i) j = G (16 + i) j := fun j => eG _ j (by omega)
    simp only [a, b, c, z, eM 60 52 (by decide) rfl, eG 13 i (by decide), eG 14 i (by decide), eG 15 i (by decide), eG 18 i (by decide), eG 19 i (by decide), eR, eT]
    exact k i hi
theorem MG_thr (X : MG M G) : MG (pset M 60 17 0) G := MG_Fr (w := [(60, 17)]) (Fr_set Fr_rfl (by decide)) (by decide) X
/-! a door -/
def wdC (G : pM) (b c e : Int) : Prop := ((0 ≤ b ∧ b < hR G) ∧ (0 ≤ c ∧ c < hR G) ∧ b ≠ c) ∧ 0 ≤ e ∧ e ≤ 9
theorem x_makeDoor7 (hd : 3 ≤ d) (W : WF h) (X : XH M h) {a b : Nat} (ha : a < hR h) (hb : b < hR h) (hab : a ≠ b) (w : Int) : xF d 73 [.inr 9, .inl (a : Int), .inl (b : Int), .inl w] M = rV (pset (pset M 9 (6 * a + b) w) 9 (6 * b + a) w) := by
  obtain ⟨D, rfl, hD⟩ := dsucc hd
  have w1 := W.1
  rw [T_House_makeDoor_7, c_unlike7 (by omega) W X (by omega) (by omega) (by omega) (by omega), pbI_rI, ite01p, if_pos (by omega), if_pos (by omega), if_pos (by omega), show ((a : Int) * 6 + (b : Int)).toNat = 6 * a + b by omega, show ((b : Int) * 6 + (a : Int)).toNat = 6 * b + a by omega]
theorem addD_2 (a b : Nat) (w : Int) (N : pM) (e : ∀ p, p < 36 → M 9 p = N 2 p) (p : Nat) (hp : p < 36) : pset (pset M 9 (6 * a + b) w) 9 (6 * b + a) w 9 p = addD N a b w 2 p := by
  unfold addD
  by_cases q : p = 6 * b + a
  · rw [q, pset_eq, pset_eq]
  · rw [pset_ne2 q, pset_ne2 q]
    by_cases q2 : p = 6 * a + b
    · rw [q2, pset_eq, pset_eq]
    · rw [pset_ne2 q2, pset_ne2 q2]; exact e p hp
theorem addD_62 (a b : Nat) (w : Int) (N : pM) (e : ∀ p, p < 36 → M 62 p = N 2 p) (p : Nat) (hp : p < 36) : pset (pset M 62 (6 * a + b) w) 62 (6 * b + a) w 62 p = addD N a b w 2 p := by
  unfold addD
  by_cases q : p = 6 * b + a
  · rw [q, pset_eq, pset_eq]
  · rw [pset_ne2 q, pset_ne2 q]
    by_cases q2 : p = 6 * a + b
    · rw [q2, pset_eq, pset_eq]
    · rw [pset_ne2 q2, pset_ne2 q2]; exact e p hp
theorem addD_ne {a b o i : Nat} {w : Int} (ho : o ≠ 2) : addD h a b w o i = h o i := by
  unfold addD
  rw [pset_ne ho, pset_ne ho]
theorem XH_addD (X : XH M h) (a b : Nat) (w : Int) : XH (pset (pset M 9 (6 * a + b) w) 9 (6 * b + a) w) (addD h a b w) := by
  obtain ⟨x1, x2, x3, x4, x5, x6, x7⟩ := X
  have eM : ∀ o i, o ≠ 9 → pset (pset M 9 (6 * a + b) w) 9 (6 * b + a) w o i = M o i := fun o i ho => by rw [pset_ne ho, pset_ne ho]
  exact ⟨by rw [eM 7 9 (by decide)]; exact x1, by rw [eM 7 10 (by decide)]; exact x2, by rw [eM 7 11 (by decide)]; exact x3, fun r hr => by rw [eM 8 r (by decide), addD_ne (by decide)]; exact x4 r hr, fun p hp => addD_2 a b w h x5 p hp, fun t ht => by rw [eM 10 t (by decide), eM 11 t (by decide), eM 12 t (by decide), eM 13 t (by decide), addD_ne (by decide), addD_ne (by decide), addD_ne (by decide), addD_ne (by decide)]; exact x6 t ht, fun s hs => by rw [eM 14 s (by decide)]; exact x7 s hs⟩
theorem MH_addD (X : MH M h) (a b : Nat) (w : Int) : MH (pset (pset M 62 (6 * a + b) w) 62 (6 * b + a) w) (addD h a b w) := by
  obtain ⟨x1, x2, x3, x4, x5, x6, x7⟩ := X
  have eM : ∀ o i, o ≠ 62 → pset (pset M 62 (6 * a + b) w) 62 (6 * b + a) w o i = M o i := fun o i ho => by rw [pset_ne ho, pset_ne ho]
  exact ⟨by rw [eM 60 0 (by decide)]; exact x1, by rw [eM 60 3 (by decide)]; exact x2, by rw [eM 60 8 (by decide)]; exact x3, fun r hr => by rw [eM 61 r (by decide), addD_ne (by decide)]; exact x4 r hr, fun p hp => addD_62 a b w h x5 p hp, fun t ht => by rw [eM 63 t (by decide), eM 64 t (by decide), eM 65 t (by decide), eM 66 t (by decide), addD_ne (by decide), addD_ne (by decide), addD_ne (by decide), addD_ne (by decide)]; exact x6 t ht, fun s hs => by rw [eM 67 s (by decide)]; exact x7 s hs⟩
theorem x_widen (hd : 4 ≤ d) (W : WF G) (X : XG M G) {b c e : Int} (hb : -2147483648 ≤ b ∧ b ≤ 2147483647) (hc : -2147483648 ≤ c ∧ c ≤ 2147483647) (he : -2147483648 ≤ e ∧ e ≤ 2147483647) {v : Int} (ee : xF d 8 [.inr 2, .inl b, .inl c, .inl e] M = rI v M') : (wdC G b c e → v = G 2 (6 * b.toNat + c.toNat) ∧ XG M' (addD G b.toNat c.toNat e)) ∧ (¬ wdC G b c e → v = -1 ∧ XG M' G) := by
  obtain ⟨D, rfl, hD⟩ := dsucc hd
  have no : ¬ wdC G b c e → rI (-1) M = rI v M' → (wdC G b c e → v = G 2 (6 * b.toNat + c.toNat) ∧ XG M' (addD G b.toNat c.toNat e)) ∧ (¬ wdC G b c e → v = -1 ∧ XG M' G) := fun n z => ⟨fun y => absurd y n, fun _ => by
    obtain ⟨z1, z2⟩ := rI_inj z
    rw [← z1, ← z2]; exact ⟨rfl, X⟩⟩
  rw [T_X_widen, c_unlike7 (by omega) W X.1 (by omega) (by omega) (by omega) (by omega), pbI_rI, ite01p] at ee
  by_cases q : (0 ≤ b ∧ b < hR G) ∧ (0 ≤ c ∧ c < hR G) ∧ b ≠ c
  · rw [if_pos q] at ee
    by_cases q1 : e < 0
    · rw [if_pos (by rw [lt32_iff] <;> omega)] at ee
      exact no (fun z => by have := z.2; omega) ee
    · rw [if_neg (by rw [lt32_iff] <;> omega)] at ee
      by_cases q2 : e ≤ 9
      · obtain ⟨x, rfl⟩ := natI q.1.1
        obtain ⟨y, rfl⟩ := natI q.2.1.1
        have w1 := W.1
        have hxy : x ≠ y := by omega
        rw [if_pos (by rw [le32_iff] <;> omega), c_doorWidth7n (by omega) W X.1 (by omega) (by omega), pbI_rI, x_makeDoor7 (by omega) W X.1 (by omega) (by omega) hxy, pbN_rV] at ee
        refine ⟨fun _ => ?_, fun z => absurd ⟨q, by omega, q2⟩ z⟩
        obtain ⟨z1, z2⟩ := rI_inj ee
        rw [← z1, ← z2, Int.toNat_natCast, Int.toNat_natCast]
        refine ⟨rfl, XG_new X (XH_addD X.1 x y e) (fun o i ho _ => ?_) (fun o i ho => addD_ne (by omega))⟩
        rw [pset_ne (by omega), pset_ne (by omega)]
      · rw [if_neg (by rw [le32_iff] <;> omega)] at ee
        exact no (fun z => by have := z.2; omega) ee
  · rw [if_neg q] at ee
    exact no (fun z => q z.1) ee
theorem m_widen (hd : 4 ≤ d) (W : WF G) (X : MG M G) {b c e : Int} (hb : -2147483648 ≤ b ∧ b ≤ 2147483647) (hc : -2147483648 ≤ c ∧ c ≤ 2147483647) (he : -2147483648 ≤ e ∧ e ≤ 2147483647) {v : Int} (ee : xF d 204 [.inr 62, .inl b, .inl c, .inl e] M = rI v M') : (wdC G b c e → v = G 2 (6 * b.toNat + c.toNat) ∧ MG M' (addD G b.toNat c.toNat e)) ∧ (¬ wdC G b c e → v = -1 ∧ MG M' G) := by
  obtain ⟨D, rfl, hD⟩ := dsucc hd
  have w1 := W.1
  have X1 := MG_thr X
  rw [T_M_widen] at ee
  generalize pset M 60 17 0 = M1 at X1 ee
  have no : ¬ wdC G b c e → rI (-1) M1 = rI v M' → (wdC G b c e → v = G 2 (6 * b.toNat + c.toNat) ∧ MG M' (addD G b.toNat c.toNat e)) ∧ (¬ wdC G b c e → v = -1 ∧ MG M' G) := fun n z => ⟨fun y => absurd y n, fun _ => by
    obtain ⟨z1, z2⟩ := rI_inj z
    rw [← z1, ← z2]; exact ⟨rfl, X1⟩⟩
  rw [m_isRoom (by omega) X1.1.1 (by omega) (by omega) (by omega), pbI_rI] at ee
  by_cases q1 : 0 ≤ b ∧ b < (hR G : Int)
  · rw [if_pos q1, if_neg (by decide), m_isRoom (by omega) X1.1.1 (by omega) (by omega) (by omega), pbI_rI] at ee
    by_cases q2 : 0 ≤ c ∧ c < (hR G : Int)
    · rw [if_pos q2, if_neg (by decide)] at ee
      by_cases q3 : eq32 b c
      · rw [if_pos q3] at ee
        rw [eq32_iff (by omega) (by omega) (by omega) (by omega)] at q3
        exact no (fun z => z.1.2.2 q3) ee
      · rw [if_neg q3, m_in (by omega), pbI_rI] at ee
        rw [eq32_iff (by omega) (by omega) (by omega) (by omega)] at q3
        by_cases q4 : lt32 e 0 ∨ lt32 9 e
        · rw [if_pos q4, if_neg (fun z => z rfl)] at ee
          rw [lt32_iff (by omega) (by omega) (by omega) (by omega), lt32_iff (by omega) (by omega) (by omega) (by omega)] at q4
          exact no (fun z => by have := z.2; omega) ee
        · obtain ⟨x, rfl⟩ := natI q1.1
          obtain ⟨y, rfl⟩ := natI q2.1
          obtain ⟨D', rfl, -⟩ := dsucc (show 1 ≤ D by omega)
          rw [if_neg q4, if_pos (by decide), if_pos (by omega), T_M_put, if_pos (by omega), if_pos (by omega), pbN_rV, show (6 * (x : Int) + (y : Int)).toNat = 6 * x + y by omega, show (6 * (y : Int) + (x : Int)).toNat = 6 * y + x by omega] at ee
          rw [lt32_iff (by omega) (by omega) (by omega) (by omega), lt32_iff (by omega) (by omega) (by omega) (by omega)] at q4
          refine ⟨fun _ => ?_, fun z => absurd ⟨⟨q1, q2, q3⟩, by omega, by omega⟩ z⟩
          obtain ⟨z1, z2⟩ := rI_inj ee
          rw [← z1, ← z2, Int.toNat_natCast, Int.toNat_natCast]
          refine ⟨X1.1.2.2.2.2.1 _ (by omega), MG_new X1 (MH_addD X1.1 x y e) (fun o i ho _ => ?_) (fun o i ho => addD_ne (by omega)) ?_ ?_⟩
          · rw [pset_ne (by omega), pset_ne (by omega)]
          · unfold hR; rw [addD_ne (by decide)]
          · unfold hT; rw [addD_ne (by decide)]
    · rw [if_neg q2, if_pos rfl] at ee
      exact no (fun z => q2 z.1.2.1) ee
  · rw [if_neg q1, if_pos rfl] at ee
    exact no (fun z => q1 z.1.1) ee
/-! weights -/
noncomputable def gSh (G : pM) (k n f s : Int) : pM := fun o i => if o = 5 then shZ k n f s (hT G) (G 5) i else G o i
theorem gSh_ne {k n f s : Int} {o i : Nat} (ho : o ≠ 5) : gSh G k n f s o i = G o i := if_neg ho
theorem shZ_cg {k n f s : Int} {T : Nat} {p q : Nat → Int} {i : Nat} (e : p i = q i) : shZ k n f s T p i = shZ k n f s T q i := by
  unfold shZ
  rw [e]
theorem xg_sheet (hd : 2 ≤ d) (W : WF G) (X : XG M G) {k n f s : Int} (hk : -2147483648 ≤ k ∧ k ≤ 2147483647) (hn : -2147483648 ≤ n ∧ n ≤ 2147483647) {v : Int} (ee : xF d 10 [.inr 2, .inl k, .inl n, .inl f, .inl s] M = rI v M') : v = shA k n f s (hT G) ∧ XG M' (gSh G k n f s) := by
  obtain ⟨M1, e, r1, r2⟩ := x_sheet (d := d) hd (f := f) (s := s) W.2.1 hk hn X.1.2.1
  obtain ⟨rfl, rfl⟩ := rI_inj (ee.symm.trans e)
  obtain ⟨x1, x2, x3, x4, x5, x6, x7⟩ := X.1
  refine ⟨rfl, XG_new X ⟨by rw [r2 7 9 (by decide)]; exact x1, by rw [r2 7 10 (by decide)]; exact x2, by rw [r2 7 11 (by decide)]; exact x3, fun r hr => by rw [r2 8 r (by decide), gSh_ne (by decide)]; exact x4 r hr, fun p hp => by rw [r2 9 p (by decide), gSh_ne (by decide)]; exact x5 p hp, fun t ht => ?_, fun s hs => by rw [r2 14 s (by decide)]; exact x7 s hs⟩ (fun o i ho _ => r2 o i (by omega)) (fun o i ho => gSh_ne (by omega))⟩
  obtain ⟨y1, y2, y3, y4⟩ := x6 t ht
  rw [r2 10 t (by decide), r2 11 t (by decide), r2 13 t (by decide), r1 t, gSh_ne (show 3 ≠ 5 by decide), gSh_ne (show 4 ≠ 5 by decide), gSh_ne (show 6 ≠ 5 by decide)]
  exact ⟨y1, y2, shZ_cg y3, y4⟩
theorem mg_sheet (hd : 2 ≤ d) (W : WF G) (X : MG M G) {k n f s : Int} (hk : -2147483648 ≤ k ∧ k ≤ 2147483647) (hn : -2147483648 ≤ n ∧ n ≤ 2147483647) {v : Int} (ee : xF d 206 [.inr 62, .inl k, .inl n, .inl f, .inl s] M = rI v M') : v = shA k n f s (hT G) ∧ MG M' (gSh G k n f s) := by
  obtain ⟨M1, e, r1, r2⟩ := m_sheet (d := d) hd (f := f) (s := s) W.2.1 hk hn X.1.2.1
  obtain ⟨rfl, rfl⟩ := rI_inj (ee.symm.trans e)
  obtain ⟨x1, x2, x3, x4, x5, x6, x7⟩ := X.1
  refine ⟨rfl, MG_new X ⟨by rw [r2 60 0 (by decide) (by decide)]; exact x1, by rw [r2 60 3 (by decide) (by decide)]; exact x2, by rw [r2 60 8 (by decide) (by decide)]; exact x3, fun r hr => by rw [r2 61 r (by decide) (fun z => by cases z.1), gSh_ne (by decide)]; exact x4 r hr, fun p hp => by rw [r2 62 p (by decide) (fun z => by cases z.1), gSh_ne (by decide)]; exact x5 p hp, fun t ht => ?_, fun s hs => by rw [r2 67 s (by decide) (fun z => by cases z.1)]; exact x7 s hs⟩ (fun o i ho hc => r2 o i (by omega) (fun z => by rw [z.1, z.2] at hc; cases hc)) (fun o i ho => gSh_ne (by omega)) rfl rfl⟩
  obtain ⟨y1, y2, y3, y4⟩ := x6 t ht
  rw [r2 63 t (by decide) (fun z => by cases z.1), r2 64 t (by decide) (fun z => by cases z.1), r2 66 t (by decide) (fun z => by cases z.1), r1 t, gSh_ne (show 3 ≠ 5 by decide), gSh_ne (show 4 ≠ 5 by decide), gSh_ne (show 6 ≠ 5 by decide)]
  exact ⟨y1, y2, shZ_cg y3, y4⟩
end COS
/-! breaks, carry: what both sides hold then -/
def gBr (G : pM) (b : Nat) : pM := fun o i => if o = 7 ∧ i < hS G then ((nan (me G i) (2 ^ b) : Nat) : Int) else G o i
section COB
variable {D d : Nat} {M M' G : pM}
theorem gBr_ne {b o i : Nat} (ho : o ≠ 7) : gBr G b o i = G o i := if_neg (fun z => ho z.1)
theorem gBr_me {b s : Nat} (hs : s < hS G) : me (gBr G b) s = nan (me G s) (2 ^ b) := by
  show (gBr G b 7 s).toNat = _
  unfold gBr
  rw [if_pos ⟨rfl, hs⟩, Int.toNat_natCast]
theorem brk_v {t v : Nat} (ht : t < 10) (hv : v < 1024) : jand (v : Int) (jxor (jshl 1 (t : Int)) (-1)) = ((nan v (2 ^ t) : Nat) : Int) := by
  have hp : 2 ^ t < 1024 := show 2 ^ t < 2 ^ 10 from Nat.pow_lt_pow_right (by decide) (by omega)
  rw [jshl_one t (by omega), jxor_m1 (by omega), jand_not (by omega) (by omega)]
theorem x_leave (W : WF G) {t : Nat} (ht : t < 10) : ∀ (m s : Nat) (M : pM), s + m = hS G → gM gAll M → M 7 11 = hS G → (∀ i, i < hS G → M 14 i = ((if i < s then nan (me G i) (2 ^ t) else me G i : Nat) : Int)) → ∃ M', xE D 95 2 [.inr 9, .inl (t : Int), .inl (s : Int)] [] M = rV M' ∧ gM gAll M' ∧ (∀ i, i < hS G → M' 14 i = ((nan (me G i) (2 ^ t) : Nat) : Int)) ∧ ∀ o i, o ≠ 14 → M' o i = M o i := by
  have w3 := W.2.2.1
  intro m
  induction m with
  | zero =>
    intro s M hs hM h11 hi
    rw [L_House_leaveSets_2, h11, if_pos (by rw [le32_iff] <;> omega)]
    exact ⟨M, rfl, hM, fun i h => by rw [hi i h, if_pos (by omega)], fun _ _ _ => rfl⟩
  | succ m ih =>
    intro s M hs hM h11 hi
    have hm := Nat.lt_of_lt_of_le (W.2.2.2.2.2.2.2.2 s (by omega)) (p_T W)
    have e := hi s (by omega)
    rw [if_neg (Nat.lt_irrefl s)] at e
    have hn := nan_le (me G s) (2 ^ t)
    rw [L_House_leaveSets_2, h11, if_neg (by rw [le32_iff] <;> omega), if_pos (by omega), if_pos (by omega), Int.toNat_natCast, e, brk_v ht hm, show ((s : Int) + 1) = ((s + 1 : Nat) : Int) by omega]
    obtain ⟨M', e1, r1, r2, r3⟩ := ih (s + 1) (pset M 14 s ((nan (me G s) (2 ^ t) : Nat) : Int)) (by omega) (gM_r hM (lo := 0) (hi := 1023) (by decide +kernel) (by decide +kernel) (by omega) (by omega)) (by rw [pset_ne (by decide)]; exact h11) (fun i h => by
      by_cases q : i = s
      · rw [q, pset_eq, if_pos (Nat.lt_succ_self s)]
      · rw [pset_ne2 q, hi i h]
        by_cases q2 : i < s
        · rw [if_pos q2, if_pos (by omega)]
        · rw [if_neg q2, if_neg (by omega)])
    exact ⟨M', e1, r1, r2, fun o i ho => by rw [r3 o i ho, pset_ne ho]⟩
theorem XG_gBr (X : XG M G) {t : Nat} (e14 : ∀ i, i < hS G → M' 14 i = ((nan (me G i) (2 ^ t) : Nat) : Int)) (eM : ∀ o i, o ≠ 14 → cx o i = true → M' o i = M o i) : XG M' (gBr G t) := by
  obtain ⟨x1, x2, x3, x4, x5, x6, x7⟩ := X.1
  refine XG_new X ⟨by rw [eM 7 9 (by decide) rfl]; exact x1, by rw [eM 7 10 (by decide) rfl]; exact x2, by rw [eM 7 11 (by decide) rfl]; exact x3, fun r hr => by rw [eM 8 r (by decide) rfl, gBr_ne (by decide)]; exact x4 r hr, fun p hp => by rw [eM 9 p (by decide) rfl, gBr_ne (by decide)]; exact x5 p hp, fun t ht => ?_, fun s hs => ?_⟩ (fun o i ho hc => eM o i (by omega) hc) (fun o i ho => gBr_ne (by omega))
  · rw [eM 10 t (by decide) rfl, eM 11 t (by decide) rfl, eM 12 t (by decide) rfl, eM 13 t (by decide) rfl, gBr_ne (by decide), gBr_ne (by decide), gBr_ne (by decide), gBr_ne (by decide)]
    exact x6 t ht
  · have hs : s < hS G := hs
    rw [gBr_me hs]; exact e14 s hs
theorem MG_gBr (X : MG M G) {t : Nat} (e67 : ∀ i, i < hS G → M' 67 i = ((nan (me G i) (2 ^ t) : Nat) : Int)) (eM : ∀ o i, o ≠ 67 → cm o i = true → M' o i = M o i) : MG M' (gBr G t) := by
  obtain ⟨x1, x2, x3, x4, x5, x6, x7⟩ := X.1
  refine MG_new X ⟨by rw [eM 60 0 (by decide) rfl]; exact x1, by rw [eM 60 3 (by decide) rfl]; exact x2, by rw [eM 60 8 (by decide) rfl]; exact x3, fun r hr => by rw [eM 61 r (by decide) rfl, gBr_ne (by decide)]; exact x4 r hr, fun p hp => by rw [eM 62 p (by decide) rfl, gBr_ne (by decide)]; exact x5 p hp, fun t ht => ?_, fun s hs => ?_⟩ (fun o i ho hc => eM o i (by omega) hc) (fun o i ho => gBr_ne (by omega)) rfl rfl
  · rw [eM 63 t (by decide) rfl, eM 64 t (by decide) rfl, eM 65 t (by decide) rfl, eM 66 t (by decide) rfl, gBr_ne (by decide), gBr_ne (by decide), gBr_ne (by decide), gBr_ne (by decide)]
    exact x6 t ht
  · have hs : s < hS G := hs
    rw [gBr_me hs]; exact e67 s hs
theorem xg_breaks (hd : 4 ≤ d) (W : WF G) (hM : gM gAll M) (X : XG M G) {b : Int} (hb : -2147483648 ≤ b ∧ b ≤ 2147483647) {v : Int} (ee : xF d 19 [.inr 2, .inl b] M = rI v M') : (0 ≤ b ∧ b < hT G → XG M' (gBr G b.toNat)) ∧ (¬ (0 ≤ b ∧ b < hT G) → v = -1 ∧ XG M' G) := by
  obtain ⟨D, rfl, hD⟩ := dsucc hd
  obtain ⟨D', rfl, -⟩ := dsucc (show 1 ≤ D by omega)
  have w2 := W.2.1
  rw [T_X_breaks, c_isThing7 (by omega) W X.1 (by omega) (by omega), pbI_rI, ite01pn] at ee
  by_cases q : 0 ≤ b ∧ b < hT G
  · obtain ⟨t, rfl⟩ := natI q.1
    obtain ⟨M1, e1, g1, r1, f1⟩ := x_leave (D := D') W (t := t) (by omega) (hS G) 0 M (by omega) hM X.1.2.2.1 (fun i hi => by rw [X.1.2.2.2.2.2.2 i hi, if_neg (Nat.not_lt_zero i)])
    obtain ⟨M2, e2, g2, f2⟩ := v_hang (d := D' + 1) (by omega) g1
    rw [if_pos q, T_House_leaveSets, show (.inl 0 : pV) = .inl ((0 : Nat) : Int) from rfl, e1, pbN_rV, e2, pbN_rV] at ee
    refine ⟨fun _ => ?_, fun z => absurd q z⟩
    rw [← (rI_inj ee).2, Int.toNat_natCast]
    have f2' : ∀ o i, cx o i = true → M2 o i = M1 o i := fun o i h => f2 o i (okW_no cx_o (by decide) h)
    exact XG_gBr X (fun i hi => by rw [f2' 14 i rfl]; exact r1 i hi) (fun o i ho hc => by rw [f2' o i hc, f1 o i ho])
  · rw [if_neg q] at ee
    refine ⟨fun z => absurd z q, fun _ => ?_⟩
    obtain ⟨z1, z2⟩ := rI_inj ee
    rw [← z1, ← z2]; exact ⟨rfl, X⟩
theorem m_leave (W : WF G) {t : Nat} (ht : t < 10) : ∀ (m s : Nat) (M : pM), s + m = hS G → gM gAll M → M 60 8 = hS G → (∀ i, i < hS G → M 67 i = ((if i < s then nan (me G i) (2 ^ t) else me G i : Nat) : Int)) → ∃ M', xE D 226 11 [.inr 62, .inl (t : Int), .inl (s : Int)] [] M = xE D 226 11 [.inr 62, .inl (t : Int), .inl (hS G : Int)] [] M' ∧ gM gAll M' ∧ (∀ i, i < hS G → M' 67 i = ((nan (me G i) (2 ^ t) : Nat) : Int)) ∧ ∀ o i, o ≠ 67 → M' o i = M o i := by
  have w3 := W.2.2.1
  intro m
  induction m with
  | zero =>
    intro s M hs hM h11 hi
    have e : s = hS G := by omega
    rw [e]
    exact ⟨M, rfl, hM, fun i h => by rw [hi i h, if_pos (by omega)], fun _ _ _ => rfl⟩
  | succ m ih =>
    intro s M hs hM h11 hi
    have hm := Nat.lt_of_lt_of_le (W.2.2.2.2.2.2.2.2 s (by omega)) (p_T W)
    have e := hi s (by omega)
    rw [if_neg (Nat.lt_irrefl s)] at e
    have hn := nan_le (me G s) (2 ^ t)
    rw [L_M_breaks_11, h11, if_neg (by rw [le32_iff] <;> omega), if_pos (by omega), if_pos (by omega), Int.toNat_natCast, e, brk_v ht hm, show ((s : Int) + 1) = ((s + 1 : Nat) : Int) by omega]
    obtain ⟨M', e1, r1, r2, r3⟩ := ih (s + 1) (pset M 67 s ((nan (me G s) (2 ^ t) : Nat) : Int)) (by omega) (gM_r hM (lo := 0) (hi := 1023) (by decide +kernel) (by decide +kernel) (by omega) (by omega)) (by rw [pset_ne (by decide)]; exact h11) (fun i h => by
      by_cases q : i = s
      · rw [q, pset_eq, if_pos (Nat.lt_succ_self s)]
      · rw [pset_ne2 q, hi i h]
        by_cases q2 : i < s
        · rw [if_pos q2, if_pos (by omega)]
        · rw [if_neg q2, if_neg (by omega)])
    exact ⟨M', e1, r1, r2, fun o i ho => by rw [r3 o i ho, pset_ne ho]⟩
theorem mg_breaks (hd : 3 ≤ d) (W : WF G) (hM : gM gAll M) (X : MG M G) {b : Int} (hb : -2147483648 ≤ b ∧ b ≤ 2147483647) {v : Int} (ee : xF d 226 [.inr 62, .inl b] M = rI v M') : (0 ≤ b ∧ b < hT G → MG M' (gBr G b.toNat)) ∧ (¬ (0 ≤ b ∧ b < hT G) → v = -1 ∧ MG M' G) := by
  obtain ⟨D, rfl, hD⟩ := dsucc hd
  have w2 := W.2.1
  have w3 := W.2.2.1
  have X1 := MG_thr X
  have hM1 := gM_thr hM
  rw [T_M_breaks] at ee
  generalize pset M 60 17 0 = M1 at X1 hM1 ee
  rw [m_isThing (by omega) X1.1.2.1 (by omega) (by omega) (by omega), pbI_rI] at ee
  by_cases q : 0 ≤ b ∧ b < (hT G : Int)
  · obtain ⟨t, rfl⟩ := natI q.1
    obtain ⟨M2, e1, g1, r1, f1⟩ := m_leave (D := D) W (t := t) (by omega) (hS G) 0 M1 (by omega) hM1 X1.1.2.2.1 (fun i hi => by rw [X1.1.2.2.2.2.2.2 i hi, if_neg (Nat.not_lt_zero i)])
    obtain ⟨M3, e2, g2, f2, -⟩ := m_findClumps (d := D) (ns := 0) (g := 0) (by omega) g1 (fcx_of g1) (by decide) (by decide)
    rw [if_pos q, if_pos (by decide), show (.inl 0 : pV) = .inl ((0 : Nat) : Int) from rfl, e1, L_M_breaks_11, f1 60 8 (by decide), X1.1.2.2.1, if_pos (by rw [le32_iff] <;> omega), show (.inl 0 : pV) = .inl ((0 : Nat) : Int) from rfl, e2, pbN_rV] at ee
    refine ⟨fun _ => ?_, fun z => absurd q z⟩
    rw [← (rI_inj ee).2, Int.toNat_natCast]
    have f2' : ∀ o i, cm o i = true → M3 o i = M2 o i := fun o i h => f2 o i (okW_no cm_o (by decide) h)
    exact MG_gBr X1 (fun i hi => by rw [f2' 67 i rfl]; exact r1 i hi) (fun o i ho hc => by rw [f2' o i hc, f1 o i ho])
  · rw [if_neg q, if_neg (fun z => z rfl)] at ee
    refine ⟨fun z => absurd z q, fun _ => ?_⟩
    obtain ⟨z1, z2⟩ := rI_inj ee
    rw [← z1, ← z2]; exact ⟨rfl, X1⟩
end COB
/-! carry: what both sides hold then -/
def pqN (n : Int) : Int := if n < 20 then n + 1 else 20
def pqF (n : Int) (f : Nat → Int) (v : Int) (k : Nat) : Int := if n < 20 then (if (k : Int) = n then v else f k) else (if k = 19 then v else f (k + 1))
theorem pqF_cg {n : Int} {f g : Nat → Int} {v : Int} {k : Nat} (hn : 0 ≤ n ∧ n ≤ 20) (hk : (k : Int) < pqN n) (e : ∀ j : Nat, (j : Int) < n → f j = g j) : pqF n f v k = pqF n g v k := by
  unfold pqN at hk
  unfold pqF
  by_cases q : n < 20
  · rw [if_pos q] at hk
    rw [if_pos q, if_pos q]
    by_cases q2 : (k : Int) = n
    · rw [if_pos q2, if_pos q2]
    · rw [if_neg q2, if_neg q2, e k (by omega)]
  · rw [if_neg q] at hk
    rw [if_neg q, if_neg q]
    by_cases q2 : k = 19
    · rw [if_pos q2, if_pos q2]
    · rw [if_neg q2, if_neg q2, e (k + 1) (by omega)]
/-- one more that can be undone -/
def gPush (G : pM) (b v w : Int) : pM := fun o i => if o = 9 ∧ i = 0 then pqN (G 9 0) else if o = 10 then pqF (G 9 0) (G 10) b i else if o = 11 then pqF (G 9 0) (G 11) v i else if o = 12 then pqF (G 9 0) (G 12) w i else G o i
/-- a thing is carried -/
def gCarry (G : pM) (b c : Nat) : pM := fun o i => if o = 6 ∧ i = b then (c : Int) else if o = 8 ∧ i = 1 then G 8 1 + cst G b (G 6 b).toNat c else gPush G b (G 6 b) (G 8 1) o i
def att (G : pM) (p : Nat → Int) (e : Int) (b c : Nat) : Int := if cst G b (p b).toNat c < 0 then -2 else if le32 (e + cst G b (p b).toNat c) (G 8 2) then cst G b (p b).toNat c else -3
/-- what it costs to carry a thing, or why not -/
def attF (G : pM) (p : Nat → Int) (e b c : Int) : Int := if (0 ≤ b ∧ b < hT G) ∧ (0 ≤ c ∧ c < hR G) then att G p e b.toNat c.toNat else -1
section COC
variable {D d : Nat} {M M' G G' : pM} {p : Nat → Int}
theorem att_range (W : WF G) {b : Nat} (hb : b < hT G) (e : Int) (c : Nat) : -3 ≤ att G p e b c ∧ att G p e b c ≤ 45 := by
  have := cst_range W hb (p b).toNat c
  unfold att
  split
  · omega
  · split <;> omega
theorem attF_range (W : WF G) (e b c : Int) : -3 ≤ attF G p e b c ∧ attF G p e b c ≤ 45 := by
  unfold attF
  by_cases q : (0 ≤ b ∧ b < hT G) ∧ (0 ≤ c ∧ c < hR G)
  · rw [if_pos q]; exact att_range W (by omega) e _
  · rw [if_neg q]; omega
theorem attF_room {e b c : Int} (h : 0 ≤ attF G p e b c) : ((0 ≤ b ∧ b < hT G) ∧ (0 ≤ c ∧ c < hR G)) ∧ 0 ≤ cst G b.toNat (p b.toNat).toNat c.toNat ∧ le32 (e + cst G b.toNat (p b.toNat).toNat c.toNat) (G 8 2) ∧ attF G p e b c = cst G b.toNat (p b.toNat).toNat c.toNat := by
  unfold attF at h ⊢
  by_cases q : (0 ≤ b ∧ b < hT G) ∧ (0 ≤ c ∧ c < hR G)
  · rw [if_pos q] at h ⊢
    unfold att at h ⊢
    by_cases q2 : cst G b.toNat (p b.toNat).toNat c.toNat < 0
    · rw [if_pos q2] at h; omega
    · rw [if_neg q2] at h ⊢
      by_cases q3 : le32 (e + cst G b.toNat (p b.toNat).toNat c.toNat) (G 8 2)
      · rw [if_pos q3]; exact ⟨q, by omega, q3, rfl⟩
      · rw [if_neg q3] at h; omega
  · rw [if_neg q] at h; omega
theorem x_att13 (hd : 5 ≤ d) (W : WF G) (X : XG M G) {b c : Int} (hb : -2147483648 ≤ b ∧ b ≤ 2147483647) (hc : -2147483648 ≤ c ∧ c ≤ 2147483647) (e : Int) : xF d 51 [.inr 2, .inl b, .inl c, .inr 15, .inl e] M = rI (attF G (G 6) e b c) M := by
  obtain ⟨D, rfl, hD⟩ := dsucc hd
  have w1 := W.1
  have w2 := W.2.1
  rw [T_X_attempt_13, c_isThing7 (by omega) W X.1 (by omega) (by omega), pbI_rI, ite01p]
  unfold attF
  by_cases q1 : 0 ≤ b ∧ b < (hT G : Int)
  · rw [if_pos q1, c_isRoom7 (by omega) W X.1 (by omega) (by omega), pbI_rI, ite01pn]
    by_cases q2 : 0 ≤ c ∧ c < (hR G : Int)
    · obtain ⟨x, rfl⟩ := natI q1.1
      obtain ⟨y, rfl⟩ := natI q2.1
      have hx := (X.1.2.2.2.2.2.1 x (by omega)).2.2.2
      have hw := (W.2.2.2.2.2.2.2.1 x (by omega)).2.2.2
      obtain ⟨z, hz⟩ := natI hw.1
      have cr := cst_range W (t := x) (by omega) z y
      rw [if_pos q2, if_pos ⟨q1, q2⟩, c_numberAt_13n (by omega) (by omega), pbI_rI, hx, hz, c_cost (by omega) W X.1 (by omega) (by omega) (by omega), pbI_rI]
      unfold att
      rw [Int.toNat_natCast, Int.toNat_natCast, hz, Int.toNat_natCast]
      by_cases q3 : cst G x z y < 0
      · rw [if_neg (by rw [le32_iff] <;> omega), if_pos q3]
      · rw [if_pos (by rw [le32_iff] <;> omega), if_neg q3, X.2.1.2.2]
        by_cases q4 : le32 (e + cst G x z y) (G 8 2)
        · rw [if_pos q4, if_pos q4]
        · rw [if_neg q4, if_neg q4]
    · rw [if_neg q2, if_neg (fun z => q2 z.2)]
  · rw [if_neg q1, if_neg (fun z => q1 z.1)]
/-! undos -/
theorem x_drop : ∀ (m x : Nat) (M1 : pM), x + m = 20 → 1 ≤ x → (∀ k, k < 20 → M1 40 k = (if k + 1 < x then M 40 (k + 1) else M 40 k) ∧ M1 41 k = (if k + 1 < x then M 41 (k + 1) else M 41 k) ∧ M1 42 k = (if k + 1 < x then M 42 (k + 1) else M 42 k)) → ∃ M', xE D 131 2 [.inr 41, .inl (x : Int)] [] M1 = rV M' ∧ (∀ k, k < 19 → M' 40 k = M 40 (k + 1) ∧ M' 41 k = M 41 (k + 1) ∧ M' 42 k = M 42 (k + 1)) ∧ M' 39 3 = 19 ∧ ∀ o i, ¬ (o = 39 ∧ i = 3) → o ≠ 40 → o ≠ 41 → o ≠ 42 → M' o i = M1 o i := by
  intro m
  induction m with
  | zero =>
    intro x M1 hx h1 hk
    have e : x = 20 := by omega
    rw [L_Past_dropFirst_2, e, if_pos (by decide)]
    refine ⟨_, rfl, fun k h => ?_, pset_eq, fun o i a _ _ _ => ?_⟩
    · obtain ⟨a, b, c⟩ := hk k (by omega)
      rw [if_pos (by omega)] at a b c
      rw [pset_ne (by decide), pset_ne (by decide), pset_ne (by decide)]
      exact ⟨a, b, c⟩
    · unfold pset
      rw [if_neg (fun z => a z)]
  | succ m ih =>
    intro x M1 hx h1 hk
    have i0 : (0 : Int) ≤ (x : Int) ∧ (x : Int) < 20 := by omega
    have i1 : (0 : Int) ≤ (x : Int) - 1 ∧ (x : Int) - 1 < 20 := by omega
    obtain ⟨y, rfl⟩ : ∃ y, x = y + 1 := ⟨x - 1, by omega⟩
    have ey : (((y + 1 : Nat) : Int) - 1).toNat = y := by omega
    obtain ⟨a, b, c⟩ := hk (y + 1) (by omega)
    rw [if_neg (by omega)] at a b c
    rw [L_Past_dropFirst_2, if_neg (by rw [le32_iff] <;> omega)]
    simp only [if_pos i0, if_pos i1, ey, Int.toNat_natCast, pset_ne (show 41 ≠ 40 by decide), pset_ne (show 42 ≠ 40 by decide), pset_ne (show 42 ≠ 41 by decide)]
    rw [a, b, c, show ((((y + 1 : Nat) : Int)) + 1) = ((y + 1 + 1 : Nat) : Int) by omega]
    obtain ⟨M', e1, r1, r2, r3⟩ := ih (y + 1 + 1) (pset (pset (pset M1 40 y (M 40 (y + 1))) 41 y (M 41 (y + 1))) 42 y (M 42 (y + 1))) (by omega) (by omega) (fun k h => by
      rw [pset_ne (show 40 ≠ 42 by decide), pset_ne (show 40 ≠ 41 by decide), pset_ne (show 41 ≠ 42 by decide)]
      obtain ⟨u1, u2, u3⟩ := hk k h
      by_cases q : k = y
      · rw [q, pset_eq, pset_eq, pset_eq, if_pos (by omega), if_pos (by omega), if_pos (by omega)]
        exact ⟨rfl, rfl, rfl⟩
      · rw [pset_ne2 q, pset_ne2 q, pset_ne2 q, pset_ne (show 41 ≠ 40 by decide), pset_ne (show 42 ≠ 41 by decide), pset_ne (show 42 ≠ 40 by decide), u1, u2, u3]
        by_cases q2 : k + 1 < y + 1
        · rw [if_pos q2, if_pos q2, if_pos q2, if_pos (by omega), if_pos (by omega), if_pos (by omega)]
          exact ⟨rfl, rfl, rfl⟩
        · rw [if_neg q2, if_neg q2, if_neg q2, if_neg (by omega), if_neg (by omega), if_neg (by omega)]
          exact ⟨rfl, rfl, rfl⟩)
    exact ⟨M', e1, r1, r2, fun o i h1 h2 h3 h4 => by rw [r3 o i h1 h2 h3 h4, pset_ne h4, pset_ne h3, pset_ne h2]⟩
theorem x_push (hd : 2 ≤ d) (hn : 0 ≤ M 39 3 ∧ M 39 3 ≤ 20) (b v w : Int) : ∃ M', xF d 130 [.inr 41, .inl b, .inl v, .inl w] M = rV M' ∧ M' 39 3 = pqN (M 39 3) ∧ (∀ k : Nat, (k : Int) < pqN (M 39 3) → M' 40 k = pqF (M 39 3) (M 40) b k ∧ M' 41 k = pqF (M 39 3) (M 41) v k ∧ M' 42 k = pqF (M 39 3) (M 42) w k) ∧ ∀ o i, ¬ (o = 39 ∧ i = 3) → o ≠ 40 → o ≠ 41 → o ≠ 42 → M' o i = M o i := by
  obtain ⟨D, rfl, hD⟩ := dsucc hd
  obtain ⟨D', rfl, -⟩ := dsucc (show 1 ≤ D by omega)
  have a1 : ∀ (M : pM) (i : Nat) (v : Int), pset M 40 i v 39 3 = M 39 3 := fun _ _ _ => pset_ne (by decide)
  have a2 : ∀ (M : pM) (i : Nat) (v : Int), pset M 41 i v 39 3 = M 39 3 := fun _ _ _ => pset_ne (by decide)
  have a3 : ∀ (M : pM) (i : Nat) (v : Int), pset M 42 i v 39 3 = M 39 3 := fun _ _ _ => pset_ne (by decide)
  have fin : ∀ (M1 : pM) (n : Nat), n < 20 → M1 39 3 = (n : Int) → (∀ o i, ¬ (o = 39 ∧ i = 3) → o ≠ 40 → o ≠ 41 → o ≠ 42 → M1 o i = M o i) → ((n + 1 : Nat) : Int) = pqN (M 39 3) → (∀ k : Nat, k < n → M1 40 k = pqF (M 39 3) (M 40) b k ∧ M1 41 k = pqF (M 39 3) (M 41) v k ∧ M1 42 k = pqF (M 39 3) (M 42) w k) → b = pqF (M 39 3) (M 40) b n → v = pqF (M 39 3) (M 41) v n → w = pqF (M 39 3) (M 42) w n → (pset (pset (pset (pset M1 40 n b) 41 n v) 42 n w) 39 3 ((n : Int) + 1)) 39 3 = pqN (M 39 3) ∧ (∀ k : Nat, (k : Int) < pqN (M 39 3) → (pset (pset (pset (pset M1 40 n b) 41 n v) 42 n w) 39 3 ((n : Int) + 1)) 40 k = pqF (M 39 3) (M 40) b k ∧ (pset (pset (pset (pset M1 40 n b) 41 n v) 42 n w) 39 3 ((n : Int) + 1)) 41 k = pqF (M 39 3) (M 41) v k ∧ (pset (pset (pset (pset M1 40 n b) 41 n v) 42 n w) 39 3 ((n : Int) + 1)) 42 k = pqF (M 39 3) (M 42) w k) ∧ ∀ o i, ¬ (o = 39 ∧ i = 3) → o ≠ 40 → o ≠ 41 → o ≠ 42 → (pset (pset (pset (pset M1 40 n b) 41 n v) 42 n w) 39 3 ((n : Int) + 1)) o i = M o i := by
    intro M1 n hn1 h3 ho hq hk e1 e2 e3
    refine ⟨by rw [pset_eq, ← hq]; omega, fun k h => ?_, fun o i h1 h2 h3 h4 => ?_⟩
    · rw [pset_ne (show 40 ≠ 39 by decide), pset_ne (show 41 ≠ 39 by decide), pset_ne (show 42 ≠ 39 by decide), pset_ne (show 40 ≠ 42 by decide), pset_ne (show 40 ≠ 41 by decide), pset_ne (show 41 ≠ 42 by decide)]
      by_cases q : k = n
      · rw [q, pset_eq, pset_eq, pset_eq]; exact ⟨e1, e2, e3⟩
      · rw [pset_ne2 q, pset_ne2 q, pset_ne2 q, pset_ne (show 41 ≠ 40 by decide), pset_ne (show 42 ≠ 41 by decide), pset_ne (show 42 ≠ 40 by decide)]
        exact hk k (by omega)
    · have e : (pset (pset (pset (pset M1 40 n b) 41 n v) 42 n w) 39 3 ((n : Int) + 1)) o i = M1 o i := by
        unfold pset
        rw [if_neg (fun z => h1 z), if_neg (fun z => h4 z.1), if_neg (fun z => h3 z.1), if_neg (fun z => h2 z.1)]
      rw [e]; exact ho o i h1 h2 h3 h4
  obtain ⟨n, h39⟩ := natI hn.1
  rw [T_Past_add]
  by_cases q : n < 20
  · have i0 : (0 : Int) ≤ (n : Int) ∧ (n : Int) < 20 := by omega
    rw [if_pos (by rw [h39, lt32_iff] <;> omega), if_neg (by rw [h39, lt32_iff] <;> omega), if_neg (by rw [h39, le32_iff] <;> omega)]
    simp only [a1, a2, a3, h39, if_pos i0, Int.toNat_natCast]
    have := fin M n q h39 (fun _ _ _ _ _ _ => rfl) (by unfold pqN; rw [if_pos (by omega)]; omega) (fun k h => by
      unfold pqF
      rw [if_pos (by omega), if_neg (by omega), if_pos (by omega), if_neg (by omega), if_pos (by omega), if_neg (by omega)]
      exact ⟨rfl, rfl, rfl⟩) (by unfold pqF; rw [if_pos (by omega), if_pos (by omega)]) (by unfold pqF; rw [if_pos (by omega), if_pos (by omega)]) (by unfold pqF; rw [if_pos (by omega), if_pos (by omega)])
    rw [h39] at this
    exact ⟨_, rfl, this⟩
  · have e20 : n = 20 := by omega
    have i0 : (0 : Int) ≤ ((19 : Nat) : Int) ∧ ((19 : Nat) : Int) < 20 := by decide
    obtain ⟨M1, e1, r1, r2, r3⟩ := x_drop (D := D') (M := M) 19 1 M (by decide) (by decide) (fun k _ => by rw [if_neg (by omega), if_neg (by omega), if_neg (by omega)]; exact ⟨rfl, rfl, rfl⟩)
    have r2 : M1 39 3 = ((19 : Nat) : Int) := r2
    rw [if_neg (by rw [h39, lt32_iff] <;> omega), T_Past_dropFirst, show (.inl 1 : pV) = .inl ((1 : Nat) : Int) from rfl, e1, pbN_rV, if_neg (by rw [r2, lt32_iff] <;> omega), if_neg (by rw [r2, le32_iff] <;> omega)]
    simp only [a1, a2, a3, r2, if_pos i0, Int.toNat_natCast]
    have := fin M1 19 (by decide) r2 r3 (by unfold pqN; rw [if_neg (by omega)]; rfl) (fun k h => by
      obtain ⟨u1, u2, u3⟩ := r1 k h
      unfold pqF
      rw [if_neg (by omega), if_neg (by omega), if_neg (by omega), if_neg (by omega), if_neg (by omega), if_neg (by omega)]
      exact ⟨u1, u2, u3⟩) (by unfold pqF; rw [if_neg (by omega), if_pos rfl]) (by unfold pqF; rw [if_neg (by omega), if_pos rfl]) (by unfold pqF; rw [if_neg (by omega), if_pos rfl])
    exact ⟨_, rfl, this⟩
end COC
/-! carry on both sides -/
section COE
variable {D d : Nat} {M M' G G' : pM} {p : Nat → Int}
theorem g66_free {b : Nat} {c : Nat} {i : Nat} : gCarry G b c 6 i = if i = b then (c : Int) else G 6 i := by
  unfold gCarry gPush
  by_cases q : i = b
  · rw [if_pos ⟨rfl, q⟩, if_pos q]
  · rw [if_neg (fun z => q z.2), if_neg q, if_neg (by omega), if_neg (by omega), if_neg (by omega), if_neg (by omega), if_neg (by omega)]
theorem gCarry_ne {b c o i : Nat} (h1 : o ≠ 6) (h2 : o ≠ 8) (h3 : o < 9 ∨ 12 < o) : gCarry G b c o i = G o i := by
  unfold gCarry gPush
  rw [if_neg (by omega), if_neg (by omega), if_neg (by omega), if_neg (by omega), if_neg (by omega), if_neg (by omega)]
theorem gCarry_8 {b c i : Nat} : gCarry G b c 8 i = if i = 1 then G 8 1 + cst G b (G 6 b).toNat c else G 8 i := by
  unfold gCarry gPush
  rw [if_neg (by omega)]
  by_cases q : i = 1
  · rw [if_pos ⟨rfl, q⟩, if_pos q]
  · rw [if_neg (fun z => q z.2), if_neg q, if_neg (by omega), if_neg (by omega), if_neg (by omega), if_neg (by omega)]
theorem gCarry_9 {b c : Nat} : gCarry G b c 9 0 = pqN (G 9 0) := by
  unfold gCarry gPush
  rw [if_neg (by omega), if_neg (by omega), if_pos ⟨rfl, rfl⟩]
theorem gCarry_10 {b c k : Nat} : gCarry G b c 10 k = pqF (G 9 0) (G 10) b k := by
  unfold gCarry gPush
  rw [if_neg (by omega), if_neg (by omega), if_neg (by omega), if_pos rfl]
theorem gCarry_11 {b c k : Nat} : gCarry G b c 11 k = pqF (G 9 0) (G 11) (G 6 b) k := by
  unfold gCarry gPush
  rw [if_neg (by omega), if_neg (by omega), if_neg (by omega), if_neg (by omega), if_pos rfl]
theorem gCarry_12 {b c k : Nat} : gCarry G b c 12 k = pqF (G 9 0) (G 12) (G 8 1) k := by
  unfold gCarry gPush
  rw [if_neg (by omega), if_neg (by omega), if_neg (by omega), if_neg (by omega), if_neg (by omega), if_pos rfl]
/-- the class carries -/
theorem XG_carry (W : WF G) (X : XG M G) (hn : 0 ≤ G 9 0 ∧ G 9 0 ≤ 20) {b c : Nat} (hb : b < hT G) (hc : c < hR G) (e13 : ∀ i, M' 13 i = if i = b then (c : Int) else M 13 i) (e16 : M' 0 16 = G 8 1 + cst G b (G 6 b).toNat c) (e39 : M' 39 3 = pqN (M 39 3)) (ek : ∀ k : Nat, (k : Int) < pqN (M 39 3) → M' 40 k = pqF (M 39 3) (M 40) b k ∧ M' 41 k = pqF (M 39 3) (M 41) (G 6 b) k ∧ M' 42 k = pqF (M 39 3) (M 42) (G 8 1) k) (eo : ∀ o i, cx o i = true → o ≠ 13 → ¬ (o = 0 ∧ i = 16) → ¬ (o = 39 ∧ i = 3) → o ≠ 40 → o ≠ 41 → o ≠ 42 → M' o i = M o i) : XG M' (gCarry G b c) := by
  obtain ⟨⟨x1, x2, x3, x4, x5, x6, x7⟩, ⟨d1, d2, d3⟩, ⟨p1, p2⟩, k⟩ := X
  refine ⟨⟨by rw [eo 7 9 rfl (by omega) (by omega) (by omega) (by omega) (by omega) (by omega)]; exact x1, by rw [eo 7 10 rfl (by omega) (by omega) (by omega) (by omega) (by omega) (by omega)]; exact x2, by rw [eo 7 11 rfl (by omega) (by omega) (by omega) (by omega) (by omega) (by omega)]; exact x3, fun r hr => ?_, fun q hq => ?_, fun t ht => ?_, fun s hs => ?_⟩, ⟨?_, ?_, ?_⟩, ⟨?_, fun j hj => ?_⟩, fun i hi => ?_⟩
  · rw [eo 8 r rfl (by omega) (by omega) (by omega) (by omega) (by omega) (by omega), gCarry_ne (by decide) (by decide) (by decide)]; exact x4 r hr
  · rw [eo 9 q rfl (by omega) (by omega) (by omega) (by omega) (by omega) (by omega), gCarry_ne (by decide) (by decide) (by decide)]; exact x5 q hq
  · obtain ⟨y1, y2, y3, y4⟩ := x6 t ht
    rw [eo 10 t rfl (by omega) (by omega) (by omega) (by omega) (by omega) (by omega), eo 11 t rfl (by omega) (by omega) (by omega) (by omega) (by omega) (by omega), eo 12 t rfl (by omega) (by omega) (by omega) (by omega) (by omega) (by omega), e13 t, g66_free, gCarry_ne (show 3 ≠ 6 by decide) (by decide) (by decide), gCarry_ne (show 4 ≠ 6 by decide) (by decide) (by decide), gCarry_ne (show 5 ≠ 6 by decide) (by decide) (by decide), y4]
    exact ⟨y1, y2, y3, rfl⟩
  · rw [eo 14 s rfl (by omega) (by omega) (by omega) (by omega) (by omega) (by omega)]
    have : me (gCarry G b c) s = me G s := by unfold me; rw [gCarry_ne (by decide) (by decide) (by decide)]
    rw [this]; exact x7 s hs
  · rw [eo 0 15 rfl (by omega) (by omega) (by omega) (by omega) (by omega) (by omega), gCarry_8, if_neg (by decide)]; exact d1
  · rw [e16, gCarry_8, if_pos rfl]
  · rw [eo 0 17 rfl (by omega) (by omega) (by omega) (by omega) (by omega) (by omega), gCarry_8, if_neg (by decide)]; exact d3
  · rw [e39, gCarry_9, p1]
  · rw [gCarry_9] at hj
    obtain ⟨u1, u2, u3⟩ := ek j (by rw [p1]; exact hj)
    rw [u1, u2, u3, gCarry_10, gCarry_11, gCarry_12, p1]
    exact ⟨pqF_cg hn hj (fun q hq => (p2 q hq).1), pqF_cg hn hj (fun q hq => (p2 q hq).2.1), pqF_cg hn hj (fun q hq => (p2 q hq).2.2)⟩
  · have a : ∀ j, M' (44 + 2 * i) j = M (44 + 2 * i) j := fun j => by
      rcases (show i = 0 ∨ i = 1 by omega) with rfl | rfl
      · exact eo 44 j rfl (by omega) (by omega) (by omega) (by omega) (by omega) (by omega)
      · exact eo 46 j rfl (by omega) (by omega) (by omega) (by omega) (by omega) (by omega)
    have bb : ∀ j, M' (45 + 2 * i) j = M (45 + 2 * i) j := fun j => by
      rcases (show i = 0 ∨ i = 1 by omega) with rfl | rfl
      · exact eo 45 j rfl (by omega) (by omega) (by omega) (by omega) (by omega) (by omega)
      · exact eo 47 j rfl (by omega) (by omega) (by omega) (by omega) (by omega) (by omega)
    have g : ∀ o j, 12 < o → gCarry G b c o j = G o j := fun o j ho => gCarry_ne (by omega) (by omega) (by omega)
    have g16 : ∀ j, gCarry G b c (16 + i) j = G (16 + i) j := fun j => g _ j (by omega)
    simp only [a, bb, g16, g 13 i (by decide), g 14 i (by decide), g 15 i (by decide), g 18 i (by decide), g 19 i (by decide)]
    exact k i hi
theorem xg_carry (hd : 6 ≤ d) (W : WF G) (X : XG M G) (hn : 0 ≤ G 9 0 ∧ G 9 0 ≤ 20) {b c : Int} (hb : -2147483648 ≤ b ∧ b ≤ 2147483647) (hc : -2147483648 ≤ c ∧ c ≤ 2147483647) {v : Int} (ee : xF d 11 [.inr 2, .inl b, .inl c] M = rI v M') : v = attF G (G 6) (G 8 1) b c ∧ (0 ≤ attF G (G 6) (G 8 1) b c → XG M' (gCarry G b.toNat c.toNat)) ∧ (attF G (G 6) (G 8 1) b c < 0 → XG M' G) := by
  obtain ⟨D, rfl, hD⟩ := dsucc hd
  have w2 := W.2.1
  have ar := attF_range (p := G 6) W (G 8 1) b c
  rw [T_X_carry, x_att13 (by omega) W X hb hc, pbI_rI, X.2.1.2.1] at ee
  by_cases q : attF G (G 6) (G 8 1) b c < 0
  · rw [if_pos (by rw [lt32_iff] <;> omega)] at ee
    obtain ⟨z1, z2⟩ := rI_inj ee
    rw [← z2]
    exact ⟨z1.symm, fun z => by omega, fun _ => X⟩
  · obtain ⟨⟨r1, r2⟩, r3, r4, r5⟩ := attF_room (show 0 ≤ attF G (G 6) (G 8 1) b c by omega)
    rw [if_neg (by rw [lt32_iff] <;> omega)] at ee
    generalize attF G (G 6) (G 8 1) b c = kk at *
    obtain ⟨x, rfl⟩ := natI r1.1
    obtain ⟨y, rfl⟩ := natI r2.1
    obtain ⟨D', rfl, -⟩ := dsucc (show 1 ≤ D by omega)
    rw [Int.toNat_natCast, Int.toNat_natCast] at r3 r4 r5
    have hx := (X.1.2.2.2.2.2.1 x (by omega)).2.2.2
    obtain ⟨M1, e1, p1, p2, p3⟩ := x_push (d := D') (M := M) (by omega) (by rw [X.2.2.1.1]; exact hn) (x : Int) (G 6 x) (G 8 1)
    have i0 : (0 : Int) ≤ (x : Int) ∧ (x : Int) < 10 := by omega
    rw [T_X_bring, c_isThing7 (by omega) W X.1 (by omega) (by omega), pbI_rI, ite01p, if_pos (by omega), if_pos i0, Int.toNat_natCast, hx, X.2.1.2.1, e1, pbN_rV, if_pos i0, pbN_rV] at ee
    obtain ⟨z1, z2⟩ := rI_inj ee
    rw [← z2, Int.toNat_natCast, Int.toNat_natCast]
    refine ⟨z1.symm, fun _ => XG_carry W X hn (by omega) (by omega) (fun i => ?_) ?_ ?_ (fun k hk => ?_) (fun o i hc a1 a2 a3 a4 a5 a6 => ?_), fun z => by omega⟩
    · rw [pset_ne (show 13 ≠ 0 by decide)]
      by_cases q : i = x
      · rw [q, pset_eq, if_pos rfl]
      · rw [pset_ne2 q, if_neg q, p3 13 i (by omega) (by omega) (by omega) (by omega)]
    · rw [pset_eq, pset_ne (show 0 ≠ 13 by decide), p3 0 16 (by omega) (by omega) (by omega) (by omega), X.2.1.2.1, r5]
    · rw [pset_ne (by decide), pset_ne (by decide)]; exact p1
    · rw [pset_ne (by decide), pset_ne (by decide), pset_ne (by decide), pset_ne (by decide), pset_ne (by decide), pset_ne (by decide)]
      exact p2 k hk
    · have e : pset (pset M1 13 x (y : Int)) 0 16 (pset M1 13 x (y : Int) 0 16 + kk) o i = M1 o i := by
        unfold pset
        rw [if_neg (fun z => a2 z), if_neg (fun z => a1 z.1)]
      rw [e]; exact p3 o i a3 a4 a5 a6
/-! the reference carries -/
theorem m_shift : ∀ (m x : Nat) (M1 : pM), x + m = 57 → M1 60 33 = 20 → (∀ k, k < 60 → M1 75 k = if k < x then M 75 (k + 3) else M 75 k) → ∃ M2, (∀ b, xE D 215 6 [.inr 62, .inl b, .inl (x : Int)] [] M1 = xE D 215 6 [.inr 62, .inl b, .inl 57] [] M2) ∧ (∀ k, k < 57 → M2 75 k = M 75 (k + 3)) ∧ ∀ o i, o ≠ 75 → M2 o i = M1 o i := by
  intro m
  induction m with
  | zero =>
    intro x M1 hx h33 hk
    have e : x = 57 := by omega
    rw [e]
    exact ⟨M1, fun _ => rfl, fun k h => by rw [hk k (by omega), if_pos (by omega)], fun _ _ _ => rfl⟩
  | succ m ih =>
    intro x M1 hx h33 hk
    have e3 : M1 75 (x + 3) = M 75 (x + 3) := by rw [hk (x + 3) (by omega), if_neg (by omega)]
    obtain ⟨M2, e, r1, r2⟩ := ih (x + 1) (pset M1 75 x (M 75 (x + 3))) (by omega) (by rw [pset_ne (by decide)]; exact h33) (fun k h => by
      by_cases q : k = x
      · rw [q, pset_eq, if_pos (Nat.lt_succ_self x)]
      · rw [pset_ne2 q, hk k h]
        by_cases q2 : k < x
        · rw [if_pos q2, if_pos (by omega)]
        · rw [if_neg q2, if_neg (by omega)])
    refine ⟨M2, fun b => ?_, r1, fun o i ho => by rw [r2 o i ho, pset_ne ho]⟩
    rw [L_M_remember_6, if_neg (by rw [le32_iff] <;> omega), if_pos (by omega), if_pos (by omega), show ((x : Int) + 3).toNat = x + 3 by omega, Int.toNat_natCast, e3, show ((x : Int) + 1) = ((x + 1 : Nat) : Int) by omega]
    exact e b
theorem m_push (hd : 1 ≤ d) (hn : 0 ≤ M 60 33 ∧ M 60 33 ≤ 20) {b : Nat} (hb : b < 10) : ∃ M', xF d 215 [.inr 62, .inl (b : Int)] M = rV M' ∧ M' 60 33 = pqN (M 60 33) ∧ (∀ k : Nat, (k : Int) < pqN (M 60 33) → M' 75 (3 * k) = pqF (M 60 33) (fun j => M 75 (3 * j)) b k ∧ M' 75 (3 * k + 1) = pqF (M 60 33) (fun j => M 75 (3 * j + 1)) (M 66 b) k ∧ M' 75 (3 * k + 2) = pqF (M 60 33) (fun j => M 75 (3 * j + 2)) (M 60 11) k) ∧ ∀ o i, ¬ (o = 60 ∧ i = 33) → o ≠ 75 → M' o i = M o i := by
  obtain ⟨D, rfl, -⟩ := dsucc hd
  have a1 : ∀ (M : pM) (i : Nat) (v : Int), pset M 75 i v 60 33 = M 60 33 := fun _ _ _ => pset_ne (by decide)
  have a2 : ∀ (M : pM) (i k : Nat) (v : Int), pset M 75 i v 66 k = M 66 k := fun _ _ _ _ => pset_ne (by decide)
  have a3 : ∀ (M : pM) (i : Nat) (v : Int), pset M 75 i v 60 11 = M 60 11 := fun _ _ _ => pset_ne (by decide)
  have n1 : ∀ n : Nat, (3 * (n : Int)).toNat = 3 * n := fun n => by omega
  have n2 : ∀ n : Nat, (3 * (n : Int) + 1).toNat = 3 * n + 1 := fun n => by omega
  have n3 : ∀ n : Nat, (3 * (n : Int) + 2).toNat = 3 * n + 2 := fun n => by omega
  have hb2 : (0 : Int) ≤ (b : Int) ∧ (b : Int) < 10 := by omega
  have fin : ∀ (M1 : pM) (n : Nat) (v w : Int), n < 20 → (∀ o i, ¬ (o = 60 ∧ i = 33) → o ≠ 75 → M1 o i = M o i) → ((n + 1 : Nat) : Int) = pqN (M 60 33) → (∀ k : Nat, k < n → M1 75 (3 * k) = pqF (M 60 33) (fun j => M 75 (3 * j)) b k ∧ M1 75 (3 * k + 1) = pqF (M 60 33) (fun j => M 75 (3 * j + 1)) v k ∧ M1 75 (3 * k + 2) = pqF (M 60 33) (fun j => M 75 (3 * j + 2)) w k) → (b : Int) = pqF (M 60 33) (fun j => M 75 (3 * j)) b n → v = pqF (M 60 33) (fun j => M 75 (3 * j + 1)) v n → w = pqF (M 60 33) (fun j => M 75 (3 * j + 2)) w n → (pset (pset (pset (pset M1 75 (3 * n) (b : Int)) 75 (3 * n + 1) v) 75 (3 * n + 2) w) 60 33 ((n : Int) + 1)) 60 33 = pqN (M 60 33) ∧ (∀ k : Nat, (k : Int) < pqN (M 60 33) → (pset (pset (pset (pset M1 75 (3 * n) (b : Int)) 75 (3 * n + 1) v) 75 (3 * n + 2) w) 60 33 ((n : Int) + 1)) 75 (3 * k) = pqF (M 60 33) (fun j => M 75 (3 * j)) b k ∧ (pset (pset (pset (pset M1 75 (3 * n) (b : Int)) 75 (3 * n + 1) v) 75 (3 * n + 2) w) 60 33 ((n : Int) + 1)) 75 (3 * k + 1) = pqF (M 60 33) (fun j => M 75 (3 * j + 1)) v k ∧ (pset (pset (pset (pset M1 75 (3 * n) (b : Int)) 75 (3 * n + 1) v) 75 (3 * n + 2) w) 60 33 ((n : Int) + 1)) 75 (3 * k + 2) = pqF (M 60 33) (fun j => M 75 (3 * j + 2)) w k) ∧ ∀ o i, ¬ (o = 60 ∧ i = 33) → o ≠ 75 → (pset (pset (pset (pset M1 75 (3 * n) (b : Int)) 75 (3 * n + 1) v) 75 (3 * n + 2) w) 60 33 ((n : Int) + 1)) o i = M o i := by
    intro M1 n v w hn1 ho hq hk e1 e2 e3
    refine ⟨by rw [pset_eq, ← hq]; omega, fun k h => ?_, fun o i h1 h2 => ?_⟩
    · rw [pset_ne (show 75 ≠ 60 by decide), pset_ne (show 75 ≠ 60 by decide), pset_ne (show 75 ≠ 60 by decide)]
      by_cases q : k = n
      · rw [q, pset_ne2 (show 3 * n ≠ 3 * n + 2 by omega), pset_ne2 (show 3 * n ≠ 3 * n + 1 by omega), pset_eq, pset_ne2 (show 3 * n + 1 ≠ 3 * n + 2 by omega), pset_eq, pset_eq]
        exact ⟨e1, e2, e3⟩
      · have z : ∀ i, i ≠ 3 * n → i ≠ 3 * n + 1 → i ≠ 3 * n + 2 → pset (pset (pset M1 75 (3 * n) (b : Int)) 75 (3 * n + 1) v) 75 (3 * n + 2) w 75 i = M1 75 i := fun i b1 b2 b3 => by rw [pset_ne2 b3, pset_ne2 b2, pset_ne2 b1]
        rw [z _ (by omega) (by omega) (by omega), z _ (by omega) (by omega) (by omega), z _ (by omega) (by omega) (by omega)]
        exact hk k (by omega)
    · have e : (pset (pset (pset (pset M1 75 (3 * n) (b : Int)) 75 (3 * n + 1) v) 75 (3 * n + 2) w) 60 33 ((n : Int) + 1)) o i = M1 o i := by
        unfold pset
        rw [if_neg (fun z => h1 z), if_neg (fun z => h2 z.1), if_neg (fun z => h2 z.1), if_neg (fun z => h2 z.1)]
      rw [e]; exact ho o i h1 h2
  obtain ⟨n, h33⟩ := natI hn.1
  rw [T_M_remember]
  by_cases q : n = 20
  · have k20 : M 60 33 = 20 := by rw [h33, q]; rfl
    rw [if_neg (fun z => z (by rw [k20]))]
    obtain ⟨M1, e1, r1, r2⟩ := m_shift (D := D) (M := M) 57 0 M (by decide) k20 (fun k _ => by rw [if_neg (Nat.not_lt_zero k)])
    have e1' := e1 (b : Int)
    rw [show (.inl 0 : pV) = .inl ((0 : Nat) : Int) from rfl, e1', L_M_remember_6, if_pos (by decide), r2 60 33 (by decide), k20, show ((20 : Int) - 1) = ((19 : Nat) : Int) by decide]
    have f33 : (pset M1 60 33 ((19 : Nat) : Int)) 60 33 = ((19 : Nat) : Int) := pset_eq
    have f66 : (pset M1 60 33 ((19 : Nat) : Int)) 66 b = M 66 b := by rw [pset_ne (by decide), r2 66 b (by decide)]
    have f11 : (pset M1 60 33 ((19 : Nat) : Int)) 60 11 = M 60 11 := by rw [pset_ne2 (by decide), r2 60 11 (by decide)]
    have f75 : ∀ k, (pset M1 60 33 ((19 : Nat) : Int)) 75 k = M1 75 k := fun k => pset_ne (by decide)
    have fo : ∀ o i, ¬ (o = 60 ∧ i = 33) → o ≠ 75 → (pset M1 60 33 ((19 : Nat) : Int)) o i = M o i := fun o i h1 h2 => by
      have : (pset M1 60 33 ((19 : Nat) : Int)) o i = M1 o i := by
        unfold pset
        rw [if_neg (fun z => h1 z)]
      rw [this]; exact r2 o i h2
    generalize pset M1 60 33 ((19 : Nat) : Int) = M2 at f33 f66 f11 f75 fo ⊢
    simp only [a1, a2, a3, f33, n1, n2, n3, Int.toNat_natCast]
    rw [if_pos (by decide), if_pos hb2, if_pos (by decide), if_pos (by decide), f66, f11]
    have := fin M2 19 (M 66 b) (M 60 11) (by decide) fo (by unfold pqN; rw [if_neg (by omega)]; rfl) (fun k h => by
      rw [f75, f75, f75, r1 _ (by omega), r1 _ (by omega), r1 _ (by omega)]
      unfold pqF
      rw [if_neg (by omega), if_neg (by omega), if_neg (by omega), if_neg (by omega), if_neg (by omega), if_neg (by omega)]
      exact ⟨by rw [show 3 * k + 3 = 3 * (k + 1) by omega], by rw [show 3 * k + 1 + 3 = 3 * (k + 1) + 1 by omega], by rw [show 3 * k + 2 + 3 = 3 * (k + 1) + 2 by omega]⟩) (by unfold pqF; rw [if_neg (by omega), if_pos rfl]) (by unfold pqF; rw [if_neg (by omega), if_pos rfl]) (by unfold pqF; rw [if_neg (by omega), if_pos rfl])
    rw [k20] at this
    exact ⟨_, rfl, this⟩
  · rw [if_pos (by rw [h33, eq32_iff] <;> omega)]
    simp only [a1, a2, a3, h33, n1, n2, n3, Int.toNat_natCast]
    rw [if_pos (by omega), if_pos hb2, if_pos (by omega), if_pos (by omega)]
    have := fin M n (M 66 b) (M 60 11) (by omega) (fun _ _ _ _ => rfl) (by unfold pqN; rw [if_pos (by omega)]; omega) (fun k h => by
      unfold pqF
      rw [if_pos (by omega), if_neg (by omega), if_pos (by omega), if_neg (by omega), if_pos (by omega), if_neg (by omega)]
      exact ⟨rfl, rfl, rfl⟩) (by unfold pqF; rw [if_pos (by omega), if_pos (by omega)]) (by unfold pqF; rw [if_pos (by omega), if_pos (by omega)]) (by unfold pqF; rw [if_pos (by omega), if_pos (by omega)])
    rw [h33] at this
    exact ⟨_, rfl, this⟩
theorem m_refF (hd : 4 ≤ d) (W : WF G) (X : MG M G) {b c : Int} (hb : -2147483648 ≤ b ∧ b ≤ 2147483647) (hc : -2147483648 ≤ c ∧ c ≤ 2147483647) : ∃ M', xF d 213 [.inr 62, .inl b, .inl c] M = rI (if 0 ≤ attF G (G 6) (G 8 1) b c then 0 else attF G (G 6) (G 8 1) b c) M' ∧ ∀ o i, o ≠ 74 → M' o i = M o i := by
  obtain ⟨D, rfl, hD⟩ := dsucc hd
  have w1 := W.1
  have w2 := W.2.1
  have no : attF G (G 6) (G 8 1) b c = -1 → ∃ M', (rI (-1) M : Option pR) = rI (if 0 ≤ attF G (G 6) (G 8 1) b c then 0 else attF G (G 6) (G 8 1) b c) M' ∧ ∀ o i, o ≠ 74 → M' o i = M o i := fun e => ⟨M, by rw [e]; rfl, fun _ _ _ => rfl⟩
  rw [T_M_refusal, m_isThing (by omega) X.1.2.1 (by omega) (by omega) (by omega), pbI_rI]
  by_cases q1 : 0 ≤ b ∧ b < (hT G : Int)
  · rw [if_pos q1, if_neg (by decide), m_isRoom (by omega) X.1.1 (by omega) (by omega) (by omega), pbI_rI]
    by_cases q2 : 0 ≤ c ∧ c < (hR G : Int)
    · obtain ⟨x, rfl⟩ := natI q1.1
      obtain ⟨y, rfl⟩ := natI q2.1
      obtain ⟨h63, h64, h65, h66⟩ := X.1.2.2.2.2.2.1 x (by omega)
      have hw := W.2.2.2.2.2.2.2.1 x (by omega)
      obtain ⟨z, hz⟩ := natI hw.2.2.2.1
      obtain ⟨M1, e1, f1⟩ := m_stepsF (d := D) (t := x) (a := z) (b := y) (by omega) W (by omega) (by omega) (by omega) h64 X.1.2.2.2.2.1 X.1.1
      have sr := stp_range W (G 4 x) z y
      have i0 : (0 : Int) ≤ (x : Int) ∧ (x : Int) < 10 := by omega
      rw [if_pos q2, if_pos (by decide), if_pos i0, Int.toNat_natCast, h66, hz, e1, pbI_rI]
      have uA : attF G (G 6) (G 8 1) (x : Int) (y : Int) = att G (G 6) (G 8 1) x y := by unfold attF; rw [if_pos ⟨q1, q2⟩, Int.toNat_natCast, Int.toNat_natCast]
      rw [uA]
      unfold att cst fv
      rw [hz, Int.toNat_natCast]
      by_cases q3 : stp G (G 4 x) z y < 0
      · rw [if_pos q3, if_neg (by decide)]
        simp only [if_pos q3]
        exact ⟨M1, rfl, f1⟩
      · have m0 : 0 ≤ stp G (G 4 x) z y * G 5 x := Int.mul_nonneg (by omega) (by omega)
        rw [if_neg q3, if_pos (by rw [lt32_iff] <;> omega), if_pos i0, f1 60 11 (by decide), f1 60 12 (by decide), f1 65 x (by decide), h65, X.2.1.2.1, X.2.1.2.2]
        simp only [if_neg q3, if_neg (show ¬ stp G (G 4 x) z y * G 5 x < 0 by omega)]
        by_cases q4 : le32 (G 8 1 + stp G (G 4 x) z y * G 5 x) (G 8 2)
        · rw [if_pos q4, if_pos q4, if_pos m0]
          exact ⟨M1, rfl, f1⟩
        · rw [if_neg q4, if_neg q4, if_neg (by decide)]
          exact ⟨M1, rfl, f1⟩
    · rw [if_neg q2, if_neg (fun z => z rfl)]
      exact no (by unfold attF; rw [if_neg (fun z => q2 z.2)])
  · rw [if_neg q1, if_pos rfl]
    exact no (by unfold attF; rw [if_neg (fun z => q1 z.1)])
/-- the reference carries -/
theorem MG_carry (W : WF G) (X : MG M G) (hn : 0 ≤ G 9 0 ∧ G 9 0 ≤ 20) {b c : Nat} (hb : b < hT G) (e66 : ∀ i, M' 66 i = if i = b then (c : Int) else M 66 i) (e11 : M' 60 11 = G 8 1 + cst G b (G 6 b).toNat c) (e33 : M' 60 33 = pqN (M 60 33)) (ek : ∀ k : Nat, (k : Int) < pqN (M 60 33) → M' 75 (3 * k) = pqF (M 60 33) (fun j => M 75 (3 * j)) b k ∧ M' 75 (3 * k + 1) = pqF (M 60 33) (fun j => M 75 (3 * j + 1)) (G 6 b) k ∧ M' 75 (3 * k + 2) = pqF (M 60 33) (fun j => M 75 (3 * j + 2)) (G 8 1) k) (eo : ∀ o i, cm o i = true → o ≠ 66 → ¬ (o = 60 ∧ i = 11) → ¬ (o = 60 ∧ i = 33) → o ≠ 75 → M' o i = M o i) : MG M' (gCarry G b c) := by
  obtain ⟨⟨x1, x2, x3, x4, x5, x6, x7⟩, ⟨d1, d2, d3⟩, ⟨p1, p2⟩, k⟩ := X
  have g : ∀ o j, o < 6 ∨ o = 7 ∨ 12 < o → gCarry G b c o j = G o j := fun o j ho => gCarry_ne (by omega) (by omega) (by omega)
  have eR : hR (gCarry G b c) = hR G := by unfold hR; rw [g 0 0 (by decide)]
  have eT : hT (gCarry G b c) = hT G := by unfold hT; rw [g 0 1 (by decide)]
  have eS : hS (gCarry G b c) = hS G := by unfold hS; rw [g 0 2 (by decide)]
  refine ⟨⟨by rw [eo 60 0 rfl (by omega) (by omega) (by omega) (by omega), eR]; exact x1, by rw [eo 60 3 rfl (by omega) (by omega) (by omega) (by omega), eT]; exact x2, by rw [eo 60 8 rfl (by omega) (by omega) (by omega) (by omega), eS]; exact x3, fun r hr => ?_, fun q hq => ?_, fun t ht => ?_, fun s hs => ?_⟩, ⟨?_, ?_, ?_⟩, ⟨?_, fun j hj => ?_⟩, fun i hi => ?_⟩
  · rw [eR] at hr
    rw [eo 61 r rfl (by omega) (by omega) (by omega) (by omega), g 1 r (by decide)]; exact x4 r hr
  · rw [eo 62 q rfl (by omega) (by omega) (by omega) (by omega), g 2 q (by decide)]; exact x5 q hq
  · rw [eT] at ht
    obtain ⟨y1, y2, y3, y4⟩ := x6 t ht
    rw [eo 63 t rfl (by omega) (by omega) (by omega) (by omega), eo 64 t rfl (by omega) (by omega) (by omega) (by omega), eo 65 t rfl (by omega) (by omega) (by omega) (by omega), e66 t, g66_free, g 3 t (by decide), g 4 t (by decide), g 5 t (by decide), y4]
    exact ⟨y1, y2, y3, rfl⟩
  · rw [eS] at hs
    rw [eo 67 s rfl (by omega) (by omega) (by omega) (by omega)]
    have : me (gCarry G b c) s = me G s := by unfold me; rw [g 7 s (by decide)]
    rw [this]; exact x7 s hs
  · rw [eo 60 10 rfl (by omega) (by omega) (by omega) (by omega), gCarry_8, if_neg (by decide)]; exact d1
  · rw [e11, gCarry_8, if_pos rfl]
  · rw [eo 60 12 rfl (by omega) (by omega) (by omega) (by omega), gCarry_8, if_neg (by decide)]; exact d3
  · rw [e33, gCarry_9, p1]
  · rw [gCarry_9] at hj
    obtain ⟨u1, u2, u3⟩ := ek j (by rw [p1]; exact hj)
    rw [u1, u2, u3, gCarry_10, gCarry_11, gCarry_12, p1]
    exact ⟨pqF_cg hn hj (fun q hq => (p2 q hq).1), pqF_cg hn hj (fun q hq => (p2 q hq).2.1), pqF_cg hn hj (fun q hq => (p2 q hq).2.2)⟩
  · have a : ∀ j, M' 87 j = M 87 j := fun j => eo 87 j rfl (by omega) (by omega) (by omega) (by omega)
    have bb : ∀ j, M' 88 j = M 88 j := fun j => eo 88 j rfl (by omega) (by omega) (by omega) (by omega)
    have cc : ∀ j, M' 89 j = M 89 j := fun j => eo 89 j rfl (by omega) (by omega) (by omega) (by omega)
    have g16 : ∀ j, gCarry G b c (16 + i) j = G (16 + i) j := fun j => g _ j (by omega)
    simp only [a, bb, cc, eo 60 52 rfl (by omega) (by omega) (by omega) (by omega), g16, g 13 i (by decide), g 14 i (by decide), g 15 i (by decide), g 18 i (by decide), g 19 i (by decide), eR, eT]
    exact k i hi
/-- remember, then carry -/
theorem m_remCarry (hD : 4 ≤ D) (W : WF G) (X : MG M G) (hn : 0 ≤ G 9 0 ∧ G 9 0 ≤ 20) {b c : Int} (h : 0 ≤ attF G (G 6) (G 8 1) b c) : ∃ M1 M2, xF D 215 [.inr 62, .inl b] M = rV M1 ∧ xF D 214 [.inr 62, .inl b, .inl c] M1 = rI (attF G (G 6) (G 8 1) b c) M2 ∧ MG M2 (gCarry G b.toNat c.toNat) ∧ ∀ o i, ¬ (o = 60 ∧ (i = 33 ∨ i = 11)) → o ≠ 75 → o ≠ 74 → o ≠ 66 → M2 o i = M o i := by
  have w1 := W.1
  have w2 := W.2.1
  obtain ⟨⟨r1, r2⟩, r3, r4, r5⟩ := attF_room h
  generalize attF G (G 6) (G 8 1) b c = kk at *
  obtain ⟨x, rfl⟩ := natI r1.1
  obtain ⟨y, rfl⟩ := natI r2.1
  rw [Int.toNat_natCast, Int.toNat_natCast] at r3 r4 r5
  obtain ⟨h63, h64, h65, h66⟩ := X.1.2.2.2.2.2.1 x (by omega)
  have hw := W.2.2.2.2.2.2.2.1 x (by omega)
  obtain ⟨z, hz⟩ := natI hw.2.2.2.1
  obtain ⟨M1, e1, p1, p2, p3⟩ := m_push (d := D) (M := M) (by omega) (by rw [X.2.2.1.1]; exact hn) (b := x) (by omega)
  obtain ⟨D', rfl, hD'⟩ := dsucc (show 1 ≤ D by omega)
  obtain ⟨M2, e2, f2⟩ := m_stepsF (d := D') (M := M1) (t := x) (a := z) (b := y) (by omega) W (by omega) (by omega) (by omega) (by rw [p3 64 x (by omega) (by decide)]; exact h64) (fun q hq => by rw [p3 62 q (by omega) (by decide)]; exact X.1.2.2.2.2.1 q hq) (by rw [p3 60 0 (by omega) (by decide)]; exact X.1.1)
  have sr := stp_range W (G 4 x) z y
  have i0 : (0 : Int) ≤ (x : Int) ∧ (x : Int) < 10 := by omega
  have ek : fv G (G 4 x) z y * G 5 x = kk := by
    rw [r5, hz, Int.toNat_natCast]
    rw [hz, Int.toNat_natCast] at r3
    unfold fv
    unfold cst at r3 ⊢
    by_cases q : stp G (G 4 x) z y < 0
    · rw [if_pos q] at r3; omega
    · rw [if_neg q, if_neg q]
  have k65 : M2 65 x = G 5 x := by rw [f2 65 x (by decide), p3 65 x (by omega) (by decide), h65]
  refine ⟨M1, pset (pset M2 66 x (y : Int)) 60 11 (pset M2 66 x (y : Int) 60 11 + kk), e1, ?_, ?_, fun o i a1 a2 a3 a4 => ?_⟩
  · rw [T_M_carries, if_pos i0, Int.toNat_natCast, p3 66 x (by omega) (by decide), h66, hz, e2, pbI_rI, if_pos i0, if_pos i0, k65, ek]
  · rw [Int.toNat_natCast, Int.toNat_natCast]
    refine MG_carry W X hn (by omega) (fun i => ?_) ?_ ?_ (fun k hk => ?_) (fun o i hc a1 a2 a3 a4 => ?_)
    · rw [pset_ne (show 66 ≠ 60 by decide)]
      by_cases q : i = x
      · rw [q, pset_eq, if_pos rfl]
      · rw [pset_ne2 q, if_neg q, f2 66 i (by decide), p3 66 i (by omega) (by decide)]
    · rw [pset_eq, pset_ne (show 60 ≠ 66 by decide), f2 60 11 (by decide), p3 60 11 (by omega) (by decide), X.2.1.2.1, r5]
    · rw [pset_ne2 (by decide), pset_ne (by decide), f2 60 33 (by decide)]; exact p1
    · rw [pset_ne (by decide), pset_ne (by decide), pset_ne (by decide), pset_ne (by decide), pset_ne (by decide), pset_ne (by decide), f2 75 _ (by decide), f2 75 _ (by decide), f2 75 _ (by decide)]
      have := p2 k hk
      rw [h66, X.2.1.2.1] at this
      exact this
    · have e : pset (pset M2 66 x (y : Int)) 60 11 (pset M2 66 x (y : Int) 60 11 + kk) o i = M2 o i := by
        unfold pset
        rw [if_neg (fun z => a2 z), if_neg (fun z => a1 z.1)]
      rw [e, f2 o i (fun z => by rw [z] at hc; cases hc), p3 o i (fun z => a3 z) a4]
  · have e : pset (pset M2 66 x (y : Int)) 60 11 (pset M2 66 x (y : Int) 60 11 + kk) o i = M2 o i := by
      unfold pset
      rw [if_neg (fun z => a1 ⟨z.1, Or.inr z.2⟩), if_neg (fun z => a4 z.1)]
    rw [e, f2 o i a3, p3 o i (fun z => a1 ⟨z.1, Or.inl z.2⟩) a2]
theorem mg_carry (hd : 5 ≤ d) (W : WF G) (X : MG M G) (hn : 0 ≤ G 9 0 ∧ G 9 0 ≤ 20) {b c : Int} (hb : -2147483648 ≤ b ∧ b ≤ 2147483647) (hc : -2147483648 ≤ c ∧ c ≤ 2147483647) {v : Int} (ee : xF d 216 [.inr 62, .inl b, .inl c] M = rI v M') : v = attF G (G 6) (G 8 1) b c ∧ (0 ≤ attF G (G 6) (G 8 1) b c → MG M' (gCarry G b.toNat c.toNat)) ∧ (attF G (G 6) (G 8 1) b c < 0 → MG M' G) := by
  obtain ⟨D, rfl, hD⟩ := dsucc hd
  have X1 := MG_thr X
  have ar := attF_range (p := G 6) W (G 8 1) b c
  rw [T_M_carry] at ee
  generalize pset M 60 17 0 = M0 at X1 ee
  obtain ⟨M1, e1, f1⟩ := m_refF (d := D) (by omega) W X1 hb hc
  have X2 : MG M1 G := MG_ag (fun o i q => f1 o i (fun z => by rw [z] at q; cases q)) X1
  rw [e1, pbI_rI] at ee
  by_cases q : 0 ≤ attF G (G 6) (G 8 1) b c
  · obtain ⟨M2, M3, e2, e3, X3, -⟩ := m_remCarry (D := D) (by omega) W X2 hn q
    rw [if_pos q, if_pos (by decide), e2, pbN_rV, e3, pbI_rI] at ee
    obtain ⟨z1, z2⟩ := rI_inj ee
    rw [← z1, ← z2]
    exact ⟨rfl, fun _ => X3, fun z => by omega⟩
  · rw [if_neg q, if_neg (by rw [le32_iff] <;> omega)] at ee
    obtain ⟨z1, z2⟩ := rI_inj ee
    rw [← z1, ← z2]
    exact ⟨rfl, fun z => absurd z q, fun _ => X2⟩
end COE
end
