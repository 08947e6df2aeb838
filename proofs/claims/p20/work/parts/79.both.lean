/-! aim, on both sides: digits of rooms, one for each thing -/
noncomputable def amS (tx : Nat → Int) (st R : Nat) : Nat → rgs
  | 0 => .inr 0
  | k + 1 => sgD tx st 0 ((R : Int) - 1) (amS tx st R k)
/-- what aim answers -/
noncomputable def amA (tx : Nat → Int) (L T R : Nat) : Int := if L = 0 then 0 else match amS tx (min L T) R T with
  | .inl p => -1 - (p : Int)
  | .inr _ => if L ≤ T then (L : Int) else -1 - (T : Int)
section AMS
variable {tx : Nat → Int} {st R : Nat}
theorem amS_ok {k : Nat} (h : amS tx st R k = .inr k) (q : 48 ≤ hc tx st k ∧ hc tx st k ≤ (R : Int) + 47) (hR : R ≤ 6) : amS tx st R (k + 1) = .inr (k + 1) := by
  show sgD tx st 0 ((R : Int) - 1) (amS tx st R k) = _
  rw [h]
  exact if_pos ⟨q.1, by omega, by omega, by omega⟩
theorem amS_no {k : Nat} (h : amS tx st R k = .inr k) (q : ¬ (48 ≤ hc tx st k ∧ hc tx st k ≤ (R : Int) + 47)) : amS tx st R (k + 1) = .inl k := by
  show sgD tx st 0 ((R : Int) - 1) (amS tx st R k) = _
  rw [h]
  exact if_neg (fun z => q ⟨z.1, by omega⟩)
theorem amS_stay {p k : Nat} (h : amS tx st R k = .inl p) : ∀ j, amS tx st R (k + j) = .inl p
  | 0 => h
  | j + 1 => by
    show sgD tx st 0 ((R : Int) - 1) (amS tx st R (k + j)) = _
    rw [amS_stay h j]; rfl
theorem amS_inr (hR : R ≤ 6) : ∀ (k a : Nat), amS tx st R k = .inr a → a = k ∧ ∀ i, i < k → 48 ≤ hc tx st i ∧ hc tx st i ≤ (R : Int) + 47
  | 0, a, h => by
    have h : (.inr 0 : rgs) = .inr a := h
    cases h
    exact ⟨rfl, fun i hi => absurd hi (Nat.not_lt_zero _)⟩
  | k + 1, a, h => by
    have h : sgD tx st 0 ((R : Int) - 1) (amS tx st R k) = .inr a := h
    cases e : amS tx st R k with
    | inl p =>
      rw [e] at h
      exact absurd (show (.inl p : rgs) = .inr a from h) (fun z => by cases z)
    | inr b =>
      obtain ⟨r, hh⟩ := amS_inr hR k b e
      rw [r] at e
      by_cases q : 48 ≤ hc tx st k ∧ hc tx st k ≤ (R : Int) + 47
      · have e2 := (amS_ok e q hR).symm.trans h
        cases e2
        refine ⟨rfl, fun i hi => ?_⟩
        rcases Nat.lt_or_ge i k with z | z
        · exact hh i z
        · have : i = k := by omega
          rw [this]; exact q
      · have e2 := (amS_no e q).symm.trans h
        cases e2
theorem amS_le (hR : R ≤ 6) {k a : Nat} (h : amS tx st R k = .inr a) : k ≤ st := by
  rcases Nat.lt_or_ge st k with q | q
  · have := (amS_inr hR k a h).2 st q
    unfold hc at this
    rw [if_neg (Nat.lt_irrefl _)] at this
    omega
  · exact q
theorem amS_inl (hR : R ≤ 6) : ∀ (k p : Nat), amS tx st R k = .inl p → p < k
  | 0, p, h => absurd (show (.inr 0 : rgs) = .inl p from h) (fun z => by cases z)
  | k + 1, p, h => by
    cases e : amS tx st R k with
    | inl p' =>
      have h2 := (amS_stay e 1).symm.trans h
      have := amS_inl hR k p' e
      cases h2
      omega
    | inr b =>
      obtain ⟨r, -⟩ := amS_inr hR k b e
      rw [r] at e
      by_cases q : 48 ≤ hc tx st k ∧ hc tx st k ≤ (R : Int) + 47
      · have e2 := (amS_ok e q hR).symm.trans h
        cases e2
      · have e2 := (amS_no e q).symm.trans h
        cases e2
        exact Nat.lt_succ_self _
end AMS
/-- what aim leaves at the class: o the places told, n how many -/
def amX (tx : Nat → Int) (L : Nat) (a : Int) (M M' : pM) : Prop := if 0 < a then M' 0 14 = (L : Int) ∧ ∀ t, t < L → M' 58 t = tx t - 48 else if L = 0 then M' 0 14 = 0 else M' 0 14 = M 0 14 ∧ ∀ t, M' 58 t = M 58 t
def amM (tx : Nat → Int) (L : Nat) (a : Int) (M M' : pM) : Prop := if 0 < a then M' 60 43 = (L : Int) ∧ M' 60 44 = 1 ∧ ∀ t, t < L → M' 81 t = tx t - 48 else if L = 0 then M' 60 44 = 0 else M' 60 43 = M 60 43 ∧ M' 60 44 = M 60 44 ∧ ∀ t, M' 81 t = M 81 t
section AMX
variable {tx : Nat → Int} {D d st L T R : Nat} {M : pM}
theorem x_cutL (hd : 1 ≤ d) (h1 : M 1 1 = (L : Int)) (hL : L ≤ 80) : xF d 153 [.inr 3, .inl 0] M = rI 1 (pset M 1 1 0) := by
  obtain ⟨D, rfl, -⟩ := dsucc hd
  rw [T_Text_cut, h1, if_neg (by rw [lt32_iff] <;> omega), if_pos (by rw [le32_iff] <;> omega)]
theorem x_at (hd : 2 ≤ d) (h1 : M 1 1 = (L : Int)) (hL : L ≤ 80) {k : Nat} (hk : k < L) : xF d 154 [.inr 3, .inl (k : Int)] M = rI (M 2 k) M := by
  obtain ⟨D, rfl, hD⟩ := dsucc hd
  obtain ⟨D', rfl, -⟩ := dsucc (show 1 ≤ D by omega)
  rw [T_Text_at, h1, if_neg (by rw [lt32_iff] <;> omega), if_neg (by rw [le32_iff] <;> omega), T_X_numberAt_2, if_neg (by rw [lt32_iff] <;> omega), if_neg (by rw [le32_iff] <;> omega), if_pos (by omega), Int.toNat_natCast, pbI_rI]
noncomputable def amF (tx : Nat → Int) (st R L T : Nat) : Int := match amS tx st R T with
  | .inl p => (p : Int)
  | .inr _ => if L ≤ st then -1 else (st : Int)
theorem x_am8 (hD : 4 ≤ D) (hR : R ≤ 6) (hT : T ≤ 10) (hL : L ≤ 80) : ∀ (m k : Nat) (M : pM), k + m = T → XSt tx st M (amS tx st R k) → M 7 9 = (R : Int) → M 7 10 = (T : Int) → M 1 1 = (L : Int) → ∃ M', xE D 56 8 [.inr 2, .inl (k : Int)] [] M = rI (amF tx st R L T) M' ∧ AGx M M' := by
  intro m
  induction m with
  | zero =>
    intro k M hk x h9 h10 h1
    have e : k = T := by omega
    rw [L_X_aimFault_8, h10, if_pos (by rw [le32_iff] <;> omega)]
    rw [e] at x
    unfold amF
    cases z : amS tx st R T with
    | inl p =>
      rw [z] at x
      rw [x_faultB (by omega) x, pbI_rI]
      exact ⟨M, rfl, AGx_rfl⟩
    | inr a =>
      rw [z] at x
      rw [x_faultG (by omega) x h1 hL, pbI_rI]
      exact ⟨M, rfl, AGx_rfl⟩
  | succ m ih =>
    intro k M hk x h9 h10 h1
    obtain ⟨v, M1, e1, x1, a1, -⟩ := x_digit (d := D) (by omega) x (lo := 0) (hi := (R : Int) - 1) (by decide) (by decide) (by omega) (by omega)
    rw [Int.sub_add_cancel] at e1
    rw [L_X_aimFault_8, h10, if_neg (by rw [le32_iff] <;> omega), h9, e1, pbI_rI]
    obtain ⟨M2, e2, a2⟩ := ih (k + 1) M1 (by omega) x1 (by rw [a1 7 9 (by omega)]; exact h9) (by rw [a1 7 10 (by omega)]; exact h10) (by rw [a1 1 1 (by omega)]; exact h1)
    exact ⟨M2, e2, AGx_tr a1 a2⟩
theorem x_aimFault (hd : 5 ≤ d) (hR : R ≤ 6) (hT : T ≤ 10) (hL : L ≤ 80) (h9 : M 7 9 = (R : Int)) (h10 : M 7 10 = (T : Int)) (h1 : M 1 1 = (L : Int)) (ht : ∀ i, i < 80 → M 2 i = ux (tx i)) (hx : ∀ i, i < 80 → -128 ≤ tx i ∧ tx i ≤ 127) : ∃ M', xF d 56 [.inr 2] M = rI (amF tx (min L T) R L T) M' ∧ ∀ o i, ¬ (o = 3 ∧ (i = 1 ∨ i = 2 ∨ i = 3)) → M' o i = M o i := by
  obtain ⟨D, rfl, hD⟩ := dsucc hd
  obtain ⟨D', rfl, -⟩ := dsucc (show 1 ≤ D by omega)
  have ej : jmin (L : Int) (T : Int) = ((min L T : Nat) : Int) := by
    rw [jmin_eq (by omega) (by omega) (by omega) (by omega)]; omega
  rw [T_X_aimFault, h10, T_Reader_start_3, pbN_rV, pset_ne (show 1 ≠ 3 by decide), pset_ne (show 1 ≠ 3 by decide), h1, ej]
  generalize hB : pset (pset (pset M 3 1 0) 3 3 (-1)) 3 2 ((min L T : Nat) : Int) = MB
  have eo : ∀ o i, ¬ (o = 3 ∧ (i = 1 ∨ i = 2 ∨ i = 3)) → MB o i = M o i := fun o i ho => by
    rw [← hB]
    unfold pset
    rw [if_neg (fun z => ho ⟨z.1, by omega⟩), if_neg (fun z => ho ⟨z.1, by omega⟩), if_neg (fun z => ho ⟨z.1, by omega⟩)]
  have xB : XSt tx (min L T) MB (amS tx (min L T) R 0) := by
    refine ⟨?_, by omega, fun i hi => by rw [eo 2 i (by omega)]; exact ht i hi, hx, ?_, ?_, ?_, by omega, ?_⟩
    · rw [← hB, pset_eq]
    · rw [← hB, pset_ne2 (by decide), pset_ne2 (by decide), pset_eq]; decide
    · rw [← hB, pset_ne2 (by decide), pset_ne2 (by decide), pset_eq]; decide
    · rw [← hB, pset_ne2 (by decide), pset_ne2 (by decide), pset_eq]; rfl
    · rw [← hB, pset_ne2 (by decide), pset_eq]
  obtain ⟨M', e, a⟩ := x_am8 (D := D' + 1) (by omega) hR hT hL T 0 MB (by omega) xB (by rw [eo 7 9 (by omega)]; exact h9) (by rw [eo 7 10 (by omega)]; exact h10) (by rw [eo 1 1 (by omega)]; exact h1)
  exact ⟨M', e, fun o i ho => (a o i (fun z => ho ⟨z.1, by omega⟩)).trans (eo o i ho)⟩
/-- what stays at the class's aim -/
def AGa (M M' : pM) : Prop := ∀ o i, o ≠ 3 → o ≠ 58 → ¬ (o = 1 ∧ i = 1) → ¬ (o = 0 ∧ i = 14) → M' o i = M o i
theorem x_am16 (hD : 3 ≤ D) (hL : L ≤ 10) (x2 : Int) (h2 : x2 = -1) : ∀ (m k : Nat) (M : pM), k + m = L → M 1 1 = (L : Int) → (∀ i, i < L → M 2 i = tx i) → (∀ i, i < L → -128 ≤ tx i ∧ tx i ≤ 127) → (∀ t, t < k → M 58 t = tx t - 48) → ∃ M', xE D 38 16 [.inr 2, .inl (L : Int), .inl x2, .inl (k : Int)] [] M = rI (L : Int) M' ∧ M' 1 1 = 0 ∧ M' 0 14 = (L : Int) ∧ (∀ t, t < L → M' 58 t = tx t - 48) ∧ AGa M M' := by
  intro m
  induction m with
  | zero =>
    intro k M hk h1 ht hx h58
    have e : k = L := by omega
    rw [L_X_aim_16, if_pos (by rw [le32_iff] <;> omega), x_cutL (L := L) (by omega) (by rw [pset_ne (by decide)]; exact h1) (by omega), pbI_rI, if_neg (fun z => z (by rw [h2]))]
    refine ⟨_, rfl, pset_eq, by rw [pset_ne (by decide), pset_eq], fun t ht2 => by rw [pset_ne (by decide), pset_ne (by decide)]; exact h58 t (by omega), fun o i a b c e => ?_⟩
    unfold pset
    rw [if_neg (fun z => c z), if_neg (fun z => e z)]
  | succ m ih =>
    intro k M hk h1 ht hx h58
    have hv := hx k (by omega)
    rw [L_X_aim_16, if_neg (by rw [le32_iff] <;> omega), if_neg (by rw [le32_iff] <;> omega), x_at (by omega) h1 (by omega) (show k < L by omega), pbI_rI, if_pos (by omega), Int.toNat_natCast, ht k (by omega)]
    obtain ⟨M', e, r1, r2, r3, r4⟩ := ih (k + 1) (pset M 58 k (tx k - 48)) (by omega) (by rw [pset_ne (by decide)]; exact h1) (fun i hi => by rw [pset_ne (by decide)]; exact ht i hi) hx (fun t ht2 => by
      by_cases q : t = k
      · rw [q, pset_eq]
      · rw [pset_ne2 q]; exact h58 t (by omega))
    exact ⟨M', e, r1, r2, r3, fun o i a b c e => by rw [r4 o i a b c e, pset_ne b]⟩
/-- the class's aim -/
theorem x_aim (hd : 6 ≤ d) (hR : R ≤ 6) (hT : T ≤ 10) (hL : L ≤ 80) (h9 : M 7 9 = (R : Int)) (h10 : M 7 10 = (T : Int)) (h1 : M 1 1 = (L : Int)) (ht : ∀ i, i < 80 → M 2 i = ux (tx i)) (hx : ∀ i, i < 80 → -128 ≤ tx i ∧ tx i ≤ 127) : ∃ M', xF d 38 [.inr 2] M = rI (amA tx L T R) M' ∧ M' 1 1 = 0 ∧ amX tx L (amA tx L T R) M M' ∧ AGa M M' := by
  obtain ⟨D, rfl, hD⟩ := dsucc hd
  rw [T_X_aim, h1]
  by_cases q : L = 0
  · have eA : amA tx L T R = 0 := if_pos q
    rw [if_neg (fun y => y (by rw [q]; rfl)), if_neg (fun y => y rfl), eA, q]
    rw [q] at h1
    obtain ⟨M', e, r1, r2, r3, r4⟩ := x_am16 (tx := tx) (L := 0) (D := D) (by omega) (by omega) (-1) rfl 0 0 M rfl h1 (fun i hi => absurd hi (Nat.not_lt_zero _)) (fun i hi => absurd hi (Nat.not_lt_zero _)) (fun i hi => absurd hi (Nat.not_lt_zero _))
    refine ⟨M', e, r1, ?_, r4⟩
    unfold amX
    rw [if_neg (by decide), if_pos rfl]; exact r2
  · obtain ⟨M1, e1, a1⟩ := x_aimFault (tx := tx) (d := D) (by omega) hR hT hL h9 h10 h1 ht hx
    have uA : amA tx L T R = match amS tx (min L T) R T with
      | .inl p => -1 - (p : Int)
      | .inr _ => if L ≤ T then (L : Int) else -1 - (T : Int) := if_neg q
    have k1 : M1 1 1 = (L : Int) := by rw [a1 1 1 (by omega)]; exact h1
    have k0 : M1 0 14 = M 0 14 := a1 0 14 (by omega)
    have bad : ∀ z : Nat, z ≤ 10 → amF tx (min L T) R L T = (z : Int) → amA tx L T R = -1 - (z : Int) → ∃ M', (if ¬ eq32 (amF tx (min L T) R L T) (-1) then pbI (xF D 153 [.inr 3, .inl 0] M1) fun v4 M3 => if ¬ eq32 (amF tx (min L T) R L T) (-1) then rI (-1 - amF tx (min L T) R L T) M3 else rI (L : Int) M3 else xE D 38 16 [.inr 2, .inl (L : Int), .inl (amF tx (min L T) R L T), .inl 0] [] M1) = rI (amA tx L T R) M' ∧ M' 1 1 = 0 ∧ amX tx L (amA tx L T R) M M' ∧ AGa M M' := by
      intro z hz ez eA
      rw [ez, eA, if_pos (by rw [eq32_iff] <;> omega), x_cutL (by omega) k1 hL, pbI_rI, if_pos (by rw [eq32_iff] <;> omega)]
      refine ⟨_, rfl, pset_eq, ?_, fun o i a b c e => ?_⟩
      · unfold amX
        rw [if_neg (by omega), if_neg q]
        exact ⟨by rw [pset_ne (by decide)]; exact k0, fun t => by rw [pset_ne (by decide)]; exact a1 58 t (by omega)⟩
      · unfold pset
        rw [if_neg (fun z => c z)]
        exact a1 o i (fun z => a z.1)
    rw [if_pos (by rw [eq32_iff] <;> omega), e1, pbI_rI]
    cases z : amS tx (min L T) R T with
    | inl p =>
      have := amS_inl hR T p z
      exact bad p (by omega) (by unfold amF; rw [z]) (by rw [uA, z])
    | inr a =>
      have l1 := amS_le hR z
      have l2 := (amS_inr hR T a z).2
      by_cases q2 : L ≤ T
      · have e2 : L = T := by omega
        have ez : amF tx (min L T) R L T = -1 := by
          unfold amF; rw [z]; exact if_pos (by omega)
        have eA : amA tx L T R = (L : Int) := by rw [uA, z]; exact if_pos q2
        have dg : ∀ i, i < L → 48 ≤ tx i := fun i hi => by
          have := (l2 i (by omega)).1
          unfold hc at this
          rw [if_pos (by omega)] at this; exact this
        rw [ez, eA, if_neg (fun y => y rfl)]
        obtain ⟨M', e, r1, r2, r3, r4⟩ := x_am16 (tx := tx) (L := L) (D := D) (by omega) (by omega) (-1) rfl L 0 M1 (by omega) k1 (fun i hi => by
          rw [a1 2 i (by omega), ht i (by omega)]
          unfold ux
          rw [if_neg (by have := dg i hi; omega)]) (fun i hi => hx i (by omega)) (fun i hi => absurd hi (Nat.not_lt_zero _))
        refine ⟨M', e, r1, ?_, fun o i a b c e => (r4 o i a b c e).trans (a1 o i (fun z => a z.1))⟩
        unfold amX
        rw [if_pos (by omega)]; exact ⟨r2, r3⟩
      · exact bad T hT (by unfold amF; rw [z]; show (if _ then _ else _) = _; rw [if_neg (by omega)]; omega) (by rw [uA, z]; exact if_neg q2)
/-! the reference's aim -/
def AGb (M M' : pM) : Prop := ∀ o i, o ≠ 81 → ¬ (o = 60 ∧ (i = 14 ∨ i = 17 ∨ i = 43 ∨ i = 44)) → M' o i = M o i
theorem m_am54 (hL : L ≤ 10) : ∀ (m k : Nat) (M : pM), k + m = L → (∀ i, i < L → M 68 i = tx i) → (∀ i, i < L → -128 ≤ tx i ∧ tx i ≤ 127) → (∀ t, t < k → M 81 t = tx t - 48) → ∃ M', xE D 255 54 [.inr 62, .inl (L : Int), .inl (k : Int)] [] M = rI (L : Int) M' ∧ M' 60 43 = (L : Int) ∧ M' 60 44 = 1 ∧ (∀ t, t < L → M' 81 t = tx t - 48) ∧ M' 60 14 = M 60 14 ∧ AGb M M' := by
  intro m
  induction m with
  | zero =>
    intro k M hk ht hx h81
    have e : k = L := by omega
    rw [L_M_aim_54, if_pos (by rw [le32_iff] <;> omega)]
    refine ⟨_, rfl, by rw [pset_ne2 (by decide), pset_eq], pset_eq, fun t h => by rw [pset_ne (by decide), pset_ne (by decide)]; exact h81 t (by omega), by rw [pset_ne2 (by decide), pset_ne2 (by decide)], fun o i a b => ?_⟩
    unfold pset
    rw [if_neg (fun z => b ⟨z.1, by omega⟩), if_neg (fun z => b ⟨z.1, by omega⟩)]
  | succ m ih =>
    intro k M hk ht hx h81
    have hv := hx k (by omega)
    rw [L_M_aim_54, if_neg (by rw [le32_iff] <;> omega), if_pos (by omega), if_pos (by omega), Int.toNat_natCast, ht k (by omega)]
    obtain ⟨M', e, r1, r2, r3, r4, r5⟩ := ih (k + 1) (pset M 81 k (tx k - 48)) (by omega) (fun i hi => by rw [pset_ne (by decide)]; exact ht i hi) hx (fun t ht2 => by
      by_cases q : t = k
      · rw [q, pset_eq]
      · rw [pset_ne2 q]; exact h81 t (by omega))
    exact ⟨M', e, r1, r2, r3, by rw [r4, pset_ne (by decide)], fun o i a b => by rw [r5 o i a b, pset_ne a]⟩
theorem m_am18 (hD : 1 ≤ D) (hR : R ≤ 6) (hT : T ≤ 10) (hL : L ≤ 80) (hL0 : L ≠ 0) (h0 : M 60 0 = (R : Int)) (h3 : M 60 3 = (T : Int)) (ht : ∀ i, i < 80 → M 68 i = tx i) (hx : ∀ i, i < 80 → -128 ≤ tx i ∧ tx i ≤ 127) : ∀ (m k : Nat), k + m = L → k ≤ T → amS tx (min L T) R k = .inr k → ∃ M', xE D 255 18 [.inr 62, .inl (L : Int), .inl (k : Int)] [] M = rI (amA tx L T R) M' ∧ M' 60 14 = M 60 14 ∧ amM tx L (amA tx L T R) M M' ∧ AGb M M' := by
  have uA : amA tx L T R = match amS tx (min L T) R T with
      | .inl p => -1 - (p : Int)
      | .inr _ => if L ≤ T then (L : Int) else -1 - (T : Int) := if_neg hL0
  have bad : ∀ k : Nat, amA tx L T R = -1 - (k : Int) → ∃ M', (rI (-1 - (k : Int)) M : Option pR) = rI (amA tx L T R) M' ∧ M' 60 14 = M 60 14 ∧ amM tx L (amA tx L T R) M M' ∧ AGb M M' := by
    intro k e
    refine ⟨M, by rw [e], rfl, ?_, fun _ _ _ _ => rfl⟩
    unfold amM
    rw [if_neg (by omega), if_neg hL0]
    exact ⟨rfl, rfl, fun _ => rfl⟩
  have stop : ∀ k : Nat, k < T → amS tx (min L T) R (k + 1) = .inl k → amA tx L T R = -1 - (k : Int) := by
    intro k hk e
    have := amS_stay e (T - (k + 1))
    rw [show k + 1 + (T - (k + 1)) = T by omega] at this
    rw [uA, this]
  intro m
  induction m with
  | zero =>
    intro k hk hkT hs
    have e : k = L := by omega
    rw [L_M_aim_18, if_pos (by rw [le32_iff] <;> omega), h3]
    by_cases q : T ≤ L
    · have e2 : T = k := by omega
      have hs2 : amS tx (min L T) R T = .inr T := by
        have z := hs
        rw [← e2] at z
        exact z
      have eA : amA tx L T R = (L : Int) := by rw [uA, hs2]; exact if_pos (by omega)
      have l2 := (amS_inr hR k k hs).2
      have dg : ∀ i, i < L → 48 ≤ tx i := fun i hi => by
        have := (l2 i (by omega)).1
        unfold hc at this
        rw [if_pos (by omega)] at this; exact this
      rw [if_pos (by rw [le32_iff] <;> omega)]
      obtain ⟨M', e3, r1, r2, r3, r4, r5⟩ := m_am54 (tx := tx) (D := D) (L := L) (by omega) L 0 M (by omega) (fun i hi => ht i (by omega)) (fun i hi => hx i (by omega)) (fun t ht => absurd ht (Nat.not_lt_zero _))
      refine ⟨M', e3.trans (by rw [eA]), r4, ?_, r5⟩
      unfold amM
      rw [if_pos (by omega)]; exact ⟨r1, r2, r3⟩
    · rw [if_neg (by rw [le32_iff] <;> omega)]
      have := stop k (by omega) (amS_no hs (fun z => by
        unfold hc at z
        rw [if_neg (by omega)] at z
        omega))
      rw [e] at this
      exact bad L this
  | succ m ih =>
    intro k hk hkT hs
    rw [L_M_aim_18, if_neg (by rw [le32_iff] <;> omega), h3]
    by_cases q : k = T
    · rw [if_pos (by rw [q])]
      have hs2 : amS tx (min L T) R T = .inr T := by
        have z := hs
        rw [q] at z
        exact z
      exact bad k (by rw [uA, hs2]; show (if _ then _ else _) = _; rw [if_neg (by omega), q])
    · have hv := hx k (by omega)
      have eh : hc tx (min L T) k = tx k := if_pos (by omega)
      rw [if_neg (by rw [eq32_iff] <;> omega), if_pos (by omega), Int.toNat_natCast, ht k (by omega), h0, m_in hD, pbI_rI]
      by_cases q2 : 48 ≤ hc tx (min L T) k ∧ hc tx (min L T) k ≤ (R : Int) + 47
      · rw [if_neg (show ¬ (lt32 (tx k) 48 ∨ lt32 (48 + (R : Int) - 1) (tx k)) by
          rw [lt32_iff (by omega) (by omega) (by omega) (by omega), lt32_iff (by omega) (by omega) (by omega) (by omega)]; omega), if_pos (by decide)]
        exact ih (k + 1) (by omega) (by omega) (amS_ok hs q2 hR)
      · rw [if_pos (show (lt32 (tx k) 48 ∨ lt32 (48 + (R : Int) - 1) (tx k)) by
          rw [lt32_iff (by omega) (by omega) (by omega) (by omega), lt32_iff (by omega) (by omega) (by omega) (by omega)]; omega), if_neg (fun z => z rfl)]
        exact bad k (stop k (by omega) (amS_no hs q2))
theorem m_aim (hd : 2 ≤ d) (hR : R ≤ 6) (hT : T ≤ 10) (hL : L ≤ 80) (h0 : M 60 0 = (R : Int)) (h3 : M 60 3 = (T : Int)) (h14 : M 60 14 = (L : Int)) (ht : ∀ i, i < 80 → M 68 i = tx i) (hx : ∀ i, i < 80 → -128 ≤ tx i ∧ tx i ≤ 127) : ∃ M', xF d 255 [.inr 62] M = rI (amA tx L T R) M' ∧ M' 60 14 = 0 ∧ amM tx L (amA tx L T R) M M' ∧ AGb M M' := by
  obtain ⟨D, rfl, hD⟩ := dsucc hd
  rw [T_M_aim, pset_ne2 (show 14 ≠ 17 by decide), h14]
  by_cases q : L = 0
  · have eA : amA tx L T R = 0 := if_pos q
    rw [if_neg (fun y => y (by rw [q]; rfl)), eA]
    refine ⟨_, rfl, by rw [pset_ne2 (by decide), pset_eq], ?_, fun o i a b => ?_⟩
    · unfold amM
      rw [if_neg (by decide), if_pos q]; exact pset_eq
    · unfold pset
      rw [if_neg (fun z => b ⟨z.1, by omega⟩), if_neg (fun z => b ⟨z.1, by omega⟩), if_neg (fun z => b ⟨z.1, by omega⟩)]
  · rw [if_pos (by rw [eq32_iff] <;> omega)]
    obtain ⟨M', e, r1, r2, r3⟩ := m_am18 (tx := tx) (M := pset (pset M 60 17 0) 60 14 0) (D := D) (by omega) hR hT hL q (by rw [pset_ne2 (by decide), pset_ne2 (by decide)]; exact h0) (by rw [pset_ne2 (by decide), pset_ne2 (by decide)]; exact h3) (fun i hi => by rw [pset_ne (by decide), pset_ne (by decide)]; exact ht i hi) hx L 0 (by omega) (by omega) rfl
    refine ⟨M', e, by rw [r1, pset_eq], ?_, fun o i a b => ?_⟩
    · unfold amM at r2 ⊢
      by_cases z : 0 < amA tx L T R
      · rw [if_pos z] at r2 ⊢; exact r2
      · rw [if_neg z] at r2 ⊢
        rw [if_neg q] at r2 ⊢
        exact ⟨by rw [r2.1, pset_ne2 (by decide), pset_ne2 (by decide)], by rw [r2.2.1, pset_ne2 (by decide), pset_ne2 (by decide)], fun t => by rw [r2.2.2 t, pset_ne (by decide), pset_ne (by decide)]⟩
    · rw [r3 o i a b]
      unfold pset
      rw [if_neg (fun z => b ⟨z.1, by omega⟩), if_neg (fun z => b ⟨z.1, by omega⟩)]
end AMX
/-! sheet, on both sides -/
def shC (k v : Int) : Int := jmax 1 (jmin 9 (if k = 0 then jb v else if k = 1 then js v else v))
/-- the weight of thing t by a sheet -/
def shW (k n f s : Int) (t : Nat) : Int := if k = 3 ∨ n ≤ (t : Int) then 1 else shC k (f + (t : Int) * s)
def shA (k n f s : Int) (T : Nat) : Int := if k < 0 ∨ 3 < k ∨ 10 < n then -1 else if k = 3 then -3 else if n < 0 then -2 else sumTo (shW k n f s) T
def shZ (k n f s : Int) (T : Nat) (p : Nat → Int) (i : Nat) : Int := if ((0 ≤ k ∧ k ≤ 3 ∧ n ≤ 10) ∧ (k = 3 ∨ 0 ≤ n)) ∧ i < T then shW k n f s i else p i
section SH
variable {D d T : Nat} {k n f s : Int} {M : pM}
theorem x_sh4 (hT : T ≤ 10) (hk : 0 ≤ k ∧ k ≤ 2) (hn : -2147483648 ≤ n ∧ n ≤ 10) : ∀ (m t : Nat) (y7 y8 : pV) (M : pM), t + m = T → M 7 10 = (T : Int) → (∀ i, i < t → M 12 i = shW k n f s i) → ∃ M', xE D 76 4 [.inr 9, .inl k, .inl n, .inl f, .inl s, .inl (sumTo (shW k n f s) t), .inl (t : Int), y7, y8] [] M = rI (sumTo (shW k n f s) T) M' ∧ (∀ i, i < T → M' 12 i = shW k n f s i) ∧ (∀ i, T ≤ i → M' 12 i = M 12 i) ∧ ∀ o i, o ≠ 12 → M' o i = M o i := by
  intro m
  induction m with
  | zero =>
    intro t y7 y8 M ht h10 hi
    have e : t = T := by omega
    rw [L_House_weigh_4, h10, if_pos (by rw [le32_iff] <;> omega), e]
    exact ⟨M, rfl, fun i h => hi i (by omega), fun _ _ => rfl, fun _ _ _ => rfl⟩
  | succ m ih =>
    intro t y7 y8 M ht h10 hi
    have e1 : ((t : Int) + 1) = ((t + 1 : Nat) : Int) := by omega
    have t1 : (0 : Int) ≤ (t : Int) ∧ (t : Int) < 10 := by omega
    have go : ∀ (v : Int) (y7 y8 : pV), v = shW k n f s t → ∃ M', xE D 76 4 [.inr 9, .inl k, .inl n, .inl f, .inl s, .inl (sumTo (shW k n f s) t + v), .inl ((t + 1 : Nat) : Int), y7, y8] [] (pset M 12 t v) = rI (sumTo (shW k n f s) T) M' ∧ (∀ i, i < T → M' 12 i = shW k n f s i) ∧ (∀ i, T ≤ i → M' 12 i = M 12 i) ∧ ∀ o i, o ≠ 12 → M' o i = M o i := by
      intro v y7 y8 hv
      obtain ⟨M', e, r1, r2, r3⟩ := ih (t + 1) y7 y8 (pset M 12 t v) (by omega) (by rw [pset_ne (by decide)]; exact h10) (fun i h => by
        by_cases q : i = t
        · rw [q, pset_eq, hv]
        · rw [pset_ne2 q]; exact hi i (by omega))
      have es : sumTo (shW k n f s) t + v = sumTo (shW k n f s) (t + 1) := by rw [hv]; rfl
      rw [es]
      exact ⟨M', e, r1, fun i h => by rw [r2 i h, pset_ne2 (by omega)], fun o i h => by rw [r3 o i h, pset_ne h]⟩
    rw [L_House_weigh_4, h10, if_neg (by rw [le32_iff] <;> omega)]
    simp only [if_pos t1, Int.toNat_natCast, e1, pset_eq]
    by_cases qn : n ≤ (t : Int)
    · have hw : shW k n f s t = 1 := if_pos (Or.inr qn)
      rw [if_pos (by rw [le32_iff] <;> omega)]
      by_cases q0 : k = 0
      · rw [if_neg (fun z => z (by rw [q0]))]
        exact go _ _ _ (by rw [hw]; decide +kernel)
      · rw [if_pos (by rw [eq32_iff] <;> omega)]
        by_cases q1 : k = 1
        · rw [if_neg (fun z => z (by rw [q1]))]
          exact go _ _ _ (by rw [hw]; decide +kernel)
        · rw [if_pos (by rw [eq32_iff] <;> omega)]
          exact go _ _ _ (by rw [hw]; decide +kernel)
    · have hw : shW k n f s t = shC k (f + (t : Int) * s) := if_neg (by omega)
      rw [if_neg (by rw [le32_iff] <;> omega)]
      by_cases q0 : k = 0
      · rw [if_neg (fun z => z (by rw [q0]))]
        exact go _ _ _ (by rw [hw]; unfold shC; rw [if_pos q0])
      · rw [if_pos (by rw [eq32_iff] <;> omega)]
        by_cases q1 : k = 1
        · rw [if_neg (fun z => z (by rw [q1]))]
          exact go _ _ _ (by rw [hw]; unfold shC; rw [if_neg q0, if_pos q1])
        · rw [if_pos (by rw [eq32_iff] <;> omega)]
          exact go _ _ _ (by rw [hw]; unfold shC; rw [if_neg q0, if_neg q1])
theorem x_weigh (hd : 1 ≤ d) (hT : T ≤ 10) (hk : 0 ≤ k ∧ k ≤ 2) (hn : -2147483648 ≤ n ∧ n ≤ 10) (h10 : M 7 10 = (T : Int)) : ∃ M', xF d 76 [.inr 9, .inl k, .inl n, .inl f, .inl s] M = rI (sumTo (shW k n f s) T) M' ∧ (∀ i, i < T → M' 12 i = shW k n f s i) ∧ (∀ i, T ≤ i → M' 12 i = M 12 i) ∧ ∀ o i, o ≠ 12 → M' o i = M o i := by
  obtain ⟨D, rfl, -⟩ := dsucc hd
  rw [T_House_weigh]
  exact x_sh4 hT hk hn T 0 _ _ M (by omega) h10 (fun i h => absurd h (Nat.not_lt_zero _))
theorem x_sheet (hd : 2 ≤ d) (hT : T ≤ 10) (hk : -2147483648 ≤ k ∧ k ≤ 2147483647) (hn : -2147483648 ≤ n ∧ n ≤ 2147483647) (h10 : M 7 10 = (T : Int)) : ∃ M', xF d 10 [.inr 2, .inl k, .inl n, .inl f, .inl s] M = rI (shA k n f s T) M' ∧ (∀ i, M' 12 i = shZ k n f s T (M 12) i) ∧ ∀ o i, o ≠ 12 → M' o i = M o i := by
  obtain ⟨D, rfl, hD⟩ := dsucc hd
  have no : ∀ a : Int, shA k n f s T = a → ¬ ((0 ≤ k ∧ k ≤ 3 ∧ n ≤ 10) ∧ (k = 3 ∨ 0 ≤ n)) → ∃ M', (rI a M : Option pR) = rI (shA k n f s T) M' ∧ (∀ i, M' 12 i = shZ k n f s T (M 12) i) ∧ ∀ o i, o ≠ 12 → M' o i = M o i := fun a ha h => ⟨M, by rw [ha], fun i => (if_neg (fun z => h z.1)).symm, fun _ _ _ => rfl⟩
  have z3 : ∀ a b : Int, ∀ M' : pM, shA k n f s T = a → ((0 ≤ k ∧ k ≤ 3 ∧ n ≤ 10) ∧ (k = 3 ∨ 0 ≤ n)) → (∀ i, i < T → M' 12 i = shW k n f s i) → (∀ i, T ≤ i → M' 12 i = M 12 i) → (∀ o i, o ≠ 12 → M' o i = M o i) → ∃ M'', (rI a M' : Option pR) = rI (shA k n f s T) M'' ∧ (∀ i, M'' 12 i = shZ k n f s T (M 12) i) ∧ ∀ o i, o ≠ 12 → M'' o i = M o i := fun a b M' ha h r1 r2 r3 => ⟨M', by rw [ha], fun i => by
    unfold shZ
    by_cases q : i < T
    · rw [if_pos ⟨h, q⟩]; exact r1 i q
    · rw [if_neg (fun z => q z.2)]; exact r2 i (by omega), r3⟩
  rw [T_X_sheet]
  by_cases a1 : k < 0
  · rw [if_pos (by rw [lt32_iff] <;> omega)]
    exact no _ (if_pos (Or.inl a1)) (by omega)
  · rw [if_neg (by rw [lt32_iff] <;> omega)]
    by_cases a2 : 3 < k
    · rw [if_pos (by rw [lt32_iff] <;> omega)]
      exact no _ (if_pos (Or.inr (Or.inl a2))) (by omega)
    · rw [if_neg (by rw [lt32_iff] <;> omega)]
      by_cases a3 : 10 < n
      · rw [if_neg (by rw [le32_iff] <;> omega)]
        exact no _ (if_pos (Or.inr (Or.inr a3))) (by omega)
      · rw [if_pos (by rw [le32_iff] <;> omega)]
        have u : shA k n f s T = if k = 3 then -3 else if n < 0 then -2 else sumTo (shW k n f s) T := if_neg (by omega)
        by_cases a4 : k = 3
        · rw [if_neg (fun z => z (by rw [a4]))]
          obtain ⟨M', e, r1, r2, r3⟩ := x_weigh (d := D) (by omega) hT (k := 2) (n := 0) (f := 0) (s := 0) (by decide) (by decide) h10
          rw [e, pbI_rI]
          refine z3 _ 0 M' (by rw [u, if_pos a4]) (by omega) (fun i hi => ?_) r2 r3
          rw [r1 i hi]
          unfold shW
          rw [if_pos (Or.inr (by omega)), if_pos (Or.inl a4)]
        · rw [if_pos (by rw [eq32_iff] <;> omega)]
          by_cases a5 : n < 0
          · rw [if_neg (by rw [le32_iff] <;> omega)]
            exact no _ (by rw [u, if_neg a4, if_pos a5]) (by omega)
          · rw [if_pos (by rw [le32_iff] <;> omega)]
            obtain ⟨M', e, r1, r2, r3⟩ := x_weigh (d := D) (by omega) hT (k := k) (n := n) (f := f) (s := s) (by omega) (by omega) h10
            rw [e, pbI_rI]
            exact z3 _ 0 M' (by rw [u, if_neg a4, if_neg a5]) (by omega) r1 r2 r3
theorem m_sh26F (hT : T ≤ 10) (hk : 0 ≤ k ∧ k ≤ 3) (hn : -2147483648 ≤ n ∧ n ≤ 10) : ∀ (m t : Nat) (y8 : pV) (M : pM), t + m = T → M 60 3 = (T : Int) → (∀ i, i < t → M 65 i = shW k n f s i) → ∃ M', xE D 206 26 [.inr 62, .inl k, .inl n, .inl f, .inl s, .inl (sumTo (shW k n f s) t), .inl (f + (t : Int) * s), .inl (t : Int), y8] [] M = rI (if k = 3 then -3 else sumTo (shW k n f s) T) M' ∧ (∀ i, i < T → M' 65 i = shW k n f s i) ∧ (∀ i, T ≤ i → M' 65 i = M 65 i) ∧ ∀ o i, o ≠ 65 → M' o i = M o i := by
  intro m
  induction m with
  | zero =>
    intro t y8 M ht h3 hi
    have e : t = T := by omega
    rw [L_M_sheet_26, h3, if_pos (by rw [le32_iff] <;> omega), e]
    by_cases q : k = 3
    · rw [if_neg (fun z => z (by rw [q])), if_pos q]
      exact ⟨M, rfl, fun i h => hi i (by omega), fun _ _ => rfl, fun _ _ _ => rfl⟩
    · rw [if_pos (by rw [eq32_iff] <;> omega), if_neg q]
      exact ⟨M, rfl, fun i h => hi i (by omega), fun _ _ => rfl, fun _ _ _ => rfl⟩
  | succ m ih =>
    intro t y8 M ht h3 hi
    have e1 : ((t : Int) + 1) = ((t + 1 : Nat) : Int) := by omega
    have e2 : f + (t : Int) * s + s = f + ((t + 1 : Nat) : Int) * s := by
      rw [← e1, Int.add_mul]; omega
    have t1 : (0 : Int) ≤ (t : Int) ∧ (t : Int) < 10 := by omega
    have go : ∀ (v : Int) (y8 : pV), v = shW k n f s t → ∃ M', xE D 206 26 [.inr 62, .inl k, .inl n, .inl f, .inl s, .inl (sumTo (shW k n f s) t + v), .inl (f + ((t + 1 : Nat) : Int) * s), .inl ((t + 1 : Nat) : Int), y8] [] (pset M 65 t v) = rI (if k = 3 then -3 else sumTo (shW k n f s) T) M' ∧ (∀ i, i < T → M' 65 i = shW k n f s i) ∧ (∀ i, T ≤ i → M' 65 i = M 65 i) ∧ ∀ o i, o ≠ 65 → M' o i = M o i := by
      intro v y8 hv
      obtain ⟨M', e, r1, r2, r3⟩ := ih (t + 1) y8 (pset M 65 t v) (by omega) (by rw [pset_ne (by decide)]; exact h3) (fun i h => by
        by_cases q : i = t
        · rw [q, pset_eq, hv]
        · rw [pset_ne2 q]; exact hi i (by omega))
      have es : sumTo (shW k n f s) t + v = sumTo (shW k n f s) (t + 1) := by rw [hv]; rfl
      rw [es]
      exact ⟨M', e, r1, fun i h => by rw [r2 i h, pset_ne2 (by omega)], fun o i h => by rw [r3 o i h, pset_ne h]⟩
    rw [L_M_sheet_26, h3, if_neg (by rw [le32_iff] <;> omega)]
    simp only [if_pos t1, Int.toNat_natCast, e1, e2, pset_eq]
    by_cases q3 : k = 3
    · have hw : shW k n f s t = 1 := if_pos (Or.inl q3)
      rw [if_pos (by rw [eq32_iff] <;> omega), if_pos (by rw [eq32_iff] <;> omega), if_pos (show eq32 k 3 by rw [q3])]
      exact go _ _ hw.symm
    · have n3 : ¬ eq32 k 3 := by rw [eq32_iff] <;> omega
      simp only [if_neg n3]
      by_cases qn : n ≤ (t : Int)
      · have hw : shW k n f s t = 1 := if_pos (Or.inr qn)
        have nl : ¬ lt32 (t : Int) n := by rw [lt32_iff] <;> omega
        simp only [if_neg nl]
        by_cases q0 : k = 0
        · rw [if_neg (fun z => z (by rw [q0]))]
          exact go _ _ hw.symm
        · rw [if_pos (by rw [eq32_iff] <;> omega)]
          by_cases q1 : k = 1
          · rw [if_neg (fun z => z (by rw [q1]))]
            exact go _ _ hw.symm
          · rw [if_pos (by rw [eq32_iff] <;> omega)]
            exact go _ _ hw.symm
      · have hw : shW k n f s t = shC k (f + (t : Int) * s) := if_neg (by omega)
        have nl : lt32 (t : Int) n := by rw [lt32_iff] <;> omega
        simp only [if_pos nl]
        by_cases q0 : k = 0
        · rw [if_neg (fun z => z (by rw [q0]))]
          exact go _ _ (by rw [hw]; unfold shC; rw [if_pos q0])
        · rw [if_pos (by rw [eq32_iff] <;> omega)]
          by_cases q1 : k = 1
          · rw [if_neg (fun z => z (by rw [q1]))]
            exact go _ _ (by rw [hw]; unfold shC; rw [if_neg q0, if_pos q1])
          · rw [if_pos (by rw [eq32_iff] <;> omega)]
            exact go _ _ (by rw [hw]; unfold shC; rw [if_neg q0, if_neg q1])
theorem m_sheet (hd : 2 ≤ d) (hT : T ≤ 10) (hk : -2147483648 ≤ k ∧ k ≤ 2147483647) (hn : -2147483648 ≤ n ∧ n ≤ 2147483647) (h3 : M 60 3 = (T : Int)) : ∃ M', xF d 206 [.inr 62, .inl k, .inl n, .inl f, .inl s] M = rI (shA k n f s T) M' ∧ (∀ i, M' 65 i = shZ k n f s T (M 65) i) ∧ ∀ o i, o ≠ 65 → ¬ (o = 60 ∧ i = 17) → M' o i = M o i := by
  obtain ⟨D, rfl, hD⟩ := dsucc hd
  have no : ∀ a : Int, shA k n f s T = a → ¬ ((0 ≤ k ∧ k ≤ 3 ∧ n ≤ 10) ∧ (k = 3 ∨ 0 ≤ n)) → ∃ M', (rI a (pset M 60 17 0) : Option pR) = rI (shA k n f s T) M' ∧ (∀ i, M' 65 i = shZ k n f s T (M 65) i) ∧ ∀ o i, o ≠ 65 → ¬ (o = 60 ∧ i = 17) → M' o i = M o i := fun a ha h => ⟨_, by rw [ha], fun i => by
    unfold shZ
    rw [if_neg (fun z => h z.1), pset_ne (by decide)], fun o i _ q => by
    unfold pset
    rw [if_neg (fun z => q z)]⟩
  have go : shA k n f s T = (if k = 3 then -3 else sumTo (shW k n f s) T) → ((0 ≤ k ∧ k ≤ 3 ∧ n ≤ 10) ∧ (k = 3 ∨ 0 ≤ n)) → ∃ M', xE D 206 26 [.inr 62, .inl k, .inl n, .inl f, .inl s, .inl 0, .inl f, .inl 0, .inr 0] [] (pset M 60 17 0) = rI (shA k n f s T) M' ∧ (∀ i, M' 65 i = shZ k n f s T (M 65) i) ∧ ∀ o i, o ≠ 65 → ¬ (o = 60 ∧ i = 17) → M' o i = M o i := by
    intro u h
    obtain ⟨M', e, r1, r2, r3⟩ := m_sh26F (D := D) (k := k) (n := n) (f := f) (s := s) hT (by omega) (by omega) T 0 (.inr 0) (pset M 60 17 0) (by omega) (by rw [pset_ne2 (by decide)]; exact h3) (fun i h => absurd h (Nat.not_lt_zero _))
    have e0 : f + ((0 : Nat) : Int) * s = f := by rw [show ((0 : Nat) : Int) = 0 from rfl, Int.zero_mul, Int.add_zero]
    rw [e0] at e
    refine ⟨M', by rw [u]; exact e, fun i => ?_, fun o i q z => ?_⟩
    · unfold shZ
      by_cases q : i < T
      · rw [if_pos ⟨h, q⟩]; exact r1 i q
      · rw [if_neg (fun z => q z.2), r2 i (by omega), pset_ne (by decide)]
    · rw [r3 o i q]
      unfold pset
      rw [if_neg (fun y => z y)]
  rw [T_M_sheet, m_in (by omega), pbI_rI]
  by_cases a1 : k < 0 ∨ 3 < k
  · rw [if_pos (show lt32 k 0 ∨ lt32 3 k by rw [lt32_iff (by omega) (by omega) (by omega) (by omega), lt32_iff (by omega) (by omega) (by omega) (by omega)]; exact a1), if_pos rfl]
    exact no _ (if_pos (by omega)) (by omega)
  · rw [if_neg (show ¬ (lt32 k 0 ∨ lt32 3 k) by rw [lt32_iff (by omega) (by omega) (by omega) (by omega), lt32_iff (by omega) (by omega) (by omega) (by omega)]; exact a1), if_neg (by decide)]
    by_cases a3 : 10 < n
    · rw [if_neg (by rw [le32_iff] <;> omega)]
      exact no _ (if_pos (Or.inr (Or.inr a3))) (by omega)
    · rw [if_pos (by rw [le32_iff] <;> omega)]
      have u : shA k n f s T = if k = 3 then -3 else if n < 0 then -2 else sumTo (shW k n f s) T := if_neg (by omega)
      by_cases a4 : k = 3
      · rw [if_pos (by rw [le32_iff] <;> omega)]
        exact go (by rw [u, if_pos a4, if_pos a4]) (by omega)
      · rw [if_neg (by rw [le32_iff] <;> omega)]
        by_cases a5 : n < 0
        · rw [if_neg (by rw [le32_iff] <;> omega)]
          exact no _ (by rw [u, if_neg a4, if_pos a5]) (by omega)
        · rw [if_pos (by rw [le32_iff] <;> omega)]
          exact go (by rw [u, if_neg a4, if_neg a5, if_neg a4]) (by omega)
end SH
/-! steps: both sides count the same -/
def eg (h : pM) (w : Int) (a b : Nat) : Prop := a = b ∨ w ≤ h 2 (6 * a + b)
section STP
variable {h : pM} {w : Int}
theorem rch_bit {a b n : Nat} (hb : b < 6) : (rch h w a (n + 1)).testBit b = true ↔ ∃ c, c < 6 ∧ (rch h w a n).testBit c = true ∧ eg h w c b := by
  show (oneL (rch h w a n) (fun p => decide (w ≤ h 2 p)) 36).testBit b = true ↔ _
  rw [oneL_bit]
  constructor
  · rintro (q | ⟨p, p1, p2, p3, p4⟩)
    · exact ⟨b, hb, q, Or.inl rfl⟩
    · refine ⟨p / 6, by omega, p3, Or.inr ?_⟩
      rw [show 6 * (p / 6) + b = p by omega]
      exact of_decide_eq_true p4
  · rintro ⟨c, c1, c2, c3⟩
    rcases c3 with rfl | c3
    · exact Or.inl c2
    · exact Or.inr ⟨6 * c + b, by omega, by omega, by rw [show (6 * c + b) / 6 = c by omega]; exact c2, decide_eq_true c3⟩
theorem rch_zero {a b : Nat} : (rch h w a 0).testBit b = true ↔ a = b := by
  show (2 ^ a).testBit b = true ↔ _
  rw [Nat.testBit_two_pow]; exact decide_eq_true_iff
theorem rch_lt6 {a b n : Nat} (ha : a < 6) (hb : (rch h w a n).testBit b = true) : b < 6 := by
  rcases Nat.lt_or_ge b 6 with q | q
  · exact q
  · have h1 := rch_lt (h := h) (w := w) ha n
    have h2 : rch h w a n < 2 ^ b := Nat.lt_of_lt_of_le h1 (Nat.pow_le_pow_right (n := 2) (i := 6) (by decide) q)
    rw [Nat.testBit_lt_two_pow h2] at hb
    cases hb
theorem rch_mono {a b n : Nat} (hb : (rch h w a n).testBit b = true) : (rch h w a (n + 1)).testBit b = true := by
  show (oneL (rch h w a n) (fun p => decide (w ≤ h 2 p)) 36).testBit b = true
  rw [oneL_bit]; exact Or.inl hb
theorem eg_comm (W : WF h) {a b : Nat} (ha : a < 6) (hb : b < 6) (e : eg h w a b) : eg h w b a := by
  rcases e with rfl | e
  · exact Or.inl rfl
  · exact Or.inr (by rw [W.2.2.2.2.2.1 b a hb ha]; exact e)
theorem rch_left : ∀ (n a b : Nat), a < 6 → b < 6 → ((rch h w a (n + 1)).testBit b = true ↔ ∃ c, c < 6 ∧ eg h w a c ∧ (rch h w c n).testBit b = true)
  | 0, a, b, ha, hb => by
    rw [rch_bit hb]
    constructor
    · rintro ⟨c, c1, c2, c3⟩
      have e := rch_zero.mp c2
      exact ⟨b, hb, by rw [e]; exact c3, rch_zero.mpr rfl⟩
    · rintro ⟨c, c1, c2, c3⟩
      have e := rch_zero.mp c3
      exact ⟨a, ha, rch_zero.mpr rfl, by rw [← e]; exact c2⟩
  | n + 1, a, b, ha, hb => by
    rw [rch_bit hb]
    constructor
    · rintro ⟨c, c1, c2, c3⟩
      obtain ⟨e, e1, e2, e3⟩ := (rch_left n a c ha c1).mp c2
      exact ⟨e, e1, e2, (rch_bit hb).mpr ⟨c, c1, e3, c3⟩⟩
    · rintro ⟨e, e1, e2, e3⟩
      obtain ⟨c, c1, c2, c3⟩ := (rch_bit hb).mp e3
      exact ⟨c, c1, (rch_left n a c ha c1).mpr ⟨e, e1, e2, c2⟩, c3⟩
theorem rch_comm1 (W : WF h) : ∀ (n a b : Nat), a < 6 → b < 6 → (rch h w a n).testBit b = true → (rch h w b n).testBit a = true
  | 0, a, b, _, _, q => rch_zero.mpr (rch_zero.mp q).symm
  | n + 1, a, b, ha, hb, q => by
    obtain ⟨c, c1, c2, c3⟩ := (rch_bit hb).mp q
    exact (rch_left n b a hb ha).mpr ⟨c, c1, eg_comm W c1 hb c3, rch_comm1 W n a c ha c1 c2⟩
theorem rch_comm (W : WF h) {n a b : Nat} (ha : a < 6) (hb : b < 6) : (rch h w a n).testBit b = (rch h w b n).testBit a := Bool.eq_iff_iff.mpr ⟨rch_comm1 W n a b ha hb, rch_comm1 W n b a hb ha⟩
theorem stp_comm (W : WF h) {a b : Nat} (ha : a < 6) (hb : b < 6) : stp h w a b = stp h w b a := firstN_congr fun i _ _ => rch_comm W ha hb
theorem rch_room (W : WF h) (hw : 1 ≤ w) {a : Nat} (ha : a < hR h) : ∀ (n b : Nat), (rch h w a n).testBit b = true → b < hR h
  | 0, b, q => by rw [← rch_zero.mp q]; exact ha
  | n + 1, b, q => by
    have w1 := W.1
    have hb := rch_lt6 (by omega) q
    obtain ⟨c, c1, c2, c3⟩ := (rch_bit hb).mp q
    have hc := rch_room W hw ha n c c2
    rcases c3 with rfl | c3
    · exact hc
    · rcases Nat.lt_or_ge b (hR h) with z | z
      · exact z
      · rw [W.2.2.2.2.2.2.1 c b c1 hb (by omega)] at c3
        omega
theorem rch_stop {a n : Nat} (ha : a < 6) (hs : ∀ b, (rch h w a (n + 1)).testBit b = true → (rch h w a n).testBit b = true) : ∀ (m b : Nat), (rch h w a (n + m)).testBit b = true → (rch h w a n).testBit b = true
  | 0, b, q => q
  | m + 1, b, q => by
    have hb := rch_lt6 ha q
    obtain ⟨c, c1, c2, c3⟩ := (rch_bit (n := n + m) hb).mp q
    exact hs b ((rch_bit hb).mpr ⟨c, c1, rch_stop ha hs m c c2, c3⟩)
theorem rch_cnt (W : WF h) (hw : 1 ≤ w) {a : Nat} (ha : a < hR h) : ∀ n, (∀ k, k < n → ∃ b, (rch h w a (k + 1)).testBit b = true ∧ (rch h w a k).testBit b = false) → n + 1 ≤ cntTo (rch h w a n).testBit (hR h)
  | 0, _ => by
    have := (cntTo_lt (f := fun _ => false) (g := (rch h w a 0).testBit) (fun i hi => by cases hi) (c := a) rfl (rch_zero.mpr rfl) (hR h)).2 ha
    omega
  | n + 1, hk => by
    obtain ⟨b, b1, b2⟩ := hk n (Nat.lt_succ_self n)
    have := (cntTo_lt (f := (rch h w a n).testBit) (g := (rch h w a (n + 1)).testBit) (fun i hi => rch_mono hi) b2 b1 (hR h)).2 (rch_room W hw ha (n + 1) b b1)
    have := rch_cnt W hw ha n (fun k hk2 => hk k (by omega))
    omega
/-- who is come to in as many steps as there are rooms is come to in fewer -/
theorem rch_end (W : WF h) (hw : 1 ≤ w) {a b : Nat} (ha : a < hR h) (q : (rch h w a (hR h)).testBit b = true) : ∃ j, j < hR h ∧ (rch h w a j).testBit b = true := by
  have w1 := W.1
  apply Classical.byContradiction
  intro no
  have hk : ∀ k, k < hR h → ∃ b, (rch h w a (k + 1)).testBit b = true ∧ (rch h w a k).testBit b = false := by
    intro k hk
    apply Classical.byContradiction
    intro z
    refine no ⟨k, hk, rch_stop (n := k) (by omega) (fun c hc => ?_) (hR h - k) b (by rw [show k + (hR h - k) = hR h by omega]; exact q)⟩
    cases e : (rch h w a k).testBit c with
    | true => rfl
    | false => exact absurd ⟨c, hc, e⟩ z
  have h1 := rch_cnt W hw ha (hR h) hk
  have h2 := cntTo_le (c := (rch h w a (hR h)).testBit) (hR h)
  omega
/-- what the reference's row of steps says of a place -/
def fv (h : pM) (w : Int) (a b : Nat) : Int := if stp h w a b < 0 then 1000000 else stp h w a b
theorem fv_of (W : WF h) (hw : 1 ≤ w) {a b : Nat} (ha : a < hR h) {v : Int} (h1 : v = 1000000 ∨ ∃ e : Nat, v = (e : Int) ∧ e ≤ hR h ∧ (rch h w a e).testBit b = true) (h2 : ∀ j, j ≤ hR h → (rch h w a j).testBit b = true → v ≤ (j : Int)) : v = fv h w a b := by
  have w1 := W.1
  unfold fv stp
  rcases firstN_spec (fun n => (rch h w a n).testBit b) (hR h) 0 with ⟨e, no⟩ | ⟨j, e, j0, j1, j2, j3⟩
  · rw [e, if_pos (by decide)]
    rcases h1 with z | ⟨k, k1, k2, k3⟩
    · exact z
    · have : ∃ j, j < hR h ∧ (rch h w a j).testBit b = true := by
        rcases Nat.lt_or_ge k (hR h) with q | q
        · exact ⟨k, q, k3⟩
        · have : k = hR h := by omega
          rw [this] at k3
          exact rch_end W hw ha k3
      obtain ⟨j, j1, j2⟩ := this
      have := no j (by omega) (by omega)
      rw [j2] at this; cases this
  · rw [e, if_neg (by omega)]
    have u := h2 j (by omega) j2
    rcases h1 with z | ⟨k, k1, k2, k3⟩
    · omega
    · rcases Nat.lt_or_ge k j with q | q
      · have := j3 k (by omega) q
        rw [k3] at this; cases this
      · omega
end STP
/-! the reference's row of steps -/
def FG (h : pM) (w : Int) (a n : Nat) (M : pM) : Prop := ∀ x, x < hR h → M 74 x = 1000000 ∨ ∃ e : Nat, M 74 x = (e : Int) ∧ e ≤ n ∧ (rch h w a e).testBit x = true
def FB (h : pM) (w : Int) (a n : Nat) (M : pM) : Prop := ∀ x j, x < hR h → j ≤ n → (rch h w a j).testBit x = true → M 74 x ≤ (j : Int)
def FP (h : pM) (w : Int) (n r o : Nat) (M : pM) : Prop := ∀ r' o', (r' < r ∨ (r' = r ∧ o' < o)) → r' < hR h → o' < hR h → M 74 r' = (n : Int) → w ≤ h 2 (6 * r' + o') → M 74 o' ≤ (n : Int) + 1
section FFR
variable {D d : Nat} {w : Int} {h M : pM}
theorem fg_upd {a n r o : Nat} (W : WF h) (hn : n ≤ 6) (hr : r < hR h) (ho : o < hR h) (h1 : M 74 r = (n : Int)) (h2 : w ≤ h 2 (6 * r + o)) (g : FG h w a (n + 1) M) (b : FB h w a n M) (p : FP h w n r o M) : FG h w a (n + 1) (pset M 74 o (jmin (M 74 o) ((n : Int) + 1))) ∧ FB h w a n (pset M 74 o (jmin (M 74 o) ((n : Int) + 1))) ∧ FP h w n r (o + 1) (pset M 74 o (jmin (M 74 o) ((n : Int) + 1))) := by
  have w1 := W.1
  have ro : 0 ≤ M 74 o ∧ M 74 o ≤ 1000000 := by
    rcases g o ho with z | ⟨e, z, z2, -⟩
    · omega
    · omega
  have ej : jmin (M 74 o) ((n : Int) + 1) = min (M 74 o) ((n : Int) + 1) := by
    rw [jmin_eq (by omega) (by omega) (by omega) (by omega)] <;> omega
  rw [ej]
  have hx : ∀ x, pset M 74 o (min (M 74 o) ((n : Int) + 1)) 74 x ≤ M 74 x := fun x => by
    by_cases q : x = o
    · rw [q, pset_eq]; omega
    · rw [pset_ne2 q]; omega
  have hn2 : ∀ x, pset M 74 o (min (M 74 o) ((n : Int) + 1)) 74 x = (n : Int) → M 74 x = (n : Int) := fun x => by
    by_cases q : x = o
    · rw [q, pset_eq]; omega
    · rw [pset_ne2 q]; exact id
  refine ⟨fun x hx2 => ?_, fun x j h3 h4 h5 => Int.le_trans (hx x) (b x j h3 h4 h5), fun r' o' h3 h4 h5 h6 h7 => ?_⟩
  · by_cases q : x = o
    · rw [q, pset_eq]
      rcases g o ho with z | ⟨e, z, z2, z3⟩
      · refine Or.inr ⟨n + 1, by omega, Nat.le_refl _, ?_⟩
        rcases g r hr with y | ⟨e, y, y2, y3⟩
        · omega
        · have : e = n := by omega
          rw [this] at y3
          exact (rch_bit (by omega)).mpr ⟨r, by omega, y3, Or.inr h2⟩
      · exact Or.inr ⟨e, by omega, z2, z3⟩
    · rw [pset_ne2 q]; exact g x hx2
  · by_cases q : r' < r ∨ (r' = r ∧ o' < o)
    · exact Int.le_trans (hx o') (p r' o' q h4 h5 (hn2 r' h6) h7)
    · have : o' = o := by omega
      rw [this, pset_eq]; omega
theorem m_fx32 (hD : 1 ≤ D) (W : WF h) (hw1 : 0 ≤ w) (hw2 : w ≤ 9) {a n r : Nat} (hn : n ≤ 6) (hr : r < hR h) (x1 : Int) : ∀ m o (M : pM), o + m = hR h → (∀ p, p < 36 → M 62 p = h 2 p) → M 60 0 = (hR h : Int) → FG h w a (n + 1) M → FB h w a n M → FP h w n r o M → ∃ (y5 : pV) (M' : pM), xE D 207 32 [.inr 62, .inl x1, .inl w, .inl (n : Int), .inl (r : Int), .inl (o : Int)] [] M = xE D 207 26 [.inr 62, .inl x1, .inl w, .inl (n : Int), .inl ((r + 1 : Nat) : Int), y5] [] M' ∧ FG h w a (n + 1) M' ∧ FB h w a n M' ∧ FP h w n (r + 1) 0 M' ∧ ∀ o i, o ≠ 74 → M' o i = M o i := by
  have w1 := W.1
  intro m
  induction m with
  | zero =>
    intro o M ho hd h0 g b p
    rw [L_M_findFar_32, h0, if_pos (by rw [le32_iff] <;> omega), show ((r : Int) + 1) = ((r + 1 : Nat) : Int) by omega]
    exact ⟨_, M, rfl, g, b, fun r' o' h3 h4 h5 => p r' o' (by omega) h4 h5, fun _ _ _ => rfl⟩
  | succ m ih =>
    intro o M ho hd h0 g b p
    have e1 : ((o : Int) + 1) = ((o + 1 : Nat) : Int) := by omega
    have e2 : (6 * (r : Int) + (o : Int)).toNat = 6 * r + o := by omega
    have d0 := W.2.2.2.2.1 (6 * r + o) (by omega)
    have rr : ∀ x, x < hR h → 0 ≤ M 74 x ∧ M 74 x ≤ 1000000 := fun x hx => by
      rcases g x hx with z | ⟨e, z, z2, -⟩
      · omega
      · omega
    have f0 := rr r hr
    rw [L_M_findFar_32, h0, if_neg (by rw [le32_iff] <;> omega), if_pos (by omega), Int.toNat_natCast, Int.toNat_natCast, e1, e2, hd _ (by omega)]
    by_cases q1 : eq32 (M 74 r) (n : Int)
    · rw [if_neg (fun z => z q1), if_pos (by omega)]
      rw [eq32_iff (by omega) (by omega) (by omega) (by omega)] at q1
      by_cases q2 : lt32 (h 2 (6 * r + o)) w
      · rw [if_pos q2]
        rw [lt32_iff (by omega) (by omega) (by omega) (by omega)] at q2
        refine ih (o + 1) M (by omega) hd h0 g b (fun r' o' h3 h4 h5 h6 h7 => ?_)
        by_cases q : r' < r ∨ (r' = r ∧ o' < o)
        · exact p r' o' q h4 h5 h6 h7
        · have : o' = o ∧ r' = r := by omega
          rw [this.1, this.2] at h7
          omega
      · rw [if_neg q2, if_pos (by omega), if_pos (by omega)]
        rw [lt32_iff (by omega) (by omega) (by omega) (by omega)] at q2
        obtain ⟨g2, b2, p2⟩ := fg_upd W hn hr (show o < hR h by omega) q1 (by omega) g b p
        obtain ⟨y5, M', e, r1, r2, r3, r4⟩ := ih (o + 1) (pset M 74 o (jmin (M 74 o) ((n : Int) + 1))) (by omega) (fun p hp => by rw [pset_ne (by decide)]; exact hd p hp) (by rw [pset_ne (by decide)]; exact h0) g2 b2 p2
        exact ⟨y5, M', e, r1, r2, r3, fun o i ho => by rw [r4 o i ho, pset_ne ho]⟩
    · rw [if_pos q1]
      rw [eq32_iff (by omega) (by omega) (by omega) (by omega)] at q1
      refine ih (o + 1) M (by omega) hd h0 g b (fun r' o' h3 h4 h5 h6 h7 => ?_)
      by_cases q : r' < r ∨ (r' = r ∧ o' < o)
      · exact p r' o' q h4 h5 h6 h7
      · have : o' = o ∧ r' = r := by omega
        rw [this.2] at h6
        exact absurd h6 q1
theorem m_fx26 (hD : 1 ≤ D) (W : WF h) (hw1 : 0 ≤ w) (hw2 : w ≤ 9) {a n : Nat} (hn : n ≤ 6) (x1 : Int) : ∀ m r (y5 : pV) (M : pM), r + m = hR h → (∀ p, p < 36 → M 62 p = h 2 p) → M 60 0 = (hR h : Int) → FG h w a (n + 1) M → FB h w a n M → FP h w n r 0 M → ∃ (y4 y5' : pV) (M' : pM), xE D 207 26 [.inr 62, .inl x1, .inl w, .inl (n : Int), .inl (r : Int), y5] [] M = xE D 207 20 [.inr 62, .inl x1, .inl w, .inl ((n + 1 : Nat) : Int), y4, y5'] [] M' ∧ FG h w a (n + 1) M' ∧ FB h w a n M' ∧ FP h w n (hR h) 0 M' ∧ ∀ o i, o ≠ 74 → M' o i = M o i := by
  have w1 := W.1
  intro m
  induction m with
  | zero =>
    intro r y5 M hr hd h0 g b p
    have e : r = hR h := by omega
    rw [L_M_findFar_26, h0, if_pos (by rw [le32_iff] <;> omega), show ((n : Int) + 1) = ((n + 1 : Nat) : Int) by omega]
    rw [e] at p
    exact ⟨_, y5, M, rfl, g, b, p, fun _ _ _ => rfl⟩
  | succ m ih =>
    intro r y5 M hr hd h0 g b p
    rw [L_M_findFar_26, h0, if_neg (by rw [le32_iff] <;> omega)]
    obtain ⟨y, M1, e1, g1, b1, p1, f1⟩ := m_fx32 (D := D) (a := a) hD W hw1 hw2 hn (show r < hR h by omega) x1 (hR h) 0 M (by omega) hd h0 g b p
    rw [show (.inl 0 : pV) = .inl ((0 : Nat) : Int) from rfl, e1]
    obtain ⟨y4, y5', M', e, g2, b2, p2, f2⟩ := ih (r + 1) y M1 (by omega) (fun p hp => by rw [f1 62 p (by decide)]; exact hd p hp) (by rw [f1 60 0 (by decide)]; exact h0) g1 b1 p1
    exact ⟨y4, y5', M', e, g2, b2, p2, fun o i ho => (f2 o i ho).trans (f1 o i ho)⟩
theorem fb_succ {a n : Nat} (hn : n ≤ 6) (W : WF h) (hw : 1 ≤ w) (ha : a < hR h) (g : FG h w a (n + 1) M) (b : FB h w a n M) (p : FP h w n (hR h) 0 M) : FB h w a (n + 1) M := by
  have w1 := W.1
  intro x j hx hj hb
  rcases Nat.lt_or_ge n j with q | q
  · have : j = n + 1 := by omega
    subst this
    obtain ⟨c, c1, c2, c3⟩ := (rch_bit (by omega)).mp hb
    have hc := rch_room W hw ha n c c2
    have u := b c n hc (Nat.le_refl n) c2
    rcases c3 with rfl | c3
    · omega
    · by_cases z : M 74 c = (n : Int)
      · have := p c x (by omega) hc hx z c3
        omega
      · rcases g c hc with y | ⟨e, y, y2, y3⟩
        · omega
        · have := b x (e + 1) hx (by omega) ((rch_bit (by omega)).mpr ⟨c, c1, y3, Or.inr c3⟩)
          omega
  · exact b x j hx q hb
theorem m_fx20 (hD : 1 ≤ D) (W : WF h) (hw1 : 1 ≤ w) (hw2 : w ≤ 9) {a : Nat} (ha : a < hR h) (x1 : Int) : ∀ m n (y4 y5 : pV) (M : pM), n + m = hR h → (∀ p, p < 36 → M 62 p = h 2 p) → M 60 0 = (hR h : Int) → FG h w a n M → FB h w a n M → ∃ M', xE D 207 20 [.inr 62, .inl x1, .inl w, .inl (n : Int), y4, y5] [] M = rV M' ∧ FG h w a (hR h) M' ∧ FB h w a (hR h) M' ∧ ∀ o i, o ≠ 74 → M' o i = M o i := by
  have w1 := W.1
  intro m
  induction m with
  | zero =>
    intro n y4 y5 M hn hd h0 g b
    have e : n = hR h := by omega
    rw [L_M_findFar_20, h0, if_pos (by rw [le32_iff] <;> omega)]
    rw [e] at g b
    exact ⟨M, rfl, g, b, fun _ _ _ => rfl⟩
  | succ m ih =>
    intro n y4 y5 M hn hd h0 g b
    rw [L_M_findFar_20, h0, if_neg (by rw [le32_iff] <;> omega)]
    obtain ⟨y4', y5', M1, e1, g1, b1, p1, f1⟩ := m_fx26 (D := D) (a := a) hD W (by omega) hw2 (show n ≤ 6 by omega) x1 (hR h) 0 y5 M (by omega) hd h0 (fun x hx => by
      rcases g x hx with z | ⟨e, z1, z2, z3⟩
      · exact Or.inl z
      · exact Or.inr ⟨e, z1, by omega, z3⟩) b (fun r' o' h3 => by omega)
    rw [show (.inl 0 : pV) = .inl ((0 : Nat) : Int) from rfl, e1]
    obtain ⟨M', e, g2, b2, f2⟩ := ih (n + 1) y4' y5' M1 (by omega) (fun p hp => by rw [f1 62 p (by decide)]; exact hd p hp) (by rw [f1 60 0 (by decide)]; exact h0) g1 (fb_succ (by omega) W hw1 ha g1 b1 p1)
    exact ⟨M', e, g2, b2, fun o i ho => (f2 o i ho).trans (f1 o i ho)⟩
theorem m_fx2 (hD : 1 ≤ D) (W : WF h) (hw1 : 1 ≤ w) (hw2 : w ≤ 9) {a : Nat} (ha : a < hR h) : ∀ m i (M : pM), i + m = hR h → (∀ p, p < 36 → M 62 p = h 2 p) → M 60 0 = (hR h : Int) → (∀ j, j < i → M 74 j = if j = a then 0 else 1000000) → ∃ M', xE D 207 2 [.inr 62, .inl (a : Int), .inl w, .inl (i : Int), .inr 0, .inr 0] [] M = rV M' ∧ FG h w a (hR h) M' ∧ FB h w a (hR h) M' ∧ ∀ o i, o ≠ 74 → M' o i = M o i := by
  have w1 := W.1
  intro m
  induction m with
  | zero =>
    intro i M hi hd h0 hj
    have e : i = hR h := by omega
    rw [L_M_findFar_2, h0, if_pos (by rw [le32_iff] <;> omega), show (.inl 0 : pV) = .inl ((0 : Nat) : Int) from rfl]
    refine m_fx20 (D := D) hD W hw1 hw2 ha (a : Int) (hR h) 0 _ _ M (by omega) hd h0 (fun x hx => ?_) (fun x j hx hj2 hb => ?_)
    · rw [hj x (by omega)]
      by_cases q : x = a
      · rw [if_pos q]
        exact Or.inr ⟨0, rfl, Nat.le_refl _, rch_zero.mpr q.symm⟩
      · rw [if_neg q]; exact Or.inl rfl
    · have : j = 0 := by omega
      rw [this] at hb ⊢
      rw [hj x (by omega), if_pos (rch_zero.mp hb).symm]
      exact Int.le_refl _
  | succ m ih =>
    intro i M hi hd h0 hj
    have e1 : ((i : Int) + 1) = ((i + 1 : Nat) : Int) := by omega
    have go : ∀ v : Int, (v = if i = a then 0 else 1000000) → ∃ M', xE D 207 2 [.inr 62, .inl (a : Int), .inl w, .inl ((i + 1 : Nat) : Int), .inr 0, .inr 0] [] (pset M 74 i v) = rV M' ∧ FG h w a (hR h) M' ∧ FB h w a (hR h) M' ∧ ∀ o i, o ≠ 74 → M' o i = M o i := by
      intro v hv
      obtain ⟨M', e, g, b, f⟩ := ih (i + 1) (pset M 74 i v) (by omega) (fun p hp => by rw [pset_ne (by decide)]; exact hd p hp) (by rw [pset_ne (by decide)]; exact h0) (fun j hj2 => by
        by_cases q : j = i
        · rw [q, pset_eq]; exact hv
        · rw [pset_ne2 q]; exact hj j (by omega))
      exact ⟨M', e, g, b, fun o i ho => by rw [f o i ho, pset_ne ho]⟩
    rw [L_M_findFar_2, h0, if_neg (by rw [le32_iff] <;> omega)]
    by_cases q : i = a
    · rw [if_neg (fun z => z (by rw [q])), if_pos (by omega), Int.toNat_natCast, e1]
      exact go 0 (if_pos q).symm
    · rw [if_pos (by rw [eq32_iff] <;> omega), if_pos (by omega), Int.toNat_natCast, e1]
      exact go 1000000 (if_neg q).symm
/-- the reference's row of steps, in full -/
theorem m_far (hd : 2 ≤ d) (W : WF h) (hw1 : 1 ≤ w) (hw2 : w ≤ 9) {a : Nat} (ha : a < hR h) (hdo : ∀ p, p < 36 → M 62 p = h 2 p) (h0 : M 60 0 = (hR h : Int)) : ∃ M', xF d 207 [.inr 62, .inl (a : Int), .inl w] M = rV M' ∧ (∀ x, x < hR h → M' 74 x = fv h w a x) ∧ ∀ o i, o ≠ 74 → M' o i = M o i := by
  obtain ⟨D, rfl, hD⟩ := dsucc hd
  rw [T_M_findFar, show (.inl 0 : pV) = .inl ((0 : Nat) : Int) from rfl]
  obtain ⟨M', e, g, b, f⟩ := m_fx2 (D := D) (by omega) W hw1 hw2 ha (hR h) 0 M (by omega) hdo h0 (fun j hj => absurd hj (Nat.not_lt_zero j))
  exact ⟨M', e, fun x hx => fv_of W hw1 ha (g x hx) (fun j hj hb => b x j hx hj hb), f⟩
theorem fv_comm (W : WF h) {a b : Nat} (ha : a < hR h) (hb : b < hR h) : fv h w a b = fv h w b a := by
  have w1 := W.1
  unfold fv
  rw [stp_comm W (show a < 6 by omega) (show b < 6 by omega)]
theorem m_stepsF (hd : 3 ≤ d) (W : WF h) {t a b : Nat} (ht : t < hT h) (ha : a < hR h) (hb : b < hR h) (h64 : M 64 t = h 4 t) (hdo : ∀ p, p < 36 → M 62 p = h 2 p) (h0 : M 60 0 = (hR h : Int)) : ∃ M', xF d 208 [.inr 62, .inl (t : Int), .inl (a : Int), .inl (b : Int)] M = rI (fv h (h 4 t) a b) M' ∧ ∀ o i, o ≠ 74 → M' o i = M o i := by
  obtain ⟨D, rfl, hD⟩ := dsucc hd
  have w1 := W.1
  have w2 := W.2.1
  have hg := (W.2.2.2.2.2.2.2.1 t ht).2.1
  obtain ⟨M', e, r, f⟩ := m_far (d := D) (M := M) (by omega) W hg.1 hg.2 hb hdo h0
  rw [T_M_steps, if_pos (by omega), Int.toNat_natCast, h64, e, pbN_rV, if_pos (by omega), Int.toNat_natCast, r a ha, fv_comm W hb ha]
  exact ⟨M', rfl, f⟩
end FFR
/-! which arrangement is lawful: both sides say the same -/
section LWS
variable {h M : pM} {p : Nat → Int}
theorem inR_bit {r : Int} {t : Nat} (ht : t < hT h) : (inR h p r).testBit t = decide (p t = r) := by
  unfold inR
  rw [bitsOf_bit, decide_eq_true ht, Bool.true_and]
theorem pdF_iff {a T : Nat} : pdF p a T = true ↔ ∃ t, t < T ∧ a.testBit t = true ∧ ¬ eq32 (p t) (p (fst1 a)) := by
  induction T with
  | zero =>
    constructor
    · intro q; cases q
    · rintro ⟨t, ht, -⟩; omega
  | succ T ih =>
    show (pdF p a T || (a.testBit T && !decide (eq32 (p T) (p (fst1 a))))) = true ↔ _
    rw [Bool.or_eq_true, ih, Bool.and_eq_true]
    constructor
    · rintro (⟨t, t1, t2⟩ | ⟨t1, t2⟩)
      · exact ⟨t, by omega, t2⟩
      · refine ⟨T, Nat.lt_succ_self T, t1, fun z => ?_⟩
        rw [decide_eq_true z] at t2; cases t2
    · rintro ⟨t, t1, t2, t3⟩
      rcases Nat.lt_or_ge t T with q | q
      · exact Or.inl ⟨t, q, t2, t3⟩
      · have : t = T := by omega
        rw [this] at t2 t3
        exact Or.inr ⟨t2, by rw [decide_eq_false t3]; rfl⟩
theorem fst1_bit {a : Nat} (ha : a < 1024) (h0 : a ≠ 0) : a.testBit (fst1 a) = true := by
  unfold fst1 ntz
  rw [if_neg h0, if_neg h0]
  rcases firstN_spec a.testBit 10 0 with ⟨-, h2⟩ | ⟨j, h1, -, h3, h4, -⟩
  · refine absurd (Nat.eq_of_testBit_eq fun i => ?_) h0
    rw [Nat.zero_testBit]
    rcases Nat.lt_or_ge i 10 with y | y
    · exact h2 i (Nat.zero_le i) (by omega)
    · exact Nat.testBit_lt_two_pow (Nat.lt_of_lt_of_le ha (pow_le_of (k := 10) y))
  · rw [h1, Int.toNat_natCast]; exact h4
theorem bit_lt {a t n : Nat} (ha : a < 2 ^ n) (q : a.testBit t = true) : t < n := by
  rcases Nat.lt_or_ge t n with z | z
  · exact z
  · rw [Nat.testBit_lt_two_pow (Nat.lt_of_lt_of_le ha (pow_le_of z))] at q
    cases q
theorem pd_one (W : WF h) (hp : ∀ t, t < hT h → 0 ≤ p t ∧ p t < hR h) {a : Nat} (ha : a < 2 ^ hT h) : pdF p a (hT h) = !oneR h p a := by
  have w1 := W.1
  have w2 := W.2.1
  have a10 : a < 1024 := Nat.lt_of_lt_of_le ha (p_T W)
  have key : (pdF p a (hT h) = true) ↔ ¬ (oneR h p a = true) := by
    rw [pdF_iff]
    constructor
    · rintro ⟨t, t1, t2, t3⟩ q
      have h0 : a ≠ 0 := fun z => by
        rw [z, Nat.zero_testBit] at t2
        cases t2
      have f1 := fst1_bit a10 h0
      have f2 := bit_lt ha f1
      have pf := hp _ f2
      have pt := hp t t1
      have u := allTo_iff.mp q (p (fst1 a)).toNat (by omega)
      rw [show (((p (fst1 a)).toNat : Nat) : Int) = p (fst1 a) by omega] at u
      rw [Bool.or_eq_true, decide_eq_true_iff, decide_eq_true_iff] at u
      rcases u with u | u
      · have := congrArg (fun z => Nat.testBit z (fst1 a)) u
        simp only [Nat.testBit_and, Nat.zero_testBit, f1, Bool.and_true] at this
        rw [inR_bit f2, decide_eq_true rfl] at this
        cases this
      · have := congrArg (fun z => Nat.testBit z t) u
        simp only [Nat.testBit_and, t2, Bool.and_true] at this
        rw [inR_bit t1] at this
        exact t3 (by rw [of_decide_eq_true this])
    · intro q
      apply Classical.byContradiction
      intro no
      refine q (allTo_iff.mpr fun r hr => ?_)
      have eqf : ∀ t, t < hT h → a.testBit t = true → p t = p (fst1 a) := fun t t1 t2 => by
        have h0 : a ≠ 0 := fun z => by
          rw [z, Nat.zero_testBit] at t2
          cases t2
        have pf := hp _ (bit_lt ha (fst1_bit a10 h0))
        have pt := hp t t1
        apply Classical.byContradiction
        intro z
        exact no ⟨t, t1, t2, fun y => z ((eq32_iff (by omega) (by omega) (by omega) (by omega)).mp y)⟩
      rw [Bool.or_eq_true, decide_eq_true_iff, decide_eq_true_iff]
      by_cases z : p (fst1 a) = (r : Int)
      · refine Or.inr (Nat.eq_of_testBit_eq fun i => ?_)
        rw [Nat.testBit_and]
        cases e : a.testBit i with
        | false => rw [Bool.and_false]
        | true =>
          have hi := bit_lt ha e
          rw [inR_bit hi, eqf i hi e, decide_eq_true z]; rfl
      · refine Or.inl (Nat.eq_of_testBit_eq fun i => ?_)
        rw [Nat.testBit_and, Nat.zero_testBit]
        cases e : a.testBit i with
        | false => rw [Bool.and_false]
        | true =>
          have hi := bit_lt ha e
          rw [inR_bit hi, eqf i hi e, decide_eq_false z]; rfl
  cases e : oneR h p a with
  | true =>
    cases e2 : pdF p a (hT h) with
    | false => rfl
    | true => exact absurd e (key.mp e2)
  | false =>
    rw [key.mpr (by rw [e]; decide)]; rfl
theorem fr_sum (hp : ∀ t, t < hT h → 0 ≤ p t ∧ p t < 6) {r : Int} (hr : 0 ≤ r ∧ r < 6) (h63 : ∀ t, t < hT h → M 63 t = h 3 t) : ∀ k, k ≤ hT h → frF M p r k = M 61 r.toNat - sumTo (fun t => if (inR h p r).testBit t then h 3 t else 0) k
  | 0, _ => by
    show M 61 r.toNat = M 61 r.toNat - 0
    omega
  | k + 1, hk => by
    have ih := fr_sum hp hr h63 k (by omega)
    have hpk := hp k (by omega)
    show (if eq32 (p k) r then frF M p r k - M 63 k else frF M p r k - 0) = M 61 r.toNat - (sumTo (fun t => if (inR h p r).testBit t then h 3 t else 0) k + if (inR h p r).testBit k then h 3 k else 0)
    rw [inR_bit (show k < hT h by omega), ih, h63 k (by omega)]
    by_cases q : p k = r
    · rw [if_pos (by rw [q]), if_pos (decide_eq_true q)]; omega
    · rw [if_neg (by rw [eq32_iff] <;> omega), if_neg (by rw [decide_eq_false q]; decide)]; omega
theorem MH_fc (W : WF h) (X : MH M h) : FCx M (hS h) (hT h) (me h) := ⟨X.2.2.1, W.2.2.1, X.2.1, W.2.1, X.2.2.2.2.2.2, fun k hk => Nat.lt_of_lt_of_le (W.2.2.2.2.2.2.2.2 k hk) (p_T W)⟩
theorem ptd_same (W : WF h) (hp : ∀ t, t < hT h → 0 ≤ p t ∧ p t < hR h) : bitsOf (fun s => pdF p (me h s) (hT h)) (hS h) = ptd h p := bitsOf_congr fun s hs => pd_one W hp (W.2.2.2.2.2.2.2.2 s hs)
theorem free_same (W : WF h) (X : MH M h) (hp : ∀ t, t < hT h → 0 ≤ p t ∧ p t < hR h) {r : Nat} (hr : r < hR h) : frF M p r (hT h) = h 1 r - blk h (inR h p (r : Int)) := by
  have w1 := W.1
  rw [fr_sum (h := h) (fun t ht => by have := hp t ht; omega) (by omega) (fun t ht => (X.2.2.2.2.2.1 t ht).1) (hT h) (Nat.le_refl _), Int.toNat_natCast, X.2.2.2.1 r hr]
  rfl
theorem ovf_same (W : WF h) (X : MH M h) (hp : ∀ t, t < hT h → 0 ≤ p t ∧ p t < hR h) : bitsOf (fun r => decide (¬ le32 0 (frF M p r (hT h)))) (hR h) = ovf h p := bitsOf_congr fun r hr => by
  have b := blk_range W (inR h p (r : Int))
  have s := W.2.2.2.1 r hr
  rw [free_same W X hp hr]
  have e : (¬ le32 0 (h 1 r - blk h (inR h p (r : Int)))) ↔ h 1 r < blk h (inR h p (r : Int)) := by
    rw [le32_iff (by omega) (by omega) (by omega) (by omega)]; omega
  exact decide_eq_decide.mpr e
theorem lw_same (W : WF h) (X : MH M h) (hp : ∀ t, t < hT h → 0 ≤ p t ∧ p t < hR h) : lwB M p (hS h) (hT h) (hR h) (me h) = true ↔ lwf h p := by
  unfold lwB lwf
  rw [ptd_same W hp, ovf_same W X hp, Bool.and_eq_true, beq_iff_eq, beq_iff_eq]
end LWS
