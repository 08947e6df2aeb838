/-! the reference: arrangements by their codes -/
theorem frF_cg {M M' : pM} {p p' : Nat → Int} {r : Int} : ∀ n, (∀ k, M' 61 k = M 61 k) → (∀ k, M' 63 k = M 63 k) → (∀ t, t < n → p' t = p t) → frF M' p' r n = frF M p r n
  | 0, h1, _, _ => h1 _
  | n + 1, h1, h2, h3 => by
    unfold frF
    rw [frF_cg n h1 h2 (fun t ht => h3 t (by omega)), h2 n, h3 n (by omega)]
/-- the room of clump c in an arrangement -/
def dg (R C code c : Nat) : Nat := code / R ^ (C - 1 - c) % R
def RWx (M : pM) (R T C : Nat) : Prop := M 60 0 = (R : Int) ∧ 1 ≤ R ∧ R ≤ 6 ∧ M 60 3 = (T : Int) ∧ T ≤ 10 ∧ M 60 30 = (C : Int) ∧ C ≤ 10 ∧ M 60 38 = 0 ∧ ∀ t, t < T → ∃ c : Nat, M 72 t = (c : Int) ∧ c < C
/-- places that are not of the rows -/
def RWn (M M' : pM) : Prop := ∀ o i, o ≠ 78 → o ≠ 79 → ¬ (o = 60 ∧ i = 40) → M' o i = M o i
theorem RWn_rfl {M : pM} : RWn M M := fun _ _ _ _ _ => rfl
theorem RWn_tr {M M1 M2 : pM} (h1 : RWn M M1) (h2 : RWn M1 M2) : RWn M M2 := fun o i a b c => (h2 o i a b c).trans (h1 o i a b c)
theorem RWx_of {M M' : pM} {R T C : Nat} (a : RWn M M') (h : RWx M R T C) : RWx M' R T C := by
  obtain ⟨h1, h2, h3, h4, h5, h6, h7, h8, h9⟩ := h
  refine ⟨by rw [a 60 0 (by decide) (by decide) (by decide)]; exact h1, h2, h3, by rw [a 60 3 (by decide) (by decide) (by decide)]; exact h4, h5, by rw [a 60 30 (by decide) (by decide) (by decide)]; exact h6, h7, by rw [a 60 38 (by decide) (by decide) (by decide)]; exact h8, fun t ht => ?_⟩
  rw [a 72 t (by decide) (by decide) (by omega)]
  exact h9 t ht
def trP (M : pM) (R C code : Nat) : Nat → Int := fun t => (dg R C code (M 72 t).toNat : Nat)
def fnB (M : pM) (R T C code : Nat) : Bool := allTo (fun r => decide (le32 0 (frF M (trP M R C code) r T))) R
theorem fnB_of {M M' : pM} {R T C code : Nat} (a : RWn M M') : fnB M' R T C code = fnB M R T C code := by
  unfold fnB
  congr 1
  funext r
  have e : frF M' (trP M' R C code) r T = frF M (trP M R C code) r T := frF_cg T (fun k => a 61 k (by decide) (by decide) (by omega)) (fun k => a 63 k (by decide) (by decide) (by omega)) (fun t _ => by
    unfold trP
    rw [a 72 t (by decide) (by decide) (by omega)])
  rw [e]
def rwA (R C code k : Nat) (M : pM) : pM := fun o i => if o = 79 ∧ k ≤ i ∧ i < C then (dg R C code i : Nat) else M o i
def rwB (R C code t : Nat) (M : pM) : pM := fun o i => if o = 78 ∧ i < t then trP M R C code i else M o i
theorem rwA_ne {R C code k o i : Nat} {M : pM} (h : o ≠ 79) : rwA R C code k M o i = M o i := by
  unfold rwA
  rw [if_neg (fun z => h z.1)]
theorem rwB_ne {R C code k o i : Nat} {M : pM} (h : o ≠ 78) : rwB R C code k M o i = M o i := by
  unfold rwB
  rw [if_neg (fun z => h z.1)]
section RW
variable {D d R T C code W : Nat} {M : pM}
theorem m_has0 (hd : 1 ≤ d) {b : Nat} (hb : b < 32) : xF d 170 [.inl 0, .inl (b : Int)] M = rI 0 M := by
  have := m_has (a := 0) (M := M) hd (by decide) hb
  rw [Nat.zero_testBit] at this
  exact this
theorem dg_lt (h : 1 ≤ R) (c : Nat) : dg R C code c < R := Nat.mod_lt _ h
theorem m_if8 (hD : 1 ≤ D) (h : RWx M R T C) (hc : code < 2000000) : ∀ k, k ≤ C → xE D 231 8 [.inr 62, .inl (code / R ^ (C - k) : Nat), .inl ((k : Int) - 1)] [] (rwA R C code k M) = xE D 231 34 [.inr 62, .inl (code / R ^ C : Nat), .inl 0] [] (rwA R C code 0 M) := by
  obtain ⟨h1, h2, h3, h4, h5, h6, h7, h8, h9⟩ := h
  intro k
  induction k with
  | zero =>
    intro _
    rw [L_M_isFine_8, if_pos (by rw [lt32_iff] <;> omega), Nat.sub_zero]
  | succ k ih =>
    intro hk
    have hv : code / R ^ (C - (k + 1)) < 2000000 := Nat.lt_of_le_of_lt (Nat.div_le_self _ _) hc
    have e0 : ((k + 1 : Nat) : Int) - 1 = (k : Int) := by omega
    have hR : ¬ eq32 (R : Int) 0 := fun z => by
      rw [eq32_iff (by omega) (by omega) (by omega) (by omega)] at z
      omega
    rw [L_M_isFine_8, e0, if_neg (by rw [lt32_iff] <;> omega), rwA_ne (by decide), h8, m_has0 hD (by omega), pbI_rI, if_pos rfl, rwA_ne (by decide), h1, if_neg hR, if_pos (by omega), pset_ne (by decide), rwA_ne (by decide), h1, if_neg hR, jdiv_nat (by omega) (by omega) (by omega), jrem_nat (by omega) (by omega) (by omega), Int.toNat_natCast]
    have e1 : code / R ^ (C - (k + 1)) / R = code / R ^ (C - k) := by
      rw [Nat.div_div_eq_div_mul, ← Nat.pow_succ]
      congr 2
      omega
    have e2 : pset (rwA R C code (k + 1) M) 79 k ((code / R ^ (C - (k + 1)) % R : Nat) : Int) = rwA R C code k M := by
      funext o i
      by_cases q1 : o = 79
      · subst q1
        by_cases q2 : i = k
        · subst q2
          rw [pset_eq]; unfold rwA
          rw [if_pos ⟨rfl, by omega, by omega⟩]
          unfold dg
          rw [show C - (i + 1) = C - 1 - i by omega]
        · rw [pset_ne2 q2]; unfold rwA
          by_cases q : (79 : Nat) = 79 ∧ k + 1 ≤ i ∧ i < C
          · rw [if_pos q, if_pos ⟨rfl, by omega, q.2.2⟩]
          · rw [if_neg q, if_neg (fun z => q ⟨rfl, by omega, z.2.2⟩)]
      · rw [pset_ne q1, rwA_ne q1, rwA_ne q1]
    rw [e1, e2]
    exact ih (by omega)
theorem m_if34 (h : RWx M R T C) (x1 : Int) : ∀ m t, t + m = T → xE D 231 34 [.inr 62, .inl x1, .inl (t : Int)] [] (rwB R C code t (rwA R C code 0 M)) = xE D 231 53 [.inr 62, .inl x1, .inl 0] [] (rwB R C code T (rwA R C code 0 M)) := by
  obtain ⟨h1, h2, h3, h4, h5, h6, h7, h8, h9⟩ := h
  intro m
  induction m with
  | zero =>
    intro t ht
    rw [L_M_isFine_34, rwB_ne (by decide), rwA_ne (by decide), h4, if_pos (by rw [le32_iff] <;> omega), show t = T by omega]
  | succ m ih =>
    intro t ht
    obtain ⟨c, hc, hcl⟩ := h9 t (by omega)
    have e1 : ((t : Int) + 1) = ((t + 1 : Nat) : Int) := by omega
    have e72 : rwB R C code t (rwA R C code 0 M) 72 t = (c : Int) := by rw [rwB_ne (by decide), rwA_ne (by decide), hc]
    rw [L_M_isFine_34, rwB_ne (by decide), rwA_ne (by decide), h4, if_neg (by rw [le32_iff] <;> omega), if_pos (by omega), Int.toNat_natCast, e72, if_pos (by omega), if_pos (by omega), Int.toNat_natCast, rwB_ne (by decide)]
    have e2 : rwA R C code 0 M 79 c = (dg R C code c : Nat) := by
      unfold rwA
      rw [if_pos ⟨rfl, Nat.zero_le _, hcl⟩]
    have e3 : pset (rwB R C code t (rwA R C code 0 M)) 78 t (dg R C code c : Nat) = rwB R C code (t + 1) (rwA R C code 0 M) := by
      funext o i
      by_cases q1 : o = 78
      · subst q1
        by_cases q2 : i = t
        · subst q2
          rw [pset_eq]; unfold rwB
          rw [if_pos ⟨rfl, by omega⟩]
          unfold trP
          rw [rwA_ne (by decide), hc, Int.toNat_natCast]
        · rw [pset_ne2 q2]; unfold rwB
          by_cases q : (78 : Nat) = 78 ∧ i < t
          · rw [if_pos q, if_pos ⟨rfl, by omega⟩]
          · rw [if_neg q, if_neg (fun z => q ⟨rfl, by omega⟩)]
      · rw [pset_ne q1, rwB_ne q1, rwB_ne q1]
    rw [e2, e3, e1]
    exact ih (t + 1) (by omega)
def isM (R T C code : Nat) (M : pM) : pM := rwB R C code T (rwA R C code 0 M)
theorem isM_n : RWn M (isM R T C code M) := fun o i a b _ => by
  unfold isM
  rw [rwB_ne a, rwA_ne b]
theorem isM_78 {t : Nat} (ht : t < T) : isM R T C code M 78 t = trP M R C code t := by
  unfold isM rwB
  rw [if_pos ⟨rfl, ht⟩]
  unfold trP
  rw [rwA_ne (by decide)]
theorem isM_40 : isM R T C code M 60 40 = M 60 40 := by
  unfold isM
  rw [rwB_ne (by decide), rwA_ne (by decide)]
theorem m_isFine (hd : 2 ≤ d) (h : RWx M R T C) (hc : M 60 40 = (code : Int)) (hc2 : code < 2000000) : xF d 231 [.inr 62] M = rI (if fnB M R T C code then 1 else 0) (isM R T C code M) := by
  obtain ⟨D, rfl, hD⟩ := dsucc hd
  have e8 := m_if8 hD h hc2 C (Nat.le_refl C)
  have eA : rwA R C code C M = M := by
    funext o i
    unfold rwA
    rw [if_neg (fun z => by omega)]
  have eB : rwB R C code 0 (rwA R C code 0 M) = rwA R C code 0 M := by
    funext o i
    unfold rwB
    rw [if_neg (fun z => absurd z.2 (Nat.not_lt_zero i))]
  rw [eA, Nat.sub_self, Nat.pow_zero, Nat.div_one] at e8
  have e34 := m_if34 (D := D) (code := code) h ((code / R ^ C : Nat) : Int) T 0 (by omega)
  rw [eB] at e34
  have h' := RWx_of (isM_n (R := R) (T := T) (C := C) (code := code)) h
  rw [T_M_isFine, hc, h.2.2.2.2.2.1, e8, show (.inl 0 : pV) = .inl ((0 : Nat) : Int) from rfl, e34]
  have efr : ∀ r : Int, frF (isM R T C code M) (isM R T C code M 78) r T = frF M (trP M R C code) r T := fun r => frF_cg T (fun k => isM_n 61 k (by decide) (by decide) (by omega)) (fun k => isM_n 63 k (by decide) (by decide) (by omega)) (fun t ht => isM_78 ht)
  have key : ∀ m r, r + m = R → allTo (fun r => decide (le32 0 (frF M (trP M R C code) r T))) r = true → xE D 231 53 [.inr 62, .inl ((code / R ^ C : Nat) : Int), .inl (r : Int)] [] (isM R T C code M) = rI (if fnB M R T C code then 1 else 0) (isM R T C code M) := by
    intro m
    induction m with
    | zero =>
      intro r hr ha
      have hR := h.2.2.1
      have e : r = R := by omega
      subst e
      rw [L_M_isFine_53, h'.1, if_pos (by rw [le32_iff] <;> omega)]
      unfold fnB
      rw [ha]; rfl
    | succ m ih =>
      intro r hr ha
      have hR := h.2.2.1
      have e1 : ((r : Int) + 1) = ((r + 1 : Nat) : Int) := by omega
      rw [L_M_isFine_53, h'.1, if_neg (by rw [le32_iff] <;> omega), m_freeIn_78 hD h'.2.2.2.1 h'.2.2.2.2.1 (by omega), pbI_rI, efr]
      by_cases q : le32 0 (frF M (trP M R C code) r T)
      · rw [if_pos q, e1]
        exact ih (r + 1) (by omega) (by
          unfold allTo
          rw [ha, decide_eq_true q]; rfl)
      · rw [if_neg q]
        have : fnB M R T C code = false := by
          cases hb : fnB M R T C code with
          | false => rfl
          | true =>
            unfold fnB at hb
            have := allTo_iff.mp hb r (by omega)
            rw [decide_eq_false q] at this
            cases this
        rw [this]; rfl
  exact key R 0 (by omega) rfl
theorem gM_isM (hM : gM gAll M) (h1 : 1 ≤ R) (h6 : R ≤ 6) : gM gAll (isM R T C code M) := by
  intro o k hk
  unfold isM rwB
  split
  · rename_i q
    obtain ⟨rfl, -⟩ := q
    have := dg_lt (C := C) (code := code) h1 (rwA R C code 0 M 72 k).toNat
    rw [gAll_row (o := 78) (v := (0, -1, 5, 0, 0, 0)) (by decide +kernel) (by decide +kernel) (Nat.lt_of_lt_of_le hk (pL_le _))]
    refine Or.inl ⟨rfl, ?_, ?_⟩
    · show (-1 : Int) ≤ (dg R C code _ : Nat); omega
    · show ((dg R C code _ : Nat) : Int) ≤ 5; omega
  · unfold rwA
    split
    · rename_i q
      obtain ⟨rfl, -, -⟩ := q
      have := dg_lt (C := C) (code := code) h1 k
      rw [gAll_row (o := 79) (v := (0, -1, 5, 0, 0, 0)) (by decide +kernel) (by decide +kernel) (Nat.lt_of_lt_of_le hk (pL_le _))]
      refine Or.inl ⟨rfl, ?_, ?_⟩
      · show (-1 : Int) ≤ (dg R C code _ : Nat); omega
      · show ((dg R C code _ : Nat) : Int) ≤ 5; omega
    · exact hM o k hk
/-- what nextRow comes to, from a code on -/
def NRo (R T C W code : Nat) (M : pM) (o : Option pR) : Prop := ∃ M', gM gAll M' ∧ RWn M M' ∧ ((o = rI 0 M' ∧ (∀ c, code ≤ c → c < W → fnB M R T C c = false) ∧ M' 60 40 = ((max code W : Nat) : Int)) ∨ (o = rI 1 M' ∧ ∃ c1, code ≤ c1 ∧ c1 < W ∧ fnB M R T C c1 = true ∧ (∀ c, code ≤ c → c < c1 → fnB M R T C c = false) ∧ M' 60 40 = (c1 : Int) ∧ ∀ t, t < T → M' 78 t = trP M R C c1 t))
theorem m_nr6 (hD : 2 ≤ D) (hW : W ≤ 1000000) : ∀ m code M, W ≤ code + m → code ≤ 1000000 → RWx M R T C → gM gAll M → M 60 39 = (W : Int) → M 60 40 = (code : Int) → NRo R T C W code M (xE D 230 6 [.inr 62] [] M) := by
  intro m
  induction m with
  | zero =>
    intro code M hm hc h hM h39 h40
    refine ⟨M, hM, RWn_rfl, Or.inl ⟨?_, fun c h1 h2 => by omega, by rw [h40, Nat.max_eq_left (by omega)]⟩⟩
    rw [L_M_nextRow_6, h39, h40, if_pos (by rw [le32_iff] <;> omega)]
  | succ m ih =>
    intro code M hm hc h hM h39 h40
    by_cases q : W ≤ code
    · refine ⟨M, hM, RWn_rfl, Or.inl ⟨?_, fun c h1 h2 => by omega, by rw [h40, Nat.max_eq_left q]⟩⟩
      rw [L_M_nextRow_6, h39, h40, if_pos (by rw [le32_iff] <;> omega)]
    · have g1 := gM_isM (T := T) (C := C) (code := code) hM h.2.1 h.2.2.1
      have n1 := isM_n (R := R) (T := T) (C := C) (code := code) (M := M)
      rw [L_M_nextRow_6, h39, h40, if_neg (by rw [le32_iff] <;> omega), m_isFine hD h h40 (by omega), pbI_rI, ite01]
      cases hb : fnB M R T C code with
      | true =>
        refine ⟨_, g1, n1, Or.inr ⟨rfl, code, Nat.le_refl _, by omega, hb, fun c h1 h2 => by omega, by rw [isM_40]; exact h40, fun t ht => isM_78 ht⟩⟩
      | false =>
        rw [if_neg (by decide), isM_40, h40]
        have n2 : RWn M (pset (isM R T C code M) 60 40 ((code : Int) + 1)) := fun o i a b c => by
          unfold pset
          rw [if_neg c]
          exact n1 o i a b c
        obtain ⟨M', g, n, r⟩ := ih (code + 1) (pset (isM R T C code M) 60 40 ((code : Int) + 1)) (by omega) (by omega) (RWx_of n2 h) (gM_f g1 (lo := -1) (hi := 1000000) (by decide +kernel) (by omega) (by omega)) (by rw [n2 60 39 (by decide) (by decide) (by decide)]; exact h39) (by rw [pset_eq]; omega)
        refine ⟨M', g, RWn_tr n2 n, ?_⟩
        rcases r with ⟨r1, r2, r3⟩ | ⟨r1, c1, r2, r3, r4, r5, r6, r7⟩
        · refine Or.inl ⟨r1, fun c h1 h2 => ?_, ?_⟩
          · rcases Nat.lt_or_ge code c with y | y
            · rw [← fnB_of n2]; exact r2 c y h2
            · rw [show c = code by omega]; exact hb
          · rw [r3]; congr 1; omega
        · refine Or.inr ⟨r1, c1, by omega, r3, by rw [← fnB_of n2]; exact r4, fun c h1 h2 => ?_, r6, fun t ht => ?_⟩
          · rcases Nat.lt_or_ge code c with y | y
            · rw [← fnB_of n2]; exact r5 c y h2
            · rw [show c = code by omega]; exact hb
          · rw [r7 t ht]
            unfold trP
            rw [n2 72 t (by decide) (by decide) (by omega)]
theorem m_nextRow (hd : 3 ≤ d) (hW : W ≤ 1000000) (hc : code ≤ 1000000) (h : RWx M R T C) (hM : gM gAll M) (h39 : M 60 39 = (W : Int)) (h40 : M 60 40 = (code : Int) - 1) : NRo R T C W code M (xF d 230 [.inr 62] M) := by
  obtain ⟨D, rfl, hD⟩ := dsucc hd
  rw [T_M_nextRow, h40, show (code : Int) - 1 + 1 = (code : Int) by omega]
  have n2 : RWn M (pset M 60 40 (code : Int)) := fun o i a b c => by
    unfold pset
    rw [if_neg c]
  obtain ⟨M', g, n, r⟩ := m_nr6 hD hW W code (pset M 60 40 (code : Int)) (by omega) hc (RWx_of n2 h) (gM_f hM (lo := -1) (hi := 1000000) (by decide +kernel) (by omega) (by omega)) (by rw [pset_ne2 (by decide)]; exact h39) pset_eq
  refine ⟨M', g, RWn_tr n2 n, ?_⟩
  rcases r with ⟨r1, r2, r3⟩ | ⟨r1, c1, r2, r3, r4, r5, r6, r7⟩
  · exact Or.inl ⟨r1, fun c h1 h2 => by rw [← fnB_of n2]; exact r2 c h1 h2, r3⟩
  · exact Or.inr ⟨r1, c1, r2, r3, by rw [← fnB_of n2]; exact r4, fun c h1 h2 => by rw [← fnB_of n2]; exact r5 c h1 h2, r6, fun t ht => by
      rw [r7 t ht]
      unfold trP
      rw [n2 72 t (by decide) (by decide) (by omega)]⟩
end RW
