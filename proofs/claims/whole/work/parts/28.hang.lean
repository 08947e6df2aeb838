/-! the class's clumps: hang -/
def aT (h : pM) : Nat := 2 ^ hT h - 1
def aS (h : pM) : Nat := 2 ^ hS h - 1
/-- the walk over the things: how many clumps so far, what is left; the clump that thing k begins -/
def hgA (h : pM) (k : Nat) : Nat × Nat := cbL h (aT h) (aS h) k
def hgM (h : pM) (k : Nat) : Nat := hng h (aT h) (aS h) (2 ^ k) (hS h)
def cmk (h : pM) : Nat → Nat → Nat
  | 0, _ => 0
  | k + 1, i => if (hgA h k).2.testBit k = true ∧ i = (hgA h k).1 then hgM h k else cmk h k i
def own (h : pM) : Nat → Nat → Nat
  | 0, _ => 0
  | k + 1, t => if (hgA h k).2.testBit k = true ∧ (hgM h k).testBit t = true then (hgA h k).1 else own h k t
def nC (h : pM) : Nat := (hgA h (hT h)).1
def CL (M h : pM) : Prop := M 7 12 = nC h ∧ (∀ i, i < nC h → M 15 i = cmk h (hT h) i) ∧ (∀ t, t < hT h → M 16 t = own h (hT h) t)
def agH : Nat → Nat → Bool := fun o i => o == 15 || o == 16 || (o == 7 && i == 12)
theorem aT_lt {h : pM} (W : WF h) : aT h < 1024 := by
  have := p_T W
  have := Nat.two_pow_pos (hT h)
  unfold aT; omega
theorem aS_lt {h : pM} (W : WF h) : aS h < 256 := by
  have := p_S W
  have := Nat.two_pow_pos (hS h)
  unfold aS; omega
section HG
variable {h M : pM} {d : Nat}
theorem hgM_lt (W : WF h) {k : Nat} (hk : k < 10) : hgM h k < 1024 := hng_lt W (pow10 hk) _
theorem hgA_le (k : Nat) : (hgA h k).1 ≤ k ∧ (hgA h k).2 ≤ aT h := cbL_le k
theorem hgA_succ (k : Nat) : hgA h (k + 1) = if (hgA h k).2.testBit k then ((hgA h k).1 + 1, nan (hgA h k).2 (hgM h k)) else hgA h k := rfl
theorem XH_agH {M' : pM} (a : ag agH M M') (X : XH M h) : XH M' h := XH_ag a (fun o i h1 h2 h3 => by
  unfold agH
  have e1 : (o == 15) = false := by simp; omega
  have e2 : (o == 16) = false := by simp; omega
  rw [e1, e2]
  by_cases q : o = 7
  · have h4 := h3 q
    have e3 : (i == 12) = false := by simp; omega
    rw [e3]; simp
  · have e3 : (o == 7) = false := by simpa using q
    rw [e3]; rfl) X
theorem hngI_has {amo sets seen i : Nat} (hb : seen.testBit i = true) : ∀ k, (hngI h amo sets seen k).testBit i = true
  | 0 => hb
  | k + 1 => by
    have ih := hngI_has (amo := amo) (sets := sets) hb k
    unfold hngI
    split
    · rw [Nat.testBit_or, ih]; rfl
    · exact ih
theorem hng_has {amo sets seen i : Nat} (hb : seen.testBit i = true) : ∀ n, (hng h amo sets seen n).testBit i = true
  | 0 => hb
  | n + 1 => hngI_has (hng_has hb n) _
theorem rest_k : ∀ k t, t < k → (hgA h k).2.testBit t = false
  | 0, t, ht => absurd ht (Nat.not_lt_zero t)
  | k + 1, t, ht => by
    rw [hgA_succ]
    cases hb : (hgA h k).2.testBit k with
    | false =>
      rw [if_neg (by decide)]
      rcases Nat.lt_or_ge t k with q | q
      · exact rest_k k t q
      · rw [show t = k by omega]; exact hb
    | true =>
      rw [if_pos rfl]
      show (nan (hgA h k).2 (hgM h k)).testBit t = false
      rw [nan_bit]
      rcases Nat.lt_or_ge t k with q | q
      · rw [rest_k k t q]; rfl
      · rw [show t = k by omega]
        have e : (hgM h k).testBit k = true := hng_has (by rw [Nat.testBit_two_pow_self]) _
        rw [e]; simp
/-- one clump more -/
def adM (M : pM) (mask : Nat) (v : Int) (n : Nat) : pM := fun o i => if o = 16 ∧ i < n ∧ mask.testBit i = true then v else M o i
theorem c_addClump (hd : 2 ≤ d) (W : WF h) (X : XH M h) {n mask : Nat} (hn : n < 10) (hM : M 7 12 = n) (hm : mask < 2147483648) : ∃ M', xF d 99 [.inr 9, .inl (mask : Int)] M = rV M' ∧ ag agH M M' ∧ M' 7 12 = ((n + 1 : Nat) : Int) ∧ (∀ i, M' 15 i = if i = n then (mask : Int) else M 15 i) ∧ (∀ t, t < hT h → M' 16 t = if mask.testBit t then (n : Int) else M 16 t) := by
  obtain ⟨D, rfl, hD⟩ := dsucc hd
  have w2 := W.2.1
  rw [T_House_addClump, hM, if_neg (by rw [lt32_iff] <;> omega), if_neg (by rw [le32_iff] <;> omega), if_pos (by omega), Int.toNat_natCast]
  have key : ∀ k : Nat, k ≤ hT h → xE D 99 15 [.inr 9, .inl (mask : Int), .inl 0] [] (pset M 15 n mask) = xE D 99 15 [.inr 9, .inl (mask : Int), .inl (k : Int)] [] (adM (pset M 15 n mask) mask n k) := by
    intro k
    induction k with
    | zero =>
      intro _
      have e : adM (pset M 15 n mask) mask n 0 = pset M 15 n mask := by
        funext o i
        unfold adM
        rw [if_neg (fun z => absurd z.2.1 (by omega))]
      rw [e]; rfl
    | succ k ih =>
      intro hk
      have e7 : ∀ i, adM (pset M 15 n mask) mask n k 7 i = M 7 i := fun i => by
        unfold adM
        rw [if_neg (fun z => absurd z.1 (by decide)), pset_ne (by decide)]
      rw [ih (by omega), L_House_addClump_15, e7, X.2.1, if_neg (by rw [le32_iff] <;> omega), c_has hD hm (by omega), pbI_rI, ite01]
      cases hb : mask.testBit k with
      | false =>
        have e : adM (pset M 15 n mask) mask n (k + 1) = adM (pset M 15 n mask) mask n k := by
          funext o i
          unfold adM
          by_cases q : o = 16 ∧ i < k ∧ mask.testBit i = true
          · rw [if_pos q, if_pos ⟨q.1, by omega, q.2.2⟩]
          · rw [if_neg q, if_neg (fun z => q ⟨z.1, by
              rcases Nat.lt_or_ge i k with y | y
              · exact y
              · rw [show i = k by omega, hb] at z; exact absurd z.2.2 (by decide), z.2.2⟩)]
        rw [e]; rfl
      | true =>
        have e : pset (adM (pset M 15 n mask) mask n k) 16 k n = adM (pset M 15 n mask) mask n (k + 1) := by
          funext o i
          by_cases q1 : o = 16
          · subst q1
            by_cases q2 : i = k
            · subst q2
              rw [pset_eq]; unfold adM
              rw [if_pos ⟨rfl, by omega, hb⟩]
            · rw [pset_ne2 q2]; unfold adM
              by_cases q : (16 : Nat) = 16 ∧ i < k ∧ mask.testBit i = true
              · rw [if_pos q, if_pos ⟨rfl, by omega, q.2.2⟩]
              · rw [if_neg q, if_neg (fun z => q ⟨rfl, by omega, z.2.2⟩)]
          · rw [pset_ne q1]; unfold adM
            rw [if_neg (fun z => q1 z.1), if_neg (fun z => q1 z.1)]
        simp only [if_true]
        rw [if_pos (by omega), Int.toNat_natCast, e7, hM, e]
        rfl
  have e7 : ∀ i, adM (pset M 15 n mask) mask n (hT h) 7 i = M 7 i := fun i => by
    unfold adM
    rw [if_neg (fun z => absurd z.1 (by decide)), pset_ne (by decide)]
  refine ⟨pset (adM (pset M 15 n mask) mask n (hT h)) 7 12 ((n : Int) + 1), ?_, ?_, ?_, ?_, ?_⟩
  · rw [key _ (Nat.le_refl _), L_House_addClump_15, e7, e7, X.2.1, if_pos (by rw [le32_iff] <;> omega), hM]
  · intro o i hc
    unfold agH at hc
    have h1 : o ≠ 15 := fun z => by rw [z] at hc; simp at hc
    have h2 : o ≠ 16 := fun z => by rw [z] at hc; simp at hc
    by_cases q : o = 7
    · subst q
      have h3 : i ≠ 12 := fun z => by rw [z] at hc; exact absurd hc (by decide)
      rw [pset_ne2 h3, e7]
    · rw [pset_ne q]; unfold adM
      rw [if_neg (fun z => h2 z.1), pset_ne h1]
  · rw [pset_eq]; omega
  · intro i
    rw [pset_ne (by decide)]; unfold adM
    rw [if_neg (fun z => absurd z.1 (by decide))]
    by_cases q : i = n
    · rw [if_pos q, q, pset_eq]
    · rw [if_neg q, pset_ne2 q]
  · intro t ht
    rw [pset_ne (by decide)]; unfold adM
    by_cases q : mask.testBit t = true
    · rw [if_pos ⟨rfl, ht, q⟩, if_pos q]
    · rw [if_neg (fun z => q z.2.2), if_neg q, pset_ne (by decide)]
theorem c_hang (hd : 3 ≤ d) (W : WF h) (X : XH M h) : ∃ M', xF d 98 [.inr 9] M = rV M' ∧ ag agH M M' ∧ CL M' h := by
  obtain ⟨D, rfl, hD⟩ := dsucc hd
  have w2 := W.2.1
  have hA := aT_lt W
  have hS9 := aS_lt W
  have ag0 : ag agH M (pset M 7 12 0) := ag_pset ag_rfl rfl
  rw [T_House_hang, c_allThings (by omega) W (XH_agH ag0 X), pbI_rI]
  have key : ∀ k : Nat, k ≤ hT h → ∃ (M' : pM) (y : pV), xE D 98 8 [.inr 9, .inl (aT h : Int), .inl 0, .inr 0] [] (pset M 7 12 0) = xE D 98 8 [.inr 9, .inl ((hgA h k).2 : Int), .inl (k : Int), y] [] M' ∧ ag agH M M' ∧ M' 7 12 = ((hgA h k).1 : Int) ∧ (∀ i, i < (hgA h k).1 → M' 15 i = cmk h k i) ∧ (∀ t, t < hT h → (hgA h k).2.testBit t = false → M' 16 t = own h k t) := by
    intro k
    induction k with
    | zero =>
      intro _
      refine ⟨_, .inr 0, rfl, ag0, by rw [pset_eq]; rfl, fun i hi => absurd hi (Nat.not_lt_zero i), fun t ht hb => ?_⟩
      have e : (hgA h 0).2.testBit t = true := by
        show (2 ^ hT h - 1).testBit t = true
        rw [Nat.testBit_two_pow_sub_one]
        simpa using ht
      rw [e] at hb
      cases hb
    | succ k ih =>
      intro hk
      obtain ⟨M1, y, e1, a1, c1, c2, c3⟩ := ih (by omega)
      have X1 := XH_agH a1 X
      have hl := hgA_le (h := h) k
      have hg := hgM_lt W (k := k) (by omega)
      rw [e1, L_House_hang_8, X1.2.1, if_neg (by rw [le32_iff] <;> omega), c_has (by omega) (by omega) (by omega), pbI_rI, ite01]
      cases hb : (hgA h k).2.testBit k with
      | false =>
        refine ⟨M1, y, ?_, a1, ?_, ?_, ?_⟩
        · rw [if_neg (by decide), hgA_succ, hb, if_neg (by decide)]; rfl
        · rw [hgA_succ, hb, if_neg (by decide)]; exact c1
        · rw [hgA_succ, hb, if_neg (by decide)]
          intro i hi
          rw [cmk, hb, if_neg (fun z => absurd z.1 (by decide))]
          exact c2 i hi
        · rw [hgA_succ, hb, if_neg (by decide)]
          intro t ht ht2
          rw [own, hb, if_neg (fun z => absurd z.1 (by decide))]
          exact c3 t ht ht2
      | true =>
        obtain ⟨M2, e2, a2, d1, d2, d3⟩ := c_addClump (d := D) (M := M1) hD W X1 (n := (hgA h k).1) (mask := hgM h k) (by omega) c1 (by omega)
        refine ⟨M2, .inl (hgM h k : Int), ?_, ag_trans a1 a2, ?_, ?_, ?_⟩
        · rw [if_pos rfl, c_allThings (by omega) W X1, pbI_rI, c_allSets (by omega) W X1, pbI_rI]
          have e3 := c_hangingOn (d := D) hD W X1 (t := k) (amo := aT h) (sets := aS h) (by omega) (by omega) (by omega)
          unfold aT aS at e3
          rw [e3, pbI_rI]
          have e4 : hng h (2 ^ hT h - 1) (2 ^ hS h - 1) (2 ^ k) (hS h) = hgM h k := rfl
          rw [e4, e2, pbN_rV, jxor_m1 (by omega), jand_not (by omega) (by omega), hgA_succ, hb, if_pos rfl]
          rfl
        · rw [hgA_succ, hb, if_pos rfl]; exact d1
        · rw [hgA_succ, hb, if_pos rfl]
          intro i hi
          rw [d2, cmk, hb]
          by_cases q : i = (hgA h k).1
          · rw [if_pos q, if_pos ⟨rfl, q⟩]
          · rw [if_neg q, if_neg (fun z => q z.2)]
            exact c2 i (by simp only at hi; omega)
        · rw [hgA_succ, hb, if_pos rfl]
          intro t ht ht2
          rw [d3 t ht, own, hb]
          by_cases q : (hgM h k).testBit t = true
          · rw [if_pos q, if_pos ⟨rfl, q⟩]
          · rw [if_neg q, if_neg (fun z => q z.2)]
            refine c3 t ht ?_
            rw [nan_bit] at ht2
            cases e : (hgA h k).2.testBit t with
            | false => rfl
            | true =>
              have q' : (hgM h k).testBit t = false := by simpa using q
              rw [e, q'] at ht2
              cases ht2
  obtain ⟨M1, y, e1, a1, c1, c2, c3⟩ := key _ (Nat.le_refl _)
  refine ⟨M1, ?_, a1, c1, c2, fun t ht => c3 t ht ?_⟩
  · have e2 : xE D 98 8 [.inr 9, .inl ((2 ^ hT h - 1 : Nat) : Int), .inl 0, .inr 0] [] (pset M 7 12 0) = _ := e1
    rw [e2, L_House_hang_8, (XH_agH a1 X).2.1, if_pos (by rw [le32_iff] <;> omega)]
  · exact rest_k _ t ht
end HG
