/-! the class reads all lines -/
/-- not too many of anything -/
def BD (h : pM) : Prop := hR h ≤ 6 ∧ hT h ≤ 10 ∧ hS h ≤ 8
theorem BD_ln {tx : Nat → Int} {st : Nat} {h : pM} {a b : Nat} (W : BD h) (hl : (lnS tx st h a).1 = .inr b) : BD (lnS tx st h a).2 := by
  obtain ⟨w1, w2, w3⟩ := W
  unfold lnS at hl ⊢
  by_cases c1 : hc tx st a = 114
  · rw [if_pos c1] at hl ⊢
    by_cases c2 : hR h = 6
    · rw [if_pos c2] at hl; cases hl
    · rw [if_neg c2]
      exact ⟨by dsimp only; rw [hR_addR]; omega, by dsimp only; rw [hT_addR]; exact w2, by dsimp only; rw [hS_addR]; exact w3⟩
  · rw [if_neg c1] at hl ⊢
    by_cases c2 : hc tx st a = 100
    · rw [if_pos c2]
      dsimp only
      unfold BD hR hT hS
      rw [hx_addD, hx_addD, hx_addD]
      exact ⟨w1, w2, w3⟩
    · rw [if_neg c2] at hl ⊢
      by_cases c3 : hc tx st a = 115
      · rw [if_pos c3] at hl ⊢
        by_cases c4 : hS h = 8
        · rw [if_pos c4] at hl; cases hl
        · rw [if_neg c4]
          exact ⟨by dsimp only; rw [hR_addS]; exact w1, by dsimp only; rw [hT_addS]; exact w2, by dsimp only; rw [hS_addS]; omega⟩
      · rw [if_neg c3] at hl ⊢
        by_cases c4 : hT h = 10
        · rw [if_pos c4] at hl; cases hl
        · rw [if_neg c4]
          exact ⟨by dsimp only; rw [hR_addT]; exact w1, by dsimp only; rw [hT_addT]; omega, by dsimp only; rw [hS_addT]; exact w3⟩
theorem BD_phS {tx : Nat → Int} {st : Nat} : ∀ (f a : Nat) (h : pM) (n b : Nat), BD h → (phS tx st f a h n).1 = .inr b → BD (phS tx st f a h n).2.1
  | 0, a, h, n, b, _, e => by cases e
  | f + 1, a, h, n, b, W, e => by
    have hu : phS tx st (f + 1) a h n = match (lnS tx st h a).1 with
      | .inl p => (.inl p, (lnS tx st h a).2, n + 1)
      | .inr b => if hc tx st b = 59 then phS tx st f (b + 1) (lnS tx st h a).2 (n + 1) else (.inr b, (lnS tx st h a).2, n + 1) := rfl
    rw [hu] at e ⊢
    cases q : (lnS tx st h a).1 with
    | inl p => rw [q] at e; cases e
    | inr c =>
      rw [q] at e
      have W1 := BD_ln W q
      dsimp only at e ⊢
      by_cases z : hc tx st c = 59
      · rw [if_pos z] at e ⊢; exact BD_phS f (c + 1) _ (n + 1) b W1 e
      · rw [if_neg z]; exact W1
section XRD
variable {tx : Nat → Int} {st d D L : Nat} {M M' : pM}
theorem x_faultB (hd : 1 ≤ d) {p : Nat} (x : XSt tx st M (.inl p)) : xF d 136 [.inr 5] M = rI (p : Int) M := by
  obtain ⟨D, rfl, -⟩ := dsucc hd
  have h8 := x.2.2.2.2.2.2.1
  have h9 := x.2.2.2.2.2.2.2
  rw [T_Reader_fault, h8, if_pos (by rw [eq32_iff] <;> omega)]
theorem x_faultG (hd : 1 ≤ d) {a : Nat} (x : XSt tx st M (.inr a)) (hL : M 1 1 = (L : Int)) (hL8 : L ≤ 80) : xF d 136 [.inr 5] M = rI (if L ≤ st then -1 else (st : Int)) M := by
  obtain ⟨D, rfl, -⟩ := dsucc hd
  have h10 := x.2.2.2.2.2.2.2.2
  have h3 := x.2.1
  rw [T_Reader_fault, h10, hL, x.1, if_neg (fun z => z rfl)]
  by_cases q : L ≤ st
  · rw [if_pos (by rw [le32_iff] <;> omega), if_pos q]
  · rw [if_neg (by rw [le32_iff] <;> omega), if_neg q]
theorem x_endB (hD : 1 ≤ D) {p : Nat} (x : XSt tx st M (.inl p)) (x2 x3 : Int) : xE D 107 11 [.inr 6, .inr 19, .inl x2, .inl x3] [] M = rI (-1 - (p : Int)) M := by
  have h9 := x.2.2.2.2.2.2.2
  rw [L_HouseReader_read_11]
  split
  · rw [x_faultB hD x, pbI_rI, if_pos (by rw [eq32_iff] <;> omega)]
  · rw [x_goesB hD x, pbI_rI, if_pos rfl, x_faultB hD x, pbI_rI, if_pos (by rw [eq32_iff] <;> omega)]
theorem x_lineB (hd : 4 ≤ d) {p : Nat} (x : XSt tx st M (.inl p)) : xF d 108 [.inr 6, .inr 19] M = rV M := by
  obtain ⟨D, rfl, hD⟩ := dsucc hd
  rw [T_HouseReader_line, x_peekB (by omega) x, pbI_rI, if_pos (by decide), if_pos (by decide), if_pos (by decide), x_seesB (by omega) x, pbI_rI, if_pos rfl, x_failB (by omega) x, pbN_rV]
def rdA (L : Nat) (P : rgs × pM × Nat) (z : Int) (M' : pM) : Prop := match phE L P.1 with
  | .inl p => z = -1 - (p : Int) ∧ p ≤ 80
  | .inr _ => z = (P.2.2 : Int) ∧ YH M' P.2.1
theorem x_rd (hD : 7 ≤ D) (hL8 : L ≤ 80) (hst : st = min L 76) : ∀ (f a : Nat) (h : pM) (n k : Nat) (M : pM), XSt tx st M (.inr a) → YH M h → BD h → M 1 1 = (L : Int) → st < a + f → k ≤ a → ∃ z M', (pbN (xF D 108 [.inr 6, .inr 19] M) fun M2 => xE D 107 11 [.inr 6, .inr 19, .inl ((n + 1 : Nat) : Int), .inl (k : Int)] [] M2) = rI z M' ∧ AGl M M' ∧ rdA L (phS tx st f a h n) z M' := by
  intro f
  induction f with
  | zero =>
    intro a h n k M x y W h1 hf hk
    have := x.2.2.2.2.2.2.2.1
    omega
  | succ f ih =>
    intro a h n k M x y W h1 hf hk
    have ha := x.2.2.2.2.2.2.2.1
    have hst2 := x.2.1
    obtain ⟨M1, s', e1, r1, a1, rl, y1⟩ := x_line (d := D) (by omega) x y W.1 W.2.1 W.2.2
    have k1 : M1 1 1 = (L : Int) := by rw [a1 1 1 (by omega) (by omega)]; exact h1
    have hu : phS tx st (f + 1) a h n = match (lnS tx st h a).1 with
      | .inl p => (.inl p, (lnS tx st h a).2, n + 1)
      | .inr b => if hc tx st b = 59 then phS tx st f (b + 1) (lnS tx st h a).2 (n + 1) else (.inr b, (lnS tx st h a).2, n + 1) := rfl
    rw [e1, pbN_rV]
    cases s' with
    | inl p =>
      rw [x_endB (by omega) r1]
      refine ⟨_, M1, rfl, a1, ?_⟩
      rcases rl with q | ⟨b, q1, q2, q3, q4⟩
      · rw [hu, ← q]; exact ⟨rfl, r1.2.2.2.2.2.2.2⟩
      · cases q2
        rw [hu, q1]
        dsimp only
        rw [if_neg q4]
        unfold rdA phE
        dsimp only
        rw [if_pos (by omega)]
        exact ⟨rfl, by omega⟩
    | inr b =>
      have q : (lnS tx st h a).1 = .inr b := by
        rcases rl with q | ⟨b2, q1, q2, -⟩
        · exact q.symm
        · cases q2
      have hb := r1.2.2.2.2.2.2.2.1
      have hab := lnS_gt W.2.1 q
      have W1 := BD_ln W q
      have y1' := y1 b rfl
      rw [hu, q]
      dsimp only
      rw [L_HouseReader_read_11, if_neg (by rw [le32_iff] <;> omega), x_goesG (by omega) r1, pbI_rI]
      by_cases q1 : b < st
      · obtain ⟨M2, e2, r2, a2⟩ := x_take (d := D) (by omega) r1 (c := 59) (by decide) (by decide)
        rw [if_pos q1, if_neg (by decide), e2, pbN_rV, show (((n + 1 : Nat) : Int) + 1) = ((n + 1 + 1 : Nat) : Int) by omega, show ((k : Int) + 1) = ((k + 1 : Nat) : Int) by omega]
        by_cases q2 : hc tx st b = 59
        · have es : sgN tx st 59 (.inr b) = .inr (b + 1) := if_pos q2
          rw [es] at r2
          obtain ⟨z, M', i1, i2, i3⟩ := ih (b + 1) (lnS tx st h a).2 (n + 1) (k + 1) M2 r2 (YH_x y1' a2) W1 (by rw [a2 1 1 (by omega)]; exact k1) (by omega) (by omega)
          rw [if_pos q2]
          exact ⟨z, M', i1, AGl_tr a1 (AGl_tr (AGl_x a2) i2), i3⟩
        · have es : sgN tx st 59 (.inr b) = .inl b := if_neg q2
          rw [es] at r2
          rw [x_lineB (by omega) r2, pbN_rV, x_endB (by omega) r2, if_neg q2]
          refine ⟨_, M2, rfl, AGl_tr a1 (AGl_x a2), ?_⟩
          unfold rdA phE
          dsimp only
          rw [if_pos (by omega)]
          exact ⟨rfl, by omega⟩
      · have q2 : hc tx st b = -1 := if_neg q1
        have q59 : ¬ hc tx st b = 59 := by omega
        rw [if_neg q1, if_pos rfl, x_faultG (by omega) r1 k1 hL8, pbI_rI, if_neg q59]
        unfold rdA phE
        dsimp only
        by_cases q3 : L ≤ st
        · rw [if_pos q3, if_neg (fun z => z rfl), if_neg (by omega)]
          exact ⟨_, M1, rfl, a1, rfl, y1'⟩
        · rw [if_neg q3, if_pos (by rw [eq32_iff] <;> omega), if_pos (by omega)]
          refine ⟨_, M1, rfl, a1, ?_⟩
          show (-1 : Int) - (st : Int) = -1 - (b : Int) ∧ b ≤ 80
          omega
end XRD
