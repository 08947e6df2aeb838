/-! lines read into a house -/
def addR (h : pM) (v : Int) : pM := pset (pset h 1 (hR h) v) 0 0 ((hR h : Int) + 1)
def addD (h : pM) (x y : Nat) (w : Int) : pM := pset (pset h 2 (6 * x + y) w) 2 (6 * y + x) w
def addS (h : pM) (b : Nat) : pM := pset (pset h 7 (hS h) (b : Int)) 0 2 ((hS h : Int) + 1)
def addT (h : pM) (b w g r : Int) : pM := pset (pset (pset (pset (pset h 3 (hT h) b) 4 (hT h) w) 5 (hT h) g) 6 (hT h) r) 0 1 ((hT h : Int) + 1)
/-- two rooms again: the second one can't stand -/
noncomputable def sgE (x y : Int) (s : rgs) : rgs := match s with
  | .inl p => .inl p
  | .inr b => if x = y then .inl (b - 1) else .inr b
noncomputable def d1V (tx : Nat → Int) (st R a : Nat) : Int := sgV tx st 0 ((R : Int) - 1) (.inr (a + 1))
noncomputable def d2S (tx : Nat → Int) (st R a : Nat) : rgs := sgN tx st 45 (sgD tx st 0 ((R : Int) - 1) (.inr (a + 1)))
noncomputable def d2V (tx : Nat → Int) (st R a : Nat) : Int := sgV tx st 0 ((R : Int) - 1) (d2S tx st R a)
noncomputable def d3S (tx : Nat → Int) (st R a : Nat) : rgs := sgN tx st 61 (sgE (d1V tx st R a) (d2V tx st R a) (sgD tx st 0 ((R : Int) - 1) (d2S tx st R a)))
noncomputable def d3V (tx : Nat → Int) (st R a : Nat) : Int := sgV tx st 1 9 (d3S tx st R a)
/-- a line at a -/
noncomputable def lnS (tx : Nat → Int) (st : Nat) (h : pM) (a : Nat) : rgs × pM :=
  if hc tx st a = 114 then (if hR h = 6 then (.inl a, h) else (sgI tx st (.inr (a + 1)), addR h (sgIv tx st (.inr (a + 1)))))
  else if hc tx st a = 100 then (sgD tx st 1 9 (d3S tx st (hR h) a), addD h (d1V tx st (hR h) a).toNat (d2V tx st (hR h) a).toNat (d3V tx st (hR h) a))
  else if hc tx st a = 115 then (if hS h = 8 then (.inl a, h) else ((sgL tx st (hT h) 11 (a + 1) 0 (-1)).1, addS h (sgL tx st (hT h) 11 (a + 1) 0 (-1)).2))
  else if hT h = 10 then (.inl a, h) else (sgT tx st (hR h) (.inr a), addT h (sgIv tx st (.inr a)) (tvW tx st (.inr a)) (tvG tx st (.inr a)) (tvR tx st (hR h) (.inr a)))
/-- all lines: where it ends, the house, how many -/
noncomputable def phS (tx : Nat → Int) (st : Nat) : Nat → Nat → pM → Nat → rgs × pM × Nat
  | 0, a, h, n => (.inl a, h, n)
  | f + 1, a, h, n => match (lnS tx st h a).1 with
    | .inl p => (.inl p, (lnS tx st h a).2, n + 1)
    | .inr b => if hc tx st b = 59 then phS tx st f (b + 1) (lnS tx st h a).2 (n + 1) else (.inr b, (lnS tx st h a).2, n + 1)
/-- the whole text: a fault, or all of it -/
def phE (L : Nat) (s : rgs) : rgs := match s with
  | .inl p => .inl p
  | .inr b => if b < L then .inl b else .inr b
theorem sgN_gt {tx : Nat → Int} {st b : Nat} {c : Int} {s : rgs} (hc0 : c ≠ -1) (h : sgN tx st c s = .inr b) : ∃ a, s = .inr a ∧ b = a + 1 ∧ a < st := by
  obtain ⟨a, h1, h2, h3⟩ := sgN_inr h
  exact ⟨a, h1, h2, hc_lt (tx := tx) (st := st) (by rw [h3]; exact hc0)⟩
theorem sgE_inr {x y : Int} {s : rgs} {b : Nat} (h : sgE x y s = .inr b) : s = .inr b ∧ x ≠ y := by
  cases s with
  | inl p => cases h
  | inr a =>
    have h : (if x = y then .inl (a - 1) else .inr a : rgs) = .inr b := h
    by_cases q : x = y
    · rw [if_pos q] at h; cases h
    · rw [if_neg q] at h; cases h; exact ⟨rfl, q⟩
theorem sgL_inr {tx : Nat → Int} {st T : Nat} : ∀ (f a bits : Nat) (last : Int) (b : Nat), T ≤ 10 → bits < 2 ^ T → (bits ≠ 0 ∨ True) → (sgL tx st T f a bits last).1 = .inr b → a ≤ b ∧ (sgL tx st T f a bits last).2 < 2 ^ T ∧ (sgL tx st T f a bits last).2 ≠ 0
  | 0, a, bits, last, b, _, _, _, h => by cases h
  | f + 1, a, bits, last, b, hT, hb, hn, h => by
    by_cases q : 97 ≤ hc tx st a ∧ hc tx st a ≤ 106
    · by_cases q1 : hc tx st a - 97 ≤ last ∨ (T : Int) ≤ hc tx st a - 97
      · have eL : sgL tx st T (f + 1) a bits last = (.inl a, bits) := by
          show (if _ ∧ _ then (if _ ∨ _ then _ else _) else _) = _
          rw [if_pos q, if_pos q1]
        rw [eL] at h; cases h
      · have eL : sgL tx st T (f + 1) a bits last = sgL tx st T f (a + 1) (bits ||| 2 ^ (hc tx st a - 97).toNat) (hc tx st a - 97) := by
          show (if _ ∧ _ then (if _ ∨ _ then _ else _) else _) = _
          rw [if_pos q, if_neg q1]
        rw [eL] at h ⊢
        obtain ⟨k, hk⟩ := natI (show 0 ≤ hc tx st a - 97 by omega)
        rw [hk, Int.toNat_natCast] at h ⊢
        have := sgL_inr f (a + 1) (bits ||| 2 ^ k) k b hT (Nat.or_lt_two_pow hb (Nat.pow_lt_pow_right (by decide) (by omega))) (Or.inr trivial) h
        exact ⟨by omega, this.2⟩
    · have eL : sgL tx st T (f + 1) a bits last = (if bits = 0 then .inl a else .inr a, bits) := by
        show (if _ ∧ _ then _ else _) = _
        rw [if_neg q]
      rw [eL] at h ⊢
      by_cases z : bits = 0
      · rw [if_pos z] at h; cases h
      · rw [if_neg z] at h; cases h
        exact ⟨Nat.le_refl _, hb, z⟩
/-- how far a line goes -/
theorem lnS_gt {tx : Nat → Int} {st : Nat} {h : pM} {a b : Nat} (hT : hT h ≤ 10) (hl : (lnS tx st h a).1 = .inr b) : a < b := by
  unfold lnS at hl
  split at hl
  · split at hl
    · cases hl
    · dsimp only at hl
      obtain ⟨a1, e1, e2, -⟩ := sgI_inr hl
      cases e1; omega
  · split at hl
    · dsimp only at hl
      obtain ⟨a1, e1, e2, -⟩ := sgD_inr hl
      obtain ⟨a2, e3, e4, -⟩ := sgN_inr e1
      obtain ⟨e5, -⟩ := sgE_inr e3
      obtain ⟨a4, e6, e7, -⟩ := sgD_inr e5
      obtain ⟨a5, e8, e9, -⟩ := sgN_inr e6
      obtain ⟨a6, e10, e11, -⟩ := sgD_inr e8
      cases e10; omega
    · split at hl
      · split at hl
        · cases hl
        · dsimp only at hl
          have := sgL_inr 11 (a + 1) 0 (-1) b hT (Nat.two_pow_pos _) (Or.inr trivial) hl
          omega
      · split at hl
        · cases hl
        · dsimp only at hl
          obtain ⟨a1, e1, e2, -⟩ := sgD_inr hl
          obtain ⟨a2, e3, e4, -⟩ := sgN_inr e1
          obtain ⟨a3, e5, e6, -⟩ := sgD_inr e3
          obtain ⟨a4, e7, e8, -⟩ := sgN_inr e5
          obtain ⟨a5, e9, e10, -⟩ := sgD_inr e7
          obtain ⟨a6, e11, e12, -⟩ := sgN_inr e9
          obtain ⟨a7, e13, e14, -⟩ := sgI_inr e11
          cases e13; omega
section HC
variable {h : pM}
theorem hR_addR (v : Int) : hR (addR h v) = hR h + 1 := by
  unfold addR
  show ((pset _ 0 0 _ 0 0 : Int)).toNat = _
  rw [pset_eq]; omega
theorem hT_addR (v : Int) : hT (addR h v) = hT h := by
  unfold addR hT
  rw [pset_ne2 (by decide), pset_ne (by decide)]
theorem hS_addR (v : Int) : hS (addR h v) = hS h := by
  unfold addR hS
  rw [pset_ne2 (by decide), pset_ne (by decide)]
theorem hx_addD (x y : Nat) (w : Int) (i : Nat) : addD h x y w 0 i = h 0 i := by
  unfold addD
  rw [pset_ne (by decide), pset_ne (by decide)]
theorem hR_addS (b : Nat) : hR (addS h b) = hR h := by
  unfold addS hR
  rw [pset_ne2 (by decide), pset_ne (by decide)]
theorem hT_addS (b : Nat) : hT (addS h b) = hT h := by
  unfold addS hT
  rw [pset_ne2 (by decide), pset_ne (by decide)]
theorem hS_addS (b : Nat) : hS (addS h b) = hS h + 1 := by
  unfold addS
  show ((pset _ 0 2 _ 0 2 : Int)).toNat = _
  rw [pset_eq]; omega
theorem hR_addT (b w g r : Int) : hR (addT h b w g r) = hR h := by
  unfold addT hR
  rw [pset_ne2 (by decide), pset_ne (by decide), pset_ne (by decide), pset_ne (by decide), pset_ne (by decide)]
theorem hS_addT (b w g r : Int) : hS (addT h b w g r) = hS h := by
  unfold addT hS
  rw [pset_ne2 (by decide), pset_ne (by decide), pset_ne (by decide), pset_ne (by decide), pset_ne (by decide)]
theorem hT_addT (b w g r : Int) : hT (addT h b w g r) = hT h + 1 := by
  unfold addT
  show ((pset _ 0 1 _ 0 1 : Int)).toNat = _
  rw [pset_eq]; omega
end HC
/-- the house after a good line is a house -/
theorem WF_ln {tx : Nat → Int} {st : Nat} {h : pM} {a b : Nat} (W : WF h) (hl : (lnS tx st h a).1 = .inr b) : WF (lnS tx st h a).2 := by
  obtain ⟨w1, w2, w3, w4, w5, w6, w7, w8, w9⟩ := W
  unfold lnS at hl ⊢
  split at hl
  · rename_i c1
    rw [if_pos c1]
    split at hl
    · cases hl
    · rename_i c2
      rw [if_neg c2]
      dsimp only at hl ⊢
      obtain ⟨a1, e1, e2, e3, e4⟩ := sgI_inr hl
      refine ⟨by rw [hR_addR]; omega, by rw [hT_addR]; exact w2, by rw [hS_addR]; exact w3, fun r hr => ?_, fun p hp => ?_, fun x y hx hy => ?_, fun x y hx hy hxy => ?_, fun t ht => ?_, fun s hs => ?_⟩
      · rw [hR_addR] at hr
        unfold addR
        rw [pset_ne (by decide)]
        by_cases q : r = hR h
        · rw [q, pset_eq]; exact ⟨e3, e4⟩
        · rw [pset_ne2 q]; exact w4 r (by omega)
      · unfold addR
        rw [pset_ne (by decide), pset_ne (by decide)]; exact w5 p hp
      · unfold addR
        rw [pset_ne (by decide), pset_ne (by decide), pset_ne (by decide), pset_ne (by decide)]; exact w6 x y hx hy
      · rw [hR_addR] at hxy
        unfold addR
        rw [pset_ne (by decide), pset_ne (by decide)]; exact w7 x y hx hy (by omega)
      · rw [hT_addR] at ht
        rw [hR_addR]
        unfold addR
        simp only [pset_ne (show (3 : Nat) ≠ 0 by decide), pset_ne (show (3 : Nat) ≠ 1 by decide), pset_ne (show (4 : Nat) ≠ 0 by decide), pset_ne (show (4 : Nat) ≠ 1 by decide), pset_ne (show (5 : Nat) ≠ 0 by decide), pset_ne (show (5 : Nat) ≠ 1 by decide), pset_ne (show (6 : Nat) ≠ 0 by decide), pset_ne (show (6 : Nat) ≠ 1 by decide)]
        have := w8 t ht
        exact ⟨this.1, this.2.1, this.2.2.1, this.2.2.2.1, by have := this.2.2.2.2; omega⟩
      · rw [hS_addR] at hs
        rw [hT_addR]
        have e : me (addR h (sgIv tx st (.inr (a + 1)))) s = me h s := by
          unfold me addR
          rw [pset_ne (by decide), pset_ne (by decide)]
        rw [e]; exact w9 s hs
  · rename_i c1
    rw [if_neg c1]
    split at hl
    · rename_i c2
      rw [if_pos c2]
      dsimp only at hl ⊢
      obtain ⟨a1, e1, e2, v3a, v3b, -⟩ := sgD_inr hl
      obtain ⟨a2, e3, e4, -⟩ := sgN_inr e1
      obtain ⟨e5, hne⟩ := sgE_inr e3
      obtain ⟨a4, e6, e7, v2a, v2b, -⟩ := sgD_inr e5
      obtain ⟨a5, e8, e9, -⟩ := sgN_inr e6
      obtain ⟨a6, e10, e11, v1a, v1b, -⟩ := sgD_inr e8
      have hx0 : 0 ≤ d1V tx st (hR h) a ∧ d1V tx st (hR h) a < hR h := ⟨v1a, by unfold d1V; omega⟩
      have hy0 : 0 ≤ d2V tx st (hR h) a ∧ d2V tx st (hR h) a < hR h := ⟨v2a, by unfold d2V; omega⟩
      have hw0 : 1 ≤ d3V tx st (hR h) a ∧ d3V tx st (hR h) a ≤ 9 := ⟨v3a, v3b⟩
      generalize d3V tx st (hR h) a = w at hw0
      obtain ⟨x, hx⟩ := natI hx0.1
      obtain ⟨y, hy⟩ := natI hy0.1
      rw [hx, hy] at hne
      rw [hx] at hx0
      rw [hy] at hy0
      rw [hx, hy, Int.toNat_natCast, Int.toNat_natCast]
      have hxy : x ≠ y := fun z => hne (by rw [z])
      have eR : hR (addD h x y w) = hR h := by unfold hR; rw [hx_addD]
      have eT : hT (addD h x y w) = hT h := by unfold hT; rw [hx_addD]
      have eS : hS (addD h x y w) = hS h := by unfold hS; rw [hx_addD]
      have e2v : ∀ p, addD h x y w 2 p = if p = 6 * y + x ∨ p = 6 * x + y then w else h 2 p := by
        intro p
        unfold addD
        by_cases q : p = 6 * y + x
        · rw [q, pset_eq, if_pos (Or.inl rfl)]
        · rw [pset_ne2 q]
          by_cases q2 : p = 6 * x + y
          · rw [q2, pset_eq, if_pos (Or.inr rfl)]
          · rw [pset_ne2 q2, if_neg (fun z => z.elim q q2)]
      have eo : ∀ o i, o ≠ 2 → addD h x y w o i = h o i := fun o i ho => by
        unfold addD
        rw [pset_ne ho, pset_ne ho]
      refine ⟨by rw [eR]; exact w1, by rw [eT]; exact w2, by rw [eS]; exact w3, fun r hr => ?_, fun p hp => ?_, fun x' y' hx' hy' => ?_, fun x' y' hx' hy' hxy' => ?_, fun t ht => ?_, fun s hs => ?_⟩
      · rw [eR] at hr; rw [eo 1 r (by decide)]; exact w4 r hr
      · rw [e2v]
        split
        · omega
        · exact w5 p hp
      · rw [e2v, e2v]
        by_cases q : 6 * x' + y' = 6 * y + x ∨ 6 * x' + y' = 6 * x + y
        · rw [if_pos q, if_pos (by omega)]
        · rw [if_neg q, if_neg (by omega)]; exact w6 x' y' hx' hy'
      · rw [eR] at hxy'
        rw [e2v, if_neg (by omega)]
        exact w7 x' y' hx' hy' hxy'
      · rw [eT] at ht
        rw [eR, eo 3 t (by decide), eo 4 t (by decide), eo 5 t (by decide), eo 6 t (by decide)]
        exact w8 t ht
      · rw [eS] at hs
        rw [eT]
        have e : me (addD h x y w) s = me h s := by unfold me; rw [eo 7 s (by decide)]
        rw [e]; exact w9 s hs
    · rename_i c2
      rw [if_neg c2]
      split at hl
      · rename_i c3
        rw [if_pos c3]
        split at hl
        · cases hl
        · rename_i c4
          rw [if_neg c4]
          dsimp only at hl ⊢
          have k := sgL_inr 11 (a + 1) 0 (-1) b w2 (Nat.two_pow_pos _) (Or.inr trivial) hl
          generalize (sgL tx st (hT h) 11 (a + 1) 0 (-1)).2 = bits at k
          have eo : ∀ o i, o ≠ 0 → o ≠ 7 → addS h bits o i = h o i := fun o i h0 h7 => by
            unfold addS
            rw [pset_ne h0, pset_ne h7]
          refine ⟨by rw [hR_addS]; exact w1, by rw [hT_addS]; exact w2, by rw [hS_addS]; omega, fun r hr => ?_, fun p hp => ?_, fun x' y' hx' hy' => ?_, fun x' y' hx' hy' hxy' => ?_, fun t ht => ?_, fun s hs => ?_⟩
          · rw [hR_addS] at hr; rw [eo 1 r (by decide) (by decide)]; exact w4 r hr
          · rw [eo 2 p (by decide) (by decide)]; exact w5 p hp
          · rw [eo 2 _ (by decide) (by decide), eo 2 _ (by decide) (by decide)]; exact w6 x' y' hx' hy'
          · rw [hR_addS] at hxy'; rw [eo 2 _ (by decide) (by decide)]; exact w7 x' y' hx' hy' hxy'
          · rw [hT_addS] at ht
            rw [hR_addS, eo 3 t (by decide) (by decide), eo 4 t (by decide) (by decide), eo 5 t (by decide) (by decide), eo 6 t (by decide) (by decide)]
            exact w8 t ht
          · rw [hS_addS] at hs
            rw [hT_addS]
            unfold me addS
            rw [pset_ne (by decide)]
            by_cases q : s = hS h
            · rw [q, pset_eq, Int.toNat_natCast]; exact k.2.1
            · rw [pset_ne2 q]; exact w9 s (by omega)
      · rename_i c3
        rw [if_neg c3]
        split at hl
        · cases hl
        · rename_i c4
          rw [if_neg c4]
          dsimp only at hl ⊢
          obtain ⟨a1, e1, e2, vra, vrb, -⟩ := sgD_inr hl
          obtain ⟨a2, e3, e4, -⟩ := sgN_inr e1
          obtain ⟨a3, e5, e6, vga, vgb, -⟩ := sgD_inr e3
          obtain ⟨a4, e7, e8, -⟩ := sgN_inr e5
          obtain ⟨a5, e9, e10, vwa, vwb, -⟩ := sgD_inr e7
          obtain ⟨a6, e11, e12, -⟩ := sgN_inr e9
          obtain ⟨a7, e13, e14, vba, vbb⟩ := sgI_inr e11
          have kr : 0 ≤ tvR tx st (hR h) (.inr a) ∧ tvR tx st (hR h) (.inr a) < hR h := ⟨vra, by unfold tvR; omega⟩
          have kg : 1 ≤ tvG tx st (.inr a) ∧ tvG tx st (.inr a) ≤ 9 := ⟨vga, vgb⟩
          have kw : 1 ≤ tvW tx st (.inr a) ∧ tvW tx st (.inr a) ≤ 9 := ⟨vwa, vwb⟩
          generalize tvR tx st (hR h) (.inr a) = r at kr
          generalize tvG tx st (.inr a) = g at kg
          generalize tvW tx st (.inr a) = w at kw
          generalize sgIv tx st (.inr a) = bu at vba vbb
          have eo : ∀ o i, o ≠ 0 → (o < 3 ∨ 6 < o) → addT h bu w g r o i = h o i := fun o i h0 h7 => by
            unfold addT
            rw [pset_ne h0, pset_ne (by omega), pset_ne (by omega), pset_ne (by omega), pset_ne (by omega)]
          refine ⟨by rw [hR_addT]; exact w1, by rw [hT_addT]; omega, by rw [hS_addT]; exact w3, fun x hx => ?_, fun p hp => ?_, fun x' y' hx' hy' => ?_, fun x' y' hx' hy' hxy' => ?_, fun t ht => ?_, fun s hs => ?_⟩
          · rw [hR_addT] at hx; rw [eo 1 x (by decide) (by decide)]; exact w4 x hx
          · rw [eo 2 p (by decide) (by decide)]; exact w5 p hp
          · rw [eo 2 _ (by decide) (by decide), eo 2 _ (by decide) (by decide)]; exact w6 x' y' hx' hy'
          · rw [hR_addT] at hxy'; rw [eo 2 _ (by decide) (by decide)]; exact w7 x' y' hx' hy' hxy'
          · rw [hT_addT] at ht
            rw [hR_addT]
            by_cases q : t = hT h
            · have v3 : addT h bu w g r 3 t = bu := by unfold addT; rw [q, pset_ne (by decide), pset_ne (by decide), pset_ne (by decide), pset_ne (by decide), pset_eq]
              have v4 : addT h bu w g r 4 t = w := by unfold addT; rw [q, pset_ne (by decide), pset_ne (by decide), pset_ne (by decide), pset_eq]
              have v5 : addT h bu w g r 5 t = g := by unfold addT; rw [q, pset_ne (by decide), pset_ne (by decide), pset_eq]
              have v6 : addT h bu w g r 6 t = r := by unfold addT; rw [q, pset_ne (by decide), pset_eq]
              rw [v3, v4, v5, v6]
              exact ⟨⟨vba, vbb⟩, kw, kg, kr⟩
            · have v3 : addT h bu w g r 3 t = h 3 t := by unfold addT; rw [pset_ne (by decide), pset_ne (by decide), pset_ne (by decide), pset_ne (by decide), pset_ne2 q]
              have v4 : addT h bu w g r 4 t = h 4 t := by unfold addT; rw [pset_ne (by decide), pset_ne (by decide), pset_ne (by decide), pset_ne2 q, pset_ne (by decide)]
              have v5 : addT h bu w g r 5 t = h 5 t := by unfold addT; rw [pset_ne (by decide), pset_ne (by decide), pset_ne2 q, pset_ne (by decide), pset_ne (by decide)]
              have v6 : addT h bu w g r 6 t = h 6 t := by unfold addT; rw [pset_ne (by decide), pset_ne2 q, pset_ne (by decide), pset_ne (by decide), pset_ne (by decide)]
              rw [v3, v4, v5, v6]
              exact w8 t (by omega)
          · rw [hS_addT] at hs
            rw [hT_addT]
            have e : me (addT h bu w g r) s = me h s := by unfold me; rw [eo 7 s (by decide) (by decide)]
            rw [e]
            exact Nat.lt_trans (w9 s hs) (Nat.pow_lt_pow_right (by decide) (by omega))
