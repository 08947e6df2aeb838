section
/-! fits: what it answers, on both sides -/
section FTS
variable {D d : Nat} {M M' M1 M2 G h : pM} {w1 : List (Nat × Nat)} {v y : Int} {fine : Nat → Bool} {val : Nat → Int}
end FTS
/-! together, may: what they answer, on both sides -/
section TGS
variable {D d R n : Nat} {M M' M1 M2 G h : pM} {w1 : List (Nat × Nat)} {v y : Int} {sz bk : Nat → Int}
end TGS
/-! may: what it answers, on both sides -/
section MAY
variable {D d R n : Nat} {M M' M1 M2 G h : pM} {w1 : List (Nat × Nat)} {v y : Int} {sz bk : Nat → Int}
end MAY
/-! the class chooses by the bulk in a room -/
section BBK
variable {D d R n : Nat} {M M' M1 M2 G h : pM} {w1 : List (Nat × Nat)} {v y : Int} {sz bk : Nat → Int}
end BBK
/-! fullest: what it answers, on both sides -/
section FUL
variable {D d R n : Nat} {M M' M1 M2 G h : pM} {w1 : List (Nat × Nat)} {v y : Int} {sz bk : Nat → Int} {fine : Nat → Bool} {val : Nat → Int}
end FUL
/-! space: what it answers, on both sides -/
section SPC
variable {D d R n : Nat} {M M' M1 M2 G h : pM} {w1 : List (Nat × Nat)} {v y : Int} {fine : Nat → Bool} {val : Nat → Int}
end SPC
/-! near, guest: the least to be carried, on both sides -/
section NEA
variable {D d R n : Nat} {M M' M1 M2 N G h : pM} {w1 : List (Nat × Nat)} {v y : Int} {sz : Nat → Int} {fine : Nat → Bool} {val : Nat → Int}
end NEA
/-! is there an arrangement at all: of some clumps, with other sizes -/
section EXA
variable {D d R n : Nat} {M M' M1 M2 G h N : pM} {w1 : List (Nat × Nat)} {v y : Int} {sz bk : Nat → Int} {q : Nat → Nat}
/-- the parts can be put -/
def EX (R n : Nat) (sz bk : Nat → Int) : Prop := ∃ q : Nat → Nat, (∀ j, j < n → q j < R) ∧ ∀ r, r < R → wlq bk q r n ≤ sz r
theorem ex_code (h1 : 1 ≤ R) (hq : ∀ j, j < n → q j < R) : ∃ c, c < R ^ n ∧ ∀ j, j < n → dg R n c j = q j := by
  have cl := pcd_lt h1 n hq
  exact ⟨pcd R q n, by omega, dg_of (c := pcd R q n) h1 n (Nat.le_refl n) hq (by rw [Nat.sub_self, Nat.pow_zero, Nat.div_one])⟩
theorem EX_iff (h1 : 1 ≤ R ∨ n = 0) : EX R n sz bk ↔ ∃ c, c < R ^ n ∧ fnW R n sz bk c = true := by
  constructor
  · intro ⟨q, q1, q2⟩
    rcases h1 with h1 | h1
    · obtain ⟨c, c1, c2⟩ := ex_code h1 q1
      refine ⟨c, c1, fnW_iff.mpr fun r hr => ?_⟩
      rw [wlq_cg n c2]; exact q2 r hr
    · subst h1
      exact ⟨0, by rw [Nat.pow_zero]; exact Nat.zero_lt_one, fnW_iff.mpr fun r hr => q2 r hr⟩
  · intro ⟨c, c1, c2⟩
    refine ⟨dg R n c, fun j hj => ?_, fnW_iff.mp c2⟩
    rcases h1 with h1 | h1
    · exact dg_lt h1 j
    · omega
theorem x_nextE (hd : 3 ≤ d) (K : WK M R n sz bk) (B : WB0 R n sz bk) (F : WF0 M R n) : ∃ M', (EX R n sz bk → xF d 163 [.inr 34] M = rI 1 M') ∧ (¬ EX R n sz bk → xF d 163 [.inr 34] M = rI 0 M') ∧ ∀ o i, o < 32 → M' o i = M o i := by
  obtain ⟨M', f, r⟩ := x_next0 hd K B F
  refine ⟨M', fun e => ?_, fun e => ?_, fun o i ho => f o i (by omega) (by omega) (by omega)⟩
  · rcases r with ⟨r1, -⟩ | ⟨r1, nf⟩
    · exact r1
    · obtain ⟨c, c1, c2⟩ := (EX_iff B.1).mp e
      have := nf c (Nat.zero_le c) c1
      rw [c2] at this; cases this
  · rcases r with ⟨r1, c, c1, c2, c3, c4⟩ | ⟨r1, nf⟩
    · exact absurd ((EX_iff B.1).mpr ⟨c, c4.2.2.1, c2⟩) e
    · exact r1
/-- some clumps can be put -/
def EG (G : pM) (some : Nat) (sz : Nat → Int) : Prop := ∃ p : Nat → Nat, (∀ i, i < nC G → some.testBit i = true → p i < hR G) ∧ ∀ r, r < hR G → sumTo (fun i => if some.testBit i = true ∧ p i = r then blk G (cOf G i) else 0) (nC G) ≤ sz r
theorem ex_mono {c : Nat → Bool} {i : Nat} : ∀ m, cntTo c i ≤ cntTo c (i + m)
  | 0 => Nat.le_refl _
  | m + 1 => by
    have ih := ex_mono (c := c) (i := i) m
    have e : cntTo c (i + (m + 1)) = if c (i + m) then cntTo c (i + m) + 1 else cntTo c (i + m) := rfl
    rw [e]
    split <;> omega
theorem ex_cnt {c : Nat → Bool} {i n : Nat} (hi : i < n) (hc : c i = true) : cntTo c i < cntTo c n := by
  have e := cnt_succ (c := c) (k := i)
  rw [hc, if_pos rfl] at e
  have m := ex_mono (c := c) (i := i + 1) (n - (i + 1))
  rw [show i + 1 + (n - (i + 1)) = n by omega] at m
  omega
theorem bkL_sum (q : Nat → Nat) (r some : Nat) : ∀ k, wlq (bkL h some k) q r (cntTo some.testBit k) = sumTo (fun i => if some.testBit i = true ∧ q (cntTo some.testBit i) = r then blk h (cOf h i) else 0) k
  | 0 => rfl
  | k + 1 => by
    have ih := bkL_sum q r some k
    have cs := cnt_succ (c := some.testBit) (k := k)
    have st : sumTo (fun i => if some.testBit i = true ∧ q (cntTo some.testBit i) = r then blk h (cOf h i) else 0) (k + 1) = sumTo (fun i => if some.testBit i = true ∧ q (cntTo some.testBit i) = r then blk h (cOf h i) else 0) k + if some.testBit k = true ∧ q (cntTo some.testBit k) = r then blk h (cOf h k) else 0 := rfl
    have be : ∀ i, bkL h some (k + 1) i = if some.testBit k = true ∧ i = cntTo some.testBit k then blk h (cOf h k) else bkL h some k i := fun _ => rfl
    have lo : wlq (bkL h some (k + 1)) q r (cntTo some.testBit k) = wlq (bkL h some k) q r (cntTo some.testBit k) := sumTo_congr fun i hi => by
      have bi : bkL h some (k + 1) i = bkL h some k i := by
        rw [be i, if_neg (fun z => absurd z.2 (Nat.ne_of_lt hi))]
      by_cases z : q i = r
      · rw [if_pos z, if_pos z]; exact bi
      · rw [if_neg z, if_neg z]
    rw [st, ← ih, ← lo]
    by_cases b : some.testBit k = true
    · rw [b, if_pos rfl] at cs
      have bk : bkL h some (k + 1) (cntTo some.testBit k) = blk h (cOf h k) := by
        rw [be (cntTo some.testBit k), if_pos ⟨b, rfl⟩]
      rw [cs, wlq_succ, bk]
      by_cases z : q (cntTo some.testBit k) = r
      · rw [if_pos z, if_pos ⟨b, z⟩]
      · rw [if_neg z, if_neg (fun w => z w.2)]
    · rw [if_neg b] at cs
      rw [cs, if_neg (fun z => b z.1), Int.add_zero]
def qL (p : Nat → Nat) (some : Nat) : Nat → Nat → Nat
  | 0, _ => 0
  | k + 1, j => if some.testBit k = true ∧ j = cntTo some.testBit k then p k else qL p some k j
theorem qL_at (p : Nat → Nat) (some : Nat) : ∀ k i, i < k → some.testBit i = true → qL p some k (cntTo some.testBit i) = p i
  | 0, i, hi, _ => absurd hi (Nat.not_lt_zero i)
  | k + 1, i, hi, hb => by
    have e : qL p some (k + 1) (cntTo some.testBit i) = if some.testBit k = true ∧ cntTo some.testBit i = cntTo some.testBit k then p k else qL p some k (cntTo some.testBit i) := rfl
    rcases Nat.lt_or_ge i k with u | u
    · have := ex_cnt (c := some.testBit) u hb
      rw [e, if_neg (fun z => by have := z.2; omega)]
      exact qL_at p some k i u hb
    · have ik : i = k := by omega
      rw [e, ik, if_pos ⟨by rw [← ik]; exact hb, rfl⟩]
theorem qL_lt {p : Nat → Nat} {some R : Nat} : ∀ k, (∀ i, i < k → some.testBit i = true → p i < R) → ∀ j, j < cntTo some.testBit k → qL p some k j < R
  | 0, _, j, hj => absurd hj (Nat.not_lt_zero j)
  | k + 1, hp, j, hj => by
    have e : qL p some (k + 1) j = if some.testBit k = true ∧ j = cntTo some.testBit k then p k else qL p some k j := rfl
    have cs := cnt_succ (c := some.testBit) (k := k)
    rw [e]
    by_cases z : some.testBit k = true ∧ j = cntTo some.testBit k
    · rw [if_pos z]; exact hp k (Nat.lt_succ_self k) z.1
    · rw [if_neg z]
      refine qL_lt k (fun i hi hb => hp i (by omega) hb) j ?_
      by_cases b : some.testBit k = true
      · rw [if_pos b] at cs
        have : j ≠ cntTo some.testBit k := fun w => z ⟨b, w⟩
        omega
      · rw [if_neg b] at cs
        omega
theorem EX_EG (some : Nat) : EX (hR G) (cntTo some.testBit (nC G)) sz (bkL G some (nC G)) ↔ EG G some sz := by
  constructor
  · intro ⟨q, q1, q2⟩
    refine ⟨fun i => q (cntTo some.testBit i), fun i hi hb => q1 _ (ex_cnt hi hb), fun r hr => ?_⟩
    have := q2 r hr
    rw [bkL_sum] at this
    exact this
  · intro ⟨p, p1, p2⟩
    refine ⟨qL p some (nC G), qL_lt (nC G) p1, fun r hr => ?_⟩
    have e : sumTo (fun i => if some.testBit i = true ∧ qL p some (nC G) (cntTo some.testBit i) = r then blk G (cOf G i) else 0) (nC G) = sumTo (fun i => if some.testBit i = true ∧ p i = r then blk G (cOf G i) else 0) (nC G) := sumTo_congr fun i hi => by
      by_cases b : some.testBit i = true
      · rw [qL_at p some (nC G) i hi b]
      · rw [if_neg (fun w => b w.1), if_neg (fun w => b w.1)]
    rw [bkL_sum, e]
    exact p2 r hr
theorem WB_S (W : WF G) (q : ¬ tmG G) (some : Nat) (hs : ∀ r, r < hR G → -10000 ≤ sz r ∧ sz r ≤ 10000) : WB0 (hR G) (cntTo some.testBit (nC G)) sz (bkL G some (nC G)) := by
  obtain ⟨b1, b2, b3, -, -, b6⟩ := WB_G W q
  have cl := cntTo_le (c := some.testBit) (nC G)
  refine ⟨by omega, b2, by omega, hs, fun j _ => bkL_range W _ j _, ?_⟩
  rcases b1 with b1 | b1
  · exact Nat.le_trans (Nat.pow_le_pow_right b1 cl) b6
  · have e : cntTo some.testBit (nC G) = 0 := by omega
    rw [e, Nat.pow_zero]; decide
noncomputable def exB (P : Prop) : Bool := @decide P (Classical.propDecidable P)
theorem exB_iff {P : Prop} : exB P = true ↔ P := by
  unfold exB
  exact ⟨fun h => @of_decide_eq_true P (Classical.propDecidable P) h, fun h => @decide_eq_true P (Classical.propDecidable P) h⟩
end EXA
/-! could: what it answers, on both sides -/
section COU
variable {D d R n : Nat} {M M' M1 M2 G h N : pM} {w1 : List (Nat × Nat)} {v y : Int} {sz bk : Nat → Int}
theorem orTo_bit {c : Nat → Bool} {f : Nat → Nat} {t : Nat} : ∀ n, (orTo c f n).testBit t = true ↔ ∃ i, i < n ∧ c i = true ∧ (f i).testBit t = true
  | 0 => by
    rw [show orTo c f 0 = 0 from rfl, Nat.zero_testBit]
    exact ⟨fun h => Bool.noConfusion h, fun ⟨i, hi, _⟩ => absurd hi (Nat.not_lt_zero i)⟩
  | n + 1 => by
    have ih := orTo_bit (c := c) (f := f) (t := t) n
    have e : orTo c f (n + 1) = if c n then orTo c f n ||| f n else orTo c f n := rfl
    rw [e]
    constructor
    · intro h
      by_cases z : c n = true
      · rw [if_pos z, Nat.testBit_or, Bool.or_eq_true] at h
        rcases h with h | h
        · obtain ⟨i, i1, i2⟩ := ih.mp h
          exact ⟨i, by omega, i2⟩
        · exact ⟨n, Nat.lt_succ_self n, z, h⟩
      · rw [if_neg z] at h
        obtain ⟨i, i1, i2⟩ := ih.mp h
        exact ⟨i, by omega, i2⟩
    · intro ⟨i, i1, i2, i3⟩
      rcases Nat.lt_or_ge i n with u | u
      · have := ih.mpr ⟨i, u, i2, i3⟩
        by_cases z : c n = true
        · rw [if_pos z, Nat.testBit_or, this, Bool.true_or]
        · rw [if_neg z]; exact this
      · have ei : i = n := by omega
        rw [ei] at i2 i3
        rw [if_pos i2, Nat.testBit_or, i3, Bool.or_true]
theorem tOf_bit (W : WF G) (j : Nat) {t : Nat} (ht : t < hT G) : (tOf G j).testBit t = j.testBit (oOf G t) := by
  have o := (oOf_in W ht).1
  apply Bool.eq_iff_iff.mpr
  unfold tOf
  rw [orTo_bit]
  constructor
  · intro ⟨i, i1, i2, i3⟩
    rw [(oOf_iff W ht i1).mp i3]; exact i2
  · intro h
    exact ⟨oOf G t, o, h, (oOf_iff W ht o).mpr rfl⟩
theorem nan_all {n i j : Nat} (hi : i < n) : (nan (2 ^ n - 1) j).testBit i = true ↔ j.testBit i = false := by
  rw [nan_bit, Nat.testBit_two_pow_sub_one, decide_eq_true hi, Bool.true_and]
  cases j.testBit i
  · exact ⟨fun _ => rfl, fun _ => rfl⟩
  · exact ⟨fun h => Bool.noConfusion h, fun h => Bool.noConfusion h⟩
end COU
/-! build: what it answers, on both sides -/
section BLD
variable {D d R n : Nat} {M M' M1 M2 G h N : pM} {w1 : List (Nat × Nat)} {v y : Int} {sz bk : Nat → Int}
end BLD
/-! sell: the reference's rows when some clumps are sold -/
section SLD
variable {D d R n T C s code W : Nat} {M M' M1 M2 G h N : pM}
def dgS (R C s code c : Nat) : Int := if s.testBit c then -1 else (dg R C code c : Nat)
theorem dgS_range (h1 : 1 ≤ R) (c : Nat) : -1 ≤ dgS R C s code c ∧ dgS R C s code c < R := by
  have := dg_lt (C := C) (code := code) h1 c
  unfold dgS
  split <;> omega
def RWs (M : pM) (R T C s : Nat) : Prop := M 60 0 = (R : Int) ∧ 1 ≤ R ∧ R ≤ 6 ∧ M 60 3 = (T : Int) ∧ T ≤ 10 ∧ M 60 30 = (C : Int) ∧ C ≤ 10 ∧ M 60 38 = (s : Int) ∧ s < 1024 ∧ ∀ t, t < T → ∃ c : Nat, M 72 t = (c : Int) ∧ c < C
theorem RWs_of (a : RWn M M') (h : RWs M R T C s) : RWs M' R T C s := by
  obtain ⟨h1, h2, h3, h4, h5, h6, h7, h8, h9, h10⟩ := h
  refine ⟨by rw [a 60 0 (by decide) (by decide) (by decide)]; exact h1, h2, h3, by rw [a 60 3 (by decide) (by decide) (by decide)]; exact h4, h5, by rw [a 60 30 (by decide) (by decide) (by decide)]; exact h6, h7, by rw [a 60 38 (by decide) (by decide) (by decide)]; exact h8, h9, fun t ht => ?_⟩
  rw [a 72 t (by decide) (by decide) (by omega)]
  exact h10 t ht
def trS (M : pM) (R C s code : Nat) : Nat → Int := fun t => dgS R C s code (M 72 t).toNat
def fnS (M : pM) (R T C s code : Nat) : Bool := allTo (fun r => decide (le32 0 (frF M (trS M R C s code) r T))) R
theorem fnS_of (a : RWn M M') : fnS M' R T C s code = fnS M R T C s code := by
  unfold fnS
  congr 1
  funext r
  have e : frF M' (trS M' R C s code) r T = frF M (trS M R C s code) r T := frF_cg T (fun k => a 61 k (by decide) (by decide) (by omega)) (fun k => a 63 k (by decide) (by decide) (by omega)) (fun t _ => by
    unfold trS
    rw [a 72 t (by decide) (by decide) (by omega)])
  rw [e]
def rsA (R C s code k : Nat) (M : pM) : pM := fun o i => if o = 79 ∧ k ≤ i ∧ i < C then dgS R C s code i else M o i
def rsB (R C s code t : Nat) (M : pM) : pM := fun o i => if o = 78 ∧ i < t then trS M R C s code i else M o i
theorem rsA_ne {k o i : Nat} (h : o ≠ 79) : rsA R C s code k M o i = M o i := by
  unfold rsA
  rw [if_neg (fun z => h z.1)]
theorem rsB_ne {k o i : Nat} (h : o ≠ 78) : rsB R C s code k M o i = M o i := by
  unfold rsB
  rw [if_neg (fun z => h z.1)]
theorem rsA_step {k : Nat} (hk : k < C) : pset (rsA R C s code (k + 1) M) 79 k (dgS R C s code k) = rsA R C s code k M := by
  funext o i
  by_cases q1 : o = 79
  · subst q1
    by_cases q2 : i = k
    · subst q2
      rw [pset_eq]; unfold rsA
      rw [if_pos ⟨rfl, by omega, by omega⟩]
    · rw [pset_ne2 q2]; unfold rsA
      by_cases q : (79 : Nat) = 79 ∧ k + 1 ≤ i ∧ i < C
      · rw [if_pos q, if_pos ⟨rfl, by omega, q.2.2⟩]
      · rw [if_neg q, if_neg (fun z => q ⟨rfl, by omega, z.2.2⟩)]
  · rw [pset_ne q1, rsA_ne q1, rsA_ne q1]
theorem m_sf8 (hD : 1 ≤ D) (h : RWs M R T C s) (hc : code < 2000000) : ∀ k, k ≤ C → xE D 231 8 [.inr 62, .inl (code / R ^ (C - k) : Nat), .inl ((k : Int) - 1)] [] (rsA R C s code k M) = xE D 231 34 [.inr 62, .inl (code / R ^ C : Nat), .inl 0] [] (rsA R C s code 0 M) := by
  obtain ⟨h1, h2, h3, h4, h5, h6, h7, h8, h9, h10⟩ := h
  intro k
  induction k with
  | zero =>
    intro _
    rw [L_M_isFine_8, if_pos (by rw [lt32_iff] <;> omega), Nat.sub_zero]
  | succ k ih =>
    intro hk
    have hv : code / R ^ (C - (k + 1)) < 2000000 := Nat.lt_of_le_of_lt (Nat.div_le_self _ _) hc
    have e0 : ((k + 1 : Nat) : Int) - 1 = (k : Int) := by omega
    have hR : ¬ eq32 (R : Int) 0 := fun z => by
      rw [eq32_iff (by omega) (by omega) (by omega) (by omega)] at z
      omega
    have e1 : code / R ^ (C - (k + 1)) / R = code / R ^ (C - k) := by
      rw [Nat.div_div_eq_div_mul, ← Nat.pow_succ]
      congr 2
      omega
    have e2 := rsA_step (R := R) (s := s) (code := code) (M := M) (show k < C by omega)
    rw [L_M_isFine_8, e0, if_neg (by rw [lt32_iff] <;> omega), rsA_ne (by decide), h8, m_has hD (by omega) (by omega), pbI_rI, ite01]
    cases b : s.testBit k with
    | false =>
      have e3 : ((code / R ^ (C - (k + 1)) % R : Nat) : Int) = dgS R C s code k := by
        unfold dgS dg
        rw [b, if_neg (by decide), show C - (k + 1) = C - 1 - k by omega]
      rw [if_neg (by decide), rsA_ne (by decide), h1, if_neg hR, if_pos (by omega), pset_ne (by decide), rsA_ne (by decide), h1, if_neg hR, jdiv_nat (by omega) (by omega) (by omega), jrem_nat (by omega) (by omega) (by omega), Int.toNat_natCast, e3, e1, e2]
      exact ih (by omega)
    | true =>
      have e3 : (-1 : Int) = dgS R C s code k := by
        unfold dgS
        rw [b, if_pos rfl]
      rw [if_pos rfl, if_pos (by omega), Int.toNat_natCast, e3, e2, rsA_ne (by decide), h1, if_neg hR, jdiv_nat (by omega) (by omega) (by omega), e1]
      have ih := ih (by omega)
      rw [show ((k : Int) + dgS R C s code k) = (k : Int) - 1 by rw [← e3]; rfl]
      exact ih
theorem m_sf34 (h : RWs M R T C s) (x1 : Int) : ∀ m t, t + m = T → xE D 231 34 [.inr 62, .inl x1, .inl (t : Int)] [] (rsB R C s code t (rsA R C s code 0 M)) = xE D 231 53 [.inr 62, .inl x1, .inl 0] [] (rsB R C s code T (rsA R C s code 0 M)) := by
  obtain ⟨h1, h2, h3, h4, h5, h6, h7, h8, h8', h9⟩ := h
  intro m
  induction m with
  | zero =>
    intro t ht
    rw [L_M_isFine_34, rsB_ne (by decide), rsA_ne (by decide), h4, if_pos (by rw [le32_iff] <;> omega), show t = T by omega]
  | succ m ih =>
    intro t ht
    obtain ⟨c, hc, hcl⟩ := h9 t (by omega)
    have e1 : ((t : Int) + 1) = ((t + 1 : Nat) : Int) := by omega
    have e72 : rsB R C s code t (rsA R C s code 0 M) 72 t = (c : Int) := by rw [rsB_ne (by decide), rsA_ne (by decide), hc]
    rw [L_M_isFine_34, rsB_ne (by decide), rsA_ne (by decide), h4, if_neg (by rw [le32_iff] <;> omega), if_pos (by omega), Int.toNat_natCast, e72, if_pos (by omega), if_pos (by omega), Int.toNat_natCast, rsB_ne (by decide)]
    have e2 : rsA R C s code 0 M 79 c = dgS R C s code c := by
      unfold rsA
      rw [if_pos ⟨rfl, Nat.zero_le _, hcl⟩]
    have e3 : pset (rsB R C s code t (rsA R C s code 0 M)) 78 t (dgS R C s code c) = rsB R C s code (t + 1) (rsA R C s code 0 M) := by
      funext o i
      by_cases q1 : o = 78
      · subst q1
        by_cases q2 : i = t
        · subst q2
          rw [pset_eq]; unfold rsB
          rw [if_pos ⟨rfl, by omega⟩]
          unfold trS
          rw [rsA_ne (by decide), hc, Int.toNat_natCast]
        · rw [pset_ne2 q2]; unfold rsB
          by_cases q : (78 : Nat) = 78 ∧ i < t
          · rw [if_pos q, if_pos ⟨rfl, by omega⟩]
          · rw [if_neg q, if_neg (fun z => q ⟨rfl, by omega⟩)]
      · rw [pset_ne q1, rsB_ne q1, rsB_ne q1]
    rw [e2, e3, e1]
    exact ih (t + 1) (by omega)
def isS (R T C s code : Nat) (M : pM) : pM := rsB R C s code T (rsA R C s code 0 M)
theorem isS_n : RWn M (isS R T C s code M) := fun o i a b _ => by
  unfold isS
  rw [rsB_ne a, rsA_ne b]
theorem isS_78 {t : Nat} (ht : t < T) : isS R T C s code M 78 t = trS M R C s code t := by
  unfold isS rsB
  rw [if_pos ⟨rfl, ht⟩]
  unfold trS
  rw [rsA_ne (by decide)]
theorem isS_40 : isS R T C s code M 60 40 = M 60 40 := by
  unfold isS
  rw [rsB_ne (by decide), rsA_ne (by decide)]
theorem m_isFineS (hd : 2 ≤ d) (h : RWs M R T C s) (hc : M 60 40 = (code : Int)) (hc2 : code < 2000000) : xF d 231 [.inr 62] M = rI (if fnS M R T C s code then 1 else 0) (isS R T C s code M) := by
  obtain ⟨D, rfl, hD⟩ := dsucc hd
  have e8 := m_sf8 hD h hc2 C (Nat.le_refl C)
  have eA : rsA R C s code C M = M := by
    funext o i
    unfold rsA
    rw [if_neg (fun z => by omega)]
  have eB : rsB R C s code 0 (rsA R C s code 0 M) = rsA R C s code 0 M := by
    funext o i
    unfold rsB
    rw [if_neg (fun z => absurd z.2 (Nat.not_lt_zero i))]
  rw [eA, Nat.sub_self, Nat.pow_zero, Nat.div_one] at e8
  have e34 := m_sf34 (D := D) (code := code) h ((code / R ^ C : Nat) : Int) T 0 (by omega)
  rw [eB] at e34
  have h' := RWs_of (isS_n (R := R) (T := T) (C := C) (s := s) (code := code)) h
  rw [T_M_isFine, hc, h.2.2.2.2.2.1, e8, show (.inl 0 : pV) = .inl ((0 : Nat) : Int) from rfl, e34]
  have efr : ∀ r : Int, frF (isS R T C s code M) (isS R T C s code M 78) r T = frF M (trS M R C s code) r T := fun r => frF_cg T (fun k => isS_n 61 k (by decide) (by decide) (by omega)) (fun k => isS_n 63 k (by decide) (by decide) (by omega)) (fun t ht => isS_78 ht)
  have key : ∀ m r, r + m = R → allTo (fun r => decide (le32 0 (frF M (trS M R C s code) r T))) r = true → xE D 231 53 [.inr 62, .inl ((code / R ^ C : Nat) : Int), .inl (r : Int)] [] (isS R T C s code M) = rI (if fnS M R T C s code then 1 else 0) (isS R T C s code M) := by
    intro m
    induction m with
    | zero =>
      intro r hr ha
      have hR := h.2.2.1
      have e : r = R := by omega
      subst e
      rw [L_M_isFine_53, h'.1, if_pos (by rw [le32_iff] <;> omega)]
      unfold fnS
      rw [ha]; rfl
    | succ m ih =>
      intro r hr ha
      have hR := h.2.2.1
      have e1 : ((r : Int) + 1) = ((r + 1 : Nat) : Int) := by omega
      rw [L_M_isFine_53, h'.1, if_neg (by rw [le32_iff] <;> omega), m_freeIn_78 hD h'.2.2.2.1 h'.2.2.2.2.1 (by omega), pbI_rI, efr]
      by_cases q : le32 0 (frF M (trS M R C s code) r T)
      · rw [if_pos q, e1]
        exact ih (r + 1) (by omega) (by
          unfold allTo
          rw [ha, decide_eq_true q]; rfl)
      · rw [if_neg q]
        have : fnS M R T C s code = false := by
          cases hb : fnS M R T C s code with
          | false => rfl
          | true =>
            unfold fnS at hb
            have := allTo_iff.mp hb r (by omega)
            rw [decide_eq_false q] at this
            cases this
        rw [this]; rfl
  exact key R 0 (by omega) rfl
theorem m_ns6 (hD : 2 ≤ D) (hW : W ≤ 1000000) : ∀ m code M, W ≤ code + m → code ≤ W → RWs M R T C s → M 60 39 = (W : Int) → M 60 40 = (code : Int) → ∃ M', RWn M M' ∧ ((xE D 230 6 [.inr 62] [] M = rI 0 M' ∧ ∀ c, code ≤ c → c < W → fnS M R T C s c = false) ∨ (xE D 230 6 [.inr 62] [] M = rI 1 M' ∧ ∃ c, c < W ∧ fnS M R T C s c = true)) := by
  intro m
  induction m with
  | zero =>
    intro code M hm hc h h39 h40
    refine ⟨M, RWn_rfl, Or.inl ⟨?_, fun c h1 h2 => by omega⟩⟩
    rw [L_M_nextRow_6, h39, h40, if_pos (by rw [le32_iff] <;> omega)]
  | succ m ih =>
    intro code M hm hc h h39 h40
    by_cases q : W ≤ code
    · refine ⟨M, RWn_rfl, Or.inl ⟨?_, fun c h1 h2 => by omega⟩⟩
      rw [L_M_nextRow_6, h39, h40, if_pos (by rw [le32_iff] <;> omega)]
    · have n1 := isS_n (R := R) (T := T) (C := C) (s := s) (code := code) (M := M)
      rw [L_M_nextRow_6, h39, h40, if_neg (by rw [le32_iff] <;> omega), m_isFineS hD h h40 (by omega), pbI_rI, ite01]
      cases hb : fnS M R T C s code with
      | true => exact ⟨_, n1, Or.inr ⟨rfl, code, by omega, hb⟩⟩
      | false =>
        rw [if_neg (by decide), isS_40, h40]
        have n2 : RWn M (pset (isS R T C s code M) 60 40 ((code : Int) + 1)) := fun o i a b c => by
          unfold pset
          rw [if_neg c]
          exact n1 o i a b c
        obtain ⟨M', n, r⟩ := ih (code + 1) (pset (isS R T C s code M) 60 40 ((code : Int) + 1)) (by omega) (by omega) (RWs_of n2 h) (by rw [n2 60 39 (by decide) (by decide) (by decide)]; exact h39) (by rw [pset_eq]; omega)
        refine ⟨M', RWn_tr n2 n, ?_⟩
        rcases r with ⟨r1, r2⟩ | ⟨r1, c1, r2, r3⟩
        · refine Or.inl ⟨r1, fun c h1 h2 => ?_⟩
          rcases Nat.lt_or_ge code c with y | y
          · rw [← fnS_of n2]; exact r2 c y h2
          · rw [show c = code by omega]; exact hb
        · exact Or.inr ⟨r1, c1, r2, by rw [← fnS_of n2]; exact r3⟩
theorem fr_sumS {p : Nat → Int} (hp : ∀ t, t < hT h → -1 ≤ p t ∧ p t < 6) {r : Int} (hr : 0 ≤ r ∧ r < 6) (h63 : ∀ t, t < hT h → M 63 t = h 3 t) : ∀ k, k ≤ hT h → frF M p r k = M 61 r.toNat - sumTo (fun t => if p t = r then h 3 t else 0) k
  | 0, _ => by
    show M 61 r.toNat = M 61 r.toNat - 0
    omega
  | k + 1, hk => by
    have ih := fr_sumS hp hr h63 k (by omega)
    have hpk := hp k (by omega)
    show (if eq32 (p k) r then frF M p r k - M 63 k else frF M p r k - 0) = M 61 r.toNat - (sumTo (fun t => if p t = r then h 3 t else 0) k + if p k = r then h 3 k else 0)
    rw [ih, h63 k (by omega)]
    by_cases q : p k = r
    · rw [if_pos (by rw [q]), if_pos q]; omega
    · rw [if_neg (by rw [eq32_iff] <;> omega), if_neg q]; omega
/-- without the clumps of s the rest can be put -/
def feG (G : pM) (s : Nat) : Prop := EG G (nan (2 ^ nC G - 1) s) (G 1)
theorem feG_all (W : WF G) : feG G (2 ^ nC G - 1) := by
  refine ⟨fun _ => 0, fun i hi hb => ?_, fun r hr => ?_⟩
  · have := (nan_all (j := 2 ^ nC G - 1) hi).mp hb
    rw [Nat.testBit_two_pow_sub_one, decide_eq_true hi] at this; cases this
  · have e : sumTo (fun i => if (nan (2 ^ nC G - 1) (2 ^ nC G - 1)).testBit i = true ∧ 0 = r then blk G (cOf G i) else 0) (nC G) = sumTo (fun _ => (0 : Int)) (nC G) := sumTo_congr fun i hi => by
      rw [if_neg (fun w => by
        have := (nan_all (j := 2 ^ nC G - 1) hi).mp w.1
        rw [Nat.testBit_two_pow_sub_one, decide_eq_true hi] at this; cases this)]
    rw [e, sumTo_0]
    have := W.2.2.2.1 r hr
    omega
theorem fnS_iff (W : WF G) (X : MH M G) (h72 : ∀ t, t < hT G → M 72 t = (oOf G t : Int)) (h1 : 1 ≤ hR G) {c : Nat} : fnS M (hR G) (hT G) (nC G) s c = true ↔ ∀ r, r < hR G → sumTo (fun i => if (nan (2 ^ nC G - 1) s).testBit i = true ∧ dg (hR G) (nC G) c i = r then blk G (cOf G i) else 0) (nC G) ≤ G 1 r := by
  have w1 := W.1
  have w2 := W.2.1
  unfold fnS
  rw [allTo_iff]
  have key : ∀ r, r < hR G → (decide (le32 0 (frF M (trS M (hR G) (nC G) s c) r (hT G))) = true ↔ sumTo (fun i => if (nan (2 ^ nC G - 1) s).testBit i = true ∧ dg (hR G) (nC G) c i = r then blk G (cOf G i) else 0) (nC G) ≤ G 1 r) := fun r hr => by
    have sb := W.2.2.2.1 r hr
    have ts : ∀ t, t < hT G → trS M (hR G) (nC G) s c t = dgS (hR G) (nC G) s c (oOf G t) := fun t ht => by
      unfold trS
      rw [h72 t ht, Int.toNat_natCast]
    have e1 := fr_sumS (h := G) (M := M) (p := trS M (hR G) (nC G) s c) (r := (r : Int)) (fun t ht => by
      have := dgS_range (R := hR G) (C := nC G) (s := s) (code := c) h1 (oOf G t)
      rw [ts t ht]; omega) (by omega) (fun t ht => (X.2.2.2.2.2.1 t ht).1) (hT G) (Nat.le_refl _)
    have e2 : sumTo (fun t => if trS M (hR G) (nC G) s c t = (r : Int) then G 3 t else 0) (hT G) = sumTo (fun t => if (if s.testBit (oOf G t) = true then 6 else dg (hR G) (nC G) c (oOf G t)) = r then G 3 t else 0) (hT G) := sumTo_congr fun t ht => by
      rw [ts t ht]
      unfold dgS
      by_cases b : s.testBit (oOf G t) = true
      · rw [if_pos b, if_pos b, if_neg (by omega), if_neg (by omega)]
      · rw [if_neg b, if_neg b]
        by_cases z : dg (hR G) (nC G) c (oOf G t) = r
        · rw [if_pos z, if_pos (by omega)]
        · rw [if_neg z, if_neg (by omega)]
    have e3 := blk_parts W (fun i => if s.testBit i = true then 6 else dg (hR G) (nC G) c i) r
    have e4 : wlq (fun i => blk G (cOf G i)) (fun i => if s.testBit i = true then 6 else dg (hR G) (nC G) c i) r (nC G) = sumTo (fun i => if (nan (2 ^ nC G - 1) s).testBit i = true ∧ dg (hR G) (nC G) c i = r then blk G (cOf G i) else 0) (nC G) := sumTo_congr fun i hi => by
      show (if (if s.testBit i = true then 6 else dg (hR G) (nC G) c i) = r then blk G (cOf G i) else 0) = _
      by_cases b : s.testBit i = true
      · rw [if_pos b, if_neg (by omega), if_neg (fun w => by
          have := (nan_all hi).mp w.1
          rw [b] at this; cases this)]
      · have b2 : (nan (2 ^ nC G - 1) s).testBit i = true := (nan_all hi).mpr (by
          cases y : s.testBit i with
          | false => rfl
          | true => exact absurd y b)
        rw [if_neg b]
        by_cases z : dg (hR G) (nC G) c i = r
        · rw [if_pos z, if_pos ⟨b2, z⟩]
        · rw [if_neg z, if_neg (fun w => z w.2)]
    have rg := sumTo_range (f := fun t => if trS M (hR G) (nC G) s c t = (r : Int) then G 3 t else 0) (lo := 0) (hi := 99) (n := hT G) (fun t ht => by
      have := (W.2.2.2.2.2.2.2.1 t ht).1
      show 0 ≤ (if trS M (hR G) (nC G) s c t = (r : Int) then G 3 t else 0) ∧ (if trS M (hR G) (nC G) s c t = (r : Int) then G 3 t else 0) ≤ 99
      split <;> omega)
    have e5 := e2.trans (e3.trans e4)
    rw [e5] at rg e1
    rw [e1, Int.toNat_natCast, X.2.2.2.1 r hr]
    constructor
    · intro z
      have z := of_decide_eq_true z
      rw [le32_iff (by omega) (by omega) (by omega) (by omega)] at z
      omega
    · intro z
      exact decide_eq_true ((le32_iff (by omega) (by omega) (by omega) (by omega)).mpr (by omega))
  exact ⟨fun h r hr => (key r hr).mp (h r hr), fun h r hr => (key r hr).mpr (h r hr)⟩
theorem feG_rows (W : WF G) (X : MH M G) (h72 : ∀ t, t < hT G → M 72 t = (oOf G t : Int)) (h1 : 1 ≤ hR G) : feG G s ↔ ∃ c, c < hR G ^ nC G ∧ fnS M (hR G) (hT G) (nC G) s c = true := by
  constructor
  · intro ⟨p, p1, p2⟩
    obtain ⟨c, c1, c2⟩ := ex_code (R := hR G) (n := nC G) (q := fun i => if (nan (2 ^ nC G - 1) s).testBit i = true then p i else 0) h1 (fun i hi => by
      by_cases z : (nan (2 ^ nC G - 1) s).testBit i = true
      · rw [if_pos z]; exact p1 i hi z
      · rw [if_neg z]; omega)
    refine ⟨c, c1, (fnS_iff W X h72 h1).mpr fun r hr => ?_⟩
    have e : sumTo (fun i => if (nan (2 ^ nC G - 1) s).testBit i = true ∧ dg (hR G) (nC G) c i = r then blk G (cOf G i) else 0) (nC G) = sumTo (fun i => if (nan (2 ^ nC G - 1) s).testBit i = true ∧ p i = r then blk G (cOf G i) else 0) (nC G) := sumTo_congr fun i hi => by
      by_cases z : (nan (2 ^ nC G - 1) s).testBit i = true
      · rw [c2 i hi, if_pos z]
      · rw [if_neg (fun w => z w.1), if_neg (fun w => z w.1)]
    rw [e]
    exact p2 r hr
  · intro ⟨c, c1, c2⟩
    exact ⟨dg (hR G) (nC G) c, fun i _ _ => dg_lt h1 i, (fnS_iff W X h72 h1).mp c2⟩
end SLD
/-! sell: what it answers, on both sides -/
section SEL
variable {D d : Nat} {M M' M1 M2 G h N : pM} {w1 : List (Nat × Nat)} {v y : Int}
/-- a is less to sell than b -/
def lsB (G : pM) (a b : Nat) : Bool := decide (popc a < popc b ∨ (popc a = popc b ∧ (blk G a < blk G b ∨ (blk G a = blk G b ∧ a < b))))
theorem lsB_iff {a b : Nat} : lsB G a b = true ↔ popc a < popc b ∨ (popc a = popc b ∧ (blk G a < blk G b ∨ (blk G a = blk G b ∧ a < b))) := by
  unfold lsB
  exact ⟨fun h => of_decide_eq_true h, fun h => decide_eq_true h⟩
theorem x_less (hd : 3 ≤ d) (W : WF G) (X : XH M G) {a b : Nat} (ha : a < 1024) (hb : b < 1024) : xF d 106 [.inr 9, .inl (a : Int), .inl (b : Int)] M = rI (if lsB G a b then 1 else 0) M := by
  obtain ⟨D, rfl, hD⟩ := dsucc hd
  have pa := popc_le a
  have pb := popc_le b
  have ba := blk_range W a
  have bb := blk_range W b
  rw [T_House_isLessToSell, j_bitCount (by omega) hb, pbI_rI, j_bitCount (by omega) ha, pbI_rI]
  by_cases q : popc a = popc b
  · rw [if_pos (by rw [eq32_iff] <;> omega), c_bulkOf hD W X (by omega), pbI_rI, c_bulkOf hD W X (by omega), pbI_rI]
    by_cases q2 : blk G a = blk G b
    · rw [if_pos (by rw [eq32_iff] <;> omega)]
      by_cases q3 : a < b
      · rw [if_neg (by rw [le32_iff] <;> omega), if_pos (lsB_iff.mpr (Or.inr ⟨q, Or.inr ⟨q2, q3⟩⟩))]
      · rw [if_pos (by rw [le32_iff] <;> omega), if_neg (fun w => by have := lsB_iff.mp w; omega)]
    · rw [if_neg (by rw [eq32_iff] <;> omega)]
      by_cases q3 : blk G a < blk G b
      · rw [if_neg (by rw [le32_iff] <;> omega), if_pos (lsB_iff.mpr (Or.inr ⟨q, Or.inl q3⟩))]
      · rw [if_pos (by rw [le32_iff] <;> omega), if_neg (fun w => by have := lsB_iff.mp w; omega)]
  · rw [if_neg (by rw [eq32_iff] <;> omega)]
    by_cases q3 : popc a < popc b
    · rw [if_neg (by rw [le32_iff] <;> omega), if_pos (lsB_iff.mpr (Or.inl q3))]
    · rw [if_pos (by rw [le32_iff] <;> omega), if_neg (fun w => by have := lsB_iff.mp w; omega)]
theorem m_less (hd : 3 ≤ d) (W : WF G) (X : MH M G) {a b : Nat} (ha : a < 1024) (hb : b < 1024) : xF d 247 [.inr 62, .inl (a : Int), .inl (b : Int)] M = rI (if lsB G a b then 1 else 0) M := by
  obtain ⟨D, rfl, hD⟩ := dsucc hd
  have pa := popc_le a
  have pb := popc_le b
  have ba := blk_range W a
  have bb := blk_range W b
  rw [T_M_isLess, j_bitCount (by omega) ha, pbI_rI, j_bitCount (by omega) hb, pbI_rI]
  by_cases q : popc a = popc b
  · rw [if_pos (by rw [eq32_iff] <;> omega), m_bulkOf hD W X (by omega), pbI_rI, m_bulkOf hD W X (by omega), pbI_rI]
    by_cases q2 : blk G a = blk G b
    · rw [if_pos (by rw [eq32_iff] <;> omega)]
      by_cases q3 : a < b
      · rw [if_neg (by rw [le32_iff] <;> omega), if_pos (lsB_iff.mpr (Or.inr ⟨q, Or.inr ⟨q2, q3⟩⟩))]
      · rw [if_pos (by rw [le32_iff] <;> omega), if_neg (fun w => by have := lsB_iff.mp w; omega)]
    · rw [if_neg (by rw [eq32_iff] <;> omega)]
      by_cases q3 : blk G a < blk G b
      · rw [if_neg (by rw [le32_iff] <;> omega), if_pos (lsB_iff.mpr (Or.inr ⟨q, Or.inl q3⟩))]
      · rw [if_pos (by rw [le32_iff] <;> omega), if_neg (fun w => by have := lsB_iff.mp w; omega)]
  · rw [if_neg (by rw [eq32_iff] <;> omega)]
    by_cases q3 : popc a < popc b
    · rw [if_neg (by rw [le32_iff] <;> omega), if_pos (lsB_iff.mpr (Or.inl q3))]
    · rw [if_pos (by rw [le32_iff] <;> omega), if_neg (fun w => by have := lsB_iff.mp w; omega)]
/-- what one side, what the other has found so far -/
noncomputable def seC (G : pM) : Nat → Nat
  | 0 => 2 ^ hT G - 1
  | s + 1 => if lsB G (tOf G s) (seC G s) = true ∧ exB (feG G s) = true then tOf G s else seC G s
noncomputable def seR (G : pM) : Nat → Int
  | 0 => -1
  | s + 1 => if (seR G s = -1 ∨ lsB G (tOf G s) (seR G s).toNat = true) ∧ exB (feG G s) = true then (tOf G s : Nat) else seR G s
theorem seC_lt (W : WF G) : ∀ s, seC G s < 1024
  | 0 => by
    have := p_T W
    have := Nat.two_pow_pos (hT G)
    show 2 ^ hT G - 1 < 1024
    omega
  | s + 1 => by
    have ih := seC_lt W s
    unfold seC
    split
    · exact tOf_lt W s
    · exact ih
theorem seR_range (W : WF G) : ∀ s, -1 ≤ seR G s ∧ seR G s < 1024
  | 0 => by show (-1 : Int) ≤ -1 ∧ (-1 : Int) < 1024; omega
  | s + 1 => by
    have ih := seR_range W s
    have := tOf_lt W s
    unfold seR
    split <;> omega
theorem x_se12 (hD : 4 ≤ D) (W : WF G) (q : ¬ tmG G) : ∀ m s (y3 : pV) (M : pM), s + m = 2 ^ nC G → XH M G → CL M G → xE (D + 1) 32 12 [.inr 2, .inl (seC G s : Nat), .inl (s : Int), y3] [] M = rI v M' → v = (popc (seC G (2 ^ nC G)) : Nat)
  | 0, s, y3, M, hk, X, C, e => by
    have n10 := nC_le W
    have p : 2 ^ nC G ≤ 1024 := pow_le_of n10
    rw [L_X_sell_12, C.1, jshl_one (nC G) (by omega), if_pos (by rw [le32_iff] <;> omega)] at e
    obtain ⟨M3, -, e⟩ := pbN_inv e
    obtain ⟨M4, -, e⟩ := pbN_inv e
    rw [j_bitCount (by omega) (seC_lt W s), pbI_rI] at e
    rw [show 2 ^ nC G = s by omega]
    exact (rI_inj e).1.symm
  | m + 1, s, y3, M, hk, X, C, e => by
    have n10 := nC_le W
    have p : 2 ^ nC G ≤ 1024 := pow_le_of n10
    have p1 : 1 ≤ 2 ^ nC G := Nat.one_le_two_pow
    have nl := nan_le (2 ^ nC G - 1) s
    have b : seC G (s + 1) = if lsB G (tOf G s) (seC G s) = true ∧ exB (feG G s) = true then tOf G s else seC G s := rfl
    have ih := fun y3 M X C => x_se12 hD W q m (s + 1) y3 M (by omega) X C
    rw [L_X_sell_12, C.1, jshl_one (nC G) (by omega), if_neg (by rw [le32_iff] <;> omega), c_thingsOf (by omega) W C (by omega), pbI_rI, x_less (by omega) W X (tOf_lt W s) (seC_lt W s), pbI_rI, ite01, show ((s : Int) + 1) = ((s + 1 : Nat) : Int) by omega] at e
    cases l : lsB G (tOf G s) (seC G s) with
    | false =>
      rw [l, if_neg (by decide)] at e
      rw [l, if_neg (fun w => by cases w.1)] at b
      rw [b] at ih
      exact ih _ M X C e
    | true =>
      obtain ⟨N1, s1, s2, s3, s4, s5⟩ := x_start (d := D + 1) (by omega) W X C (some := nan (2 ^ nC G - 1) s) (by omega)
      have B := WB_S W q (nan (2 ^ nC G - 1) s) (sz := G 1) (fun r hr => by
        have := W.2.2.2.1 r hr
        omega)
      obtain ⟨N2, n1, n2, n3⟩ := x_nextE (d := D + 1) (by omega) s2 B s3
      have lo : ∀ o i, o < 32 → N2 o i = M o i := fun o i ho => by rw [n3 o i ho, s5 o i (by omega)]
      rw [l, if_pos rfl, T_House_allClumps, C.1, pbI_rI, jshl_one (nC G) (by omega), show (((2 ^ nC G : Nat) : Int) - 1) = ((2 ^ nC G - 1 : Nat) : Int) by omega, jxor_m1 (by omega), jand_not (by omega) (by omega), s1, pbN_rV] at e
      rw [l] at b
      by_cases z : feG G s
      · rw [n1 ((EX_EG _).mpr z), pbI_rI, if_neg (by decide)] at e
        rw [if_pos ⟨rfl, exB_iff.mpr z⟩] at b
        rw [b] at ih
        exact ih _ N2 (XH_hi lo X) (CL_hi lo C) e
      · rw [n2 (fun w => z ((EX_EG _).mp w)), pbI_rI, if_pos (by decide)] at e
        rw [if_neg (fun w => z (exB_iff.mp w.2))] at b
        rw [b] at ih
        exact ih _ N2 (XH_hi lo X) (CL_hi lo C) e
/-- the reference between two sets -/
def SL (M G : pM) : Prop := MH M G ∧ M 60 30 = (nC G : Int) ∧ M 60 39 = ((hR G ^ nC G : Nat) : Int) ∧ (∀ t, t < hT G → M 72 t = (oOf G t : Int)) ∧ ∀ i, i < nC G → M 73 i = (cOf G i : Int)
theorem SL_fr (fr : ∀ o i, (60 ≤ o ∧ o ≤ 73) → ¬ (o = 60 ∧ (i = 38 ∨ i = 40)) → M' o i = M o i) (S : SL M G) : SL M' G := by
  obtain ⟨s1, s2, s3, s4, s5⟩ := S
  exact ⟨MH_c (fun o i h1 h2 => fr o i (by omega) (by omega)) s1, by rw [fr 60 30 (by omega) (by omega)]; exact s2, by rw [fr 60 39 (by omega) (by omega)]; exact s3, fun t ht => by rw [fr 72 t (by omega) (by omega)]; exact s4 t ht, fun i hi => by rw [fr 73 i (by omega) (by omega)]; exact s5 i hi⟩
theorem m_seF (hd : 4 ≤ d) (W : WF G) (hW : hR G ^ nC G ≤ 20000) {s : Nat} (hs : s < 1024) (hs2 : s ≠ 2 ^ nC G - 1) (hs3 : s < 2 ^ nC G) (S : SL M G) (h38 : M 60 38 = (s : Int)) : ∃ M1 M2, xF d 229 [.inr 62] M = rV M1 ∧ SL M2 G ∧ (feG G s → xF d 230 [.inr 62] M1 = rI 1 M2) ∧ (¬ feG G s → xF d 230 [.inr 62] M1 = rI 0 M2) := by
  obtain ⟨D, rfl, hD⟩ := dsucc hd
  have w1 := W.1
  have w2 := W.2.1
  have n10 := nC_le W
  have n1 : 1 ≤ nC G := by
    rcases Nat.eq_zero_or_pos (nC G) with z | z
    · rw [z] at hs2 hs3; simp at hs2 hs3; omega
    · exact z
  have t1 : 1 ≤ hT G := by have := nC_T G; omega
  have h1 : 1 ≤ hR G := by
    have := (W.2.2.2.2.2.2.2.1 0 t1).2.2.2
    omega
  have f0 : ∀ o i, ¬ (o = 60 ∧ i = 40) → pset M 60 40 (-1) o i = M o i := fun o i h => by
    unfold pset
    rw [if_neg h]
  have f1 : ∀ o i, ¬ (o = 60 ∧ i = 40) → pset (pset M 60 40 (-1)) 60 40 ((0 : Nat) : Int) o i = M o i := fun o i h => by
    unfold pset
    rw [if_neg h, if_neg h]
  have S1 : SL (pset (pset M 60 40 (-1)) 60 40 ((0 : Nat) : Int)) G := SL_fr (fun o i _ b => f1 o i (by omega)) S
  have RX : RWs (pset (pset M 60 40 (-1)) 60 40 ((0 : Nat) : Int)) (hR G) (hT G) (nC G) s := ⟨S1.1.1, h1, w1, S1.1.2.1, w2, S1.2.1, n10, by rw [f1 60 38 (by omega)]; exact h38, hs, fun t ht => ⟨oOf G t, S1.2.2.2.1 t ht, (oOf_in W ht).1⟩⟩
  obtain ⟨N, n, r⟩ := m_ns6 (D := D) (by omega) (W := hR G ^ nC G) (by omega) (hR G ^ nC G) 0 (pset (pset M 60 40 (-1)) 60 40 ((0 : Nat) : Int)) (by omega) (Nat.zero_le _) RX S1.2.2.1 pset_eq
  have fe := feG_rows (s := s) W S1.1 S1.2.2.2.1 h1
  have e0 : xF (D + 1) 230 [.inr 62] (pset M 60 40 (-1)) = xE D 230 6 [.inr 62] [] (pset (pset M 60 40 (-1)) 60 40 ((0 : Nat) : Int)) := by
    rw [T_M_nextRow, pset_eq]
    rfl
  refine ⟨pset M 60 40 (-1), N, by rw [T_M_beginRows], SL_fr (fun o i a b => n o i (by omega) (by omega) (by omega)) S1, fun z => ?_, fun z => ?_⟩
  · rw [e0]
    rcases r with ⟨r1, r2⟩ | ⟨r1, -⟩
    · obtain ⟨c, c1, c2⟩ := fe.mp z
      rw [r2 c (Nat.zero_le c) c1] at c2; cases c2
    · exact r1
  · rw [e0]
    rcases r with ⟨r1, -⟩ | ⟨r1, c, c1, c2⟩
    · exact r1
    · exact absurd (fe.mpr ⟨c, c1, c2⟩) z
/-- what a set comes to -/
theorem m_se22 (hD : 4 ≤ D) (W : WF G) (hW : hR G ^ nC G ≤ 20000) {s : Nat} (hs : s < 2 ^ nC G) : ∀ m k (x4 : Int) (M : pM), k + m = nC G → x4 = (k : Int) → SL M G → ∃ (y3 y4 : pV) (M' : pM), SL M' G ∧ xE D 246 22 [.inr 62, .inl (seR G s), .inl (s : Int), .inl (orTo s.testBit (cOf G) k : Nat), .inl x4] [] M = xE D 246 12 [.inr 62, .inl (seR G (s + 1)), .inl ((s + 1 : Nat) : Int), y3, y4] [] M'
  | 0, k, x4, M, hk, hx, S => by
    have n10 := nC_le W
    have p : 2 ^ nC G ≤ 1024 := pow_le_of n10
    have p1 : 1 ≤ 2 ^ nC G := Nat.one_le_two_pow
    have tl := tOf_lt W s
    have sr := seR_range W s
    have b : seR G (s + 1) = if (seR G s = -1 ∨ lsB G (tOf G s) (seR G s).toNat = true) ∧ exB (feG G s) = true then ((tOf G s : Nat) : Int) else seR G s := rfl
    have te : orTo s.testBit (cOf G) k = tOf G s := by
      unfold tOf
      rw [show k = nC G by omega]
    have k30 : ∀ v : Int, pset M 60 38 v 60 30 = (nC G : Int) := fun v => by rw [pset_ne2 (by decide)]; exact S.2.1
    have al : ((2 ^ nC G : Nat) : Int) - 1 = ((2 ^ nC G - 1 : Nat) : Int) := by omega
    have s1 : ((s : Int) + 1) = ((s + 1 : Nat) : Int) := by omega
    have Ss : SL (pset M 60 38 (s : Int)) G := SL_fr (fun o i _ h => by
      unfold pset
      rw [if_neg (by omega)]) S
    rw [L_M_sell_22, S.2.1, hx, if_pos (by rw [le32_iff] <;> omega), te]
    -- the set is asked for
    have ask : (seR G s = -1 ∨ lsB G (tOf G s) (seR G s).toNat = true) → ∃ (y3 y4 : pV) (M' : pM), SL M' G ∧ (if ¬ eq32 (s : Int) ((jshl 1 ((pset M 60 38 (s : Int)) 60 30)) - 1) then (if ¬ eq32 0 0 then (if eq32 0 0 then xE D 246 12 [.inr 62, .inl (seR G s), .inl ((s : Int) + 1), .inl ((tOf G s : Nat) : Int), .inl 0] [] (pset M 60 38 (s : Int)) else xE D 246 12 [.inr 62, .inl ((tOf G s : Nat) : Int), .inl ((s : Int) + 1), .inl ((tOf G s : Nat) : Int), .inl 0] [] (pset M 60 38 (s : Int))) else (pbN (xF D 229 [.inr 62] (pset M 60 38 (s : Int))) fun M1 => pbI (xF D 230 [.inr 62] M1) fun v3 M2 => if eq32 v3 0 then xE D 246 12 [.inr 62, .inl (seR G s), .inl ((s : Int) + 1), .inl ((tOf G s : Nat) : Int), .inl v3] [] M2 else xE D 246 12 [.inr 62, .inl ((tOf G s : Nat) : Int), .inl ((s : Int) + 1), .inl ((tOf G s : Nat) : Int), .inl v3] [] M2)) else (if ¬ eq32 1 0 then (if eq32 1 0 then xE D 246 12 [.inr 62, .inl (seR G s), .inl ((s : Int) + 1), .inl ((tOf G s : Nat) : Int), .inl 1] [] (pset M 60 38 (s : Int)) else xE D 246 12 [.inr 62, .inl ((tOf G s : Nat) : Int), .inl ((s : Int) + 1), .inl ((tOf G s : Nat) : Int), .inl 1] [] (pset M 60 38 (s : Int))) else (pbN (xF D 229 [.inr 62] (pset M 60 38 (s : Int))) fun M4 => pbI (xF D 230 [.inr 62] M4) fun v6 M5 => if eq32 v6 0 then xE D 246 12 [.inr 62, .inl (seR G s), .inl ((s : Int) + 1), .inl ((tOf G s : Nat) : Int), .inl v6] [] M5 else xE D 246 12 [.inr 62, .inl ((tOf G s : Nat) : Int), .inl ((s : Int) + 1), .inl ((tOf G s : Nat) : Int), .inl v6] [] M5))) = xE D 246 12 [.inr 62, .inl (seR G (s + 1)), .inl ((s + 1 : Nat) : Int), y3, y4] [] M' := fun hq => by
      rw [k30, jshl_one (nC G) (by omega), al, s1]
      by_cases z : s = 2 ^ nC G - 1
      · rw [if_neg (fun w => w (by rw [← z])), if_pos (by decide), if_neg (by decide)]
        rw [if_pos ⟨hq, exB_iff.mpr (by rw [z]; exact feG_all W)⟩] at b
        rw [b]
        exact ⟨_, _, _, Ss, rfl⟩
      · rw [if_pos (by rw [eq32_iff] <;> omega), if_neg (by decide)]
        obtain ⟨N1, N2, u1, u2, u3, u4⟩ := m_seF (d := D) hD W hW (s := s) (by omega) z hs Ss pset_eq
        rw [u1, pbN_rV]
        by_cases y : feG G s
        · rw [u3 y, pbI_rI, if_neg (by decide)]
          rw [if_pos ⟨hq, exB_iff.mpr y⟩] at b
          rw [b]
          exact ⟨_, _, N2, u2, rfl⟩
        · rw [u4 y, pbI_rI, if_pos (by decide)]
          rw [if_neg (fun w => y (exB_iff.mp w.2))] at b
          rw [b]
          exact ⟨_, _, N2, u2, rfl⟩
    by_cases z : seR G s = -1
    · rw [if_pos (by rw [z])]
      exact ask (Or.inl z)
    · obtain ⟨bb, hb⟩ : ∃ bb : Nat, seR G s = (bb : Int) := natI (by omega)
      have lt : bb < 1024 := by omega
      have lq : (seR G s).toNat = bb := by rw [hb, Int.toNat_natCast]
      have ls := m_less (d := D) (by omega) W S.1 tl lt
      rw [← hb] at ls
      rw [if_neg (by rw [eq32_iff] <;> omega), ls, pbI_rI, ite01n]
      by_cases y : lsB G (tOf G s) bb = true
      · rw [if_pos y]
        exact ask (Or.inr (by rw [lq]; exact y))
      · rw [if_neg y, s1]
        rw [if_neg (fun w => by
          rcases w.1 with w | w
          · exact z w
          · rw [lq] at w; exact y w)] at b
        rw [b]
        exact ⟨_, _, M, S, rfl⟩
  | m + 1, k, x4, M, hk, hx, S => by
    have n10 := nC_le W
    have p : 2 ^ nC G ≤ 1024 := pow_le_of n10
    have ol := orTo_lt (c := s.testBit) (cOf_lt W) k
    have cl := cOf_lt W k
    have e : orTo s.testBit (cOf G) (k + 1) = if s.testBit k then orTo s.testBit (cOf G) k ||| cOf G k else orTo s.testBit (cOf G) k := rfl
    have ih := m_se22 hD W hW hs m (k + 1) ((k : Int) + 1) M (by omega) (by omega) S
    rw [L_M_sell_22, S.2.1, hx, if_neg (by rw [le32_iff] <;> omega), m_has (by omega) (by omega) (by omega), pbI_rI, ite01]
    cases b : s.testBit k with
    | false =>
      have jz : jor ((orTo s.testBit (cOf G) k : Nat) : Int) 0 = ((orTo s.testBit (cOf G) k : Nat) : Int) := by
        have := jor_nat (a := orTo s.testBit (cOf G) k) (b := 0) (by omega) (by decide)
        rw [Nat.or_zero] at this; exact this
      rw [b, if_neg (by decide)] at e
      rw [if_neg (by decide), jz, ← e]
      exact ih
    | true =>
      rw [b, if_pos rfl] at e
      rw [if_pos rfl, if_pos (by omega), Int.toNat_natCast, S.2.2.2.2 k (by omega), jor_nat (by omega) (by omega), ← e]
      exact ih
theorem m_se12 (hD : 4 ≤ D) (W : WF G) (hW : hR G ^ nC G ≤ 20000) : ∀ m s (y3 y4 : pV) (M : pM), s + m = 2 ^ nC G → SL M G → xE D 246 12 [.inr 62, .inl (seR G s), .inl (s : Int), y3, y4] [] M = rI y M2 → ∃ M3 M4, xF D 270 [.inl (seR G (2 ^ nC G))] M3 = rI y M4
  | 0, s, y3, y4, M, hk, S, e => by
    have n10 := nC_le W
    have p : 2 ^ nC G ≤ 1024 := pow_le_of n10
    rw [L_M_sell_12, S.2.1, jshl_one (nC G) (by omega), if_pos (by rw [le32_iff] <;> omega)] at e
    obtain ⟨M3, -, e⟩ := pbN_inv e
    obtain ⟨v3, M4, e1, e2⟩ := pbI_inv e
    rw [show 2 ^ nC G = s by omega]
    rw [(rI_inj e2).1] at e1
    exact ⟨M3, M4, e1⟩
  | m + 1, s, y3, y4, M, hk, S, e => by
    have n10 := nC_le W
    have p : 2 ^ nC G ≤ 1024 := pow_le_of n10
    obtain ⟨z3, z4, M', S', e'⟩ := m_se22 hD W hW (s := s) (by omega) (nC G) 0 0 M (by omega) rfl S
    rw [L_M_sell_12, S.2.1, jshl_one (nC G) (by omega), if_neg (by rw [le32_iff] <;> omega)] at e
    rw [show orTo s.testBit (cOf G) 0 = 0 from rfl] at e'
    have e : xE D 246 22 [.inr 62, .inl (seR G s), .inl (s : Int), .inl ((0 : Nat) : Int), .inl 0] [] M = rI y M2 := e
    rw [e'] at e
    exact m_se12 hD W hW m (s + 1) z3 z4 M' (by omega) S' e
theorem cgM_T (W : WF G) {k : Nat} (hk : k < hT G) : cgM G k < 2 ^ hT G := by
  have key : ∀ b, b < 2 ^ hT G → ∀ n, n ≤ hS G → hngI G (aT G) (aS G) b n < 2 ^ hT G := by
    intro b hb n
    induction n with
    | zero => intro _; exact hb
    | succ n ih =>
      intro hn
      have ih := ih (by omega)
      have m := W.2.2.2.2.2.2.2.2 n (by omega)
      unfold hngI
      split
      · exact Nat.or_lt_two_pow ih (Nat.lt_of_le_of_lt Nat.and_le_left m)
      · exact ih
  have key2 : ∀ n, hng G (aT G) (aS G) (2 ^ k) n < 2 ^ hT G := by
    intro n
    induction n with
    | zero => exact Nat.pow_lt_pow_right (by decide) hk
    | succ n ih => exact key _ ih _ (Nat.le_refl _)
  exact key2 _
theorem cOf_T (W : WF G) (i : Nat) : cOf G i < 2 ^ hT G := by
  have key : ∀ k, k ≤ hT G → cmk G k i < 2 ^ hT G := by
    intro k
    induction k with
    | zero => intro _; exact Nat.two_pow_pos _
    | succ k ih =>
      intro hk
      unfold cmk
      split
      · exact cgM_T W (by omega)
      · exact ih (by omega)
  exact key _ (Nat.le_refl _)
theorem tOf_all (W : WF G) : tOf G (2 ^ nC G - 1) = 2 ^ hT G - 1 := by
  apply Nat.eq_of_testBit_eq
  intro t
  rw [Nat.testBit_two_pow_sub_one]
  by_cases ht : t < hT G
  · rw [tOf_bit W _ ht, Nat.testBit_two_pow_sub_one, decide_eq_true ht, decide_eq_true (oOf_in W ht).1]
  · rw [decide_eq_false ht]
    cases z : (tOf G (2 ^ nC G - 1)).testBit t with
    | false => rfl
    | true =>
      unfold tOf at z
      obtain ⟨i, i1, i2, i3⟩ := (orTo_bit _).mp z
      have := bit_lt (cOf_T W i) i3
      exact absurd this ht
theorem se_same (W : WF G) : ∀ s, (seR G s = -1 ∧ seC G s = 2 ^ hT G - 1) ∨ ∃ b : Nat, seR G s = (b : Int) ∧ seC G s = if lsB G b (2 ^ hT G - 1) = true then b else 2 ^ hT G - 1
  | 0 => Or.inl ⟨rfl, rfl⟩
  | s + 1 => by
    have ih := se_same W s
    have c : seC G (s + 1) = if lsB G (tOf G s) (seC G s) = true ∧ exB (feG G s) = true then tOf G s else seC G s := rfl
    have r : seR G (s + 1) = if (seR G s = -1 ∨ lsB G (tOf G s) (seR G s).toNat = true) ∧ exB (feG G s) = true then ((tOf G s : Nat) : Int) else seR G s := rfl
    rw [c, r]
    rcases ih with ⟨i1, i2⟩ | ⟨b, i1, i2⟩
    · by_cases f : exB (feG G s) = true
      · rw [if_pos ⟨Or.inl i1, f⟩, i2]
        refine Or.inr ⟨tOf G s, rfl, ?_⟩
        by_cases l : lsB G (tOf G s) (2 ^ hT G - 1) = true
        · rw [if_pos ⟨l, f⟩, if_pos l]
        · rw [if_neg (fun w => l w.1), if_neg l]
      · rw [if_neg (fun w => f w.2), if_neg (fun w => f w.2)]
        exact Or.inl ⟨i1, i2⟩
    · have n1 : seR G s ≠ -1 := by omega
      rw [i1, Int.toNat_natCast, i2]
      by_cases f : exB (feG G s) = true
      · by_cases l : lsB G (tOf G s) b = true
        · rw [if_pos ⟨Or.inr l, f⟩]
          refine Or.inr ⟨tOf G s, rfl, ?_⟩
          by_cases l2 : lsB G b (2 ^ hT G - 1) = true
          · have l3 : lsB G (tOf G s) (2 ^ hT G - 1) = true := lsB_iff.mpr (by
              have h1 := lsB_iff.mp l
              have h2 := lsB_iff.mp l2
              omega)
            rw [if_pos l2, if_pos ⟨l, f⟩, if_pos l3]
          · rw [if_neg l2]
            by_cases l3 : lsB G (tOf G s) (2 ^ hT G - 1) = true
            · rw [if_pos ⟨l3, f⟩, if_pos l3]
            · rw [if_neg (fun w => l3 w.1), if_neg l3]
        · rw [if_neg (fun w => by
            rcases w.1 with w | w
            · omega
            · exact l w)]
          refine Or.inr ⟨b, rfl, ?_⟩
          by_cases l2 : lsB G b (2 ^ hT G - 1) = true
          · rw [if_pos l2, if_neg (fun w => l w.1)]
          · rw [if_neg l2, if_neg (fun w => l (lsB_iff.mpr (by
              have h1 := lsB_iff.mp w.1
              have h2 := mt (lsB_iff (G := G)).mpr l2
              omega)))]
      · rw [if_neg (fun w => f w.2), if_neg (fun w => f w.2)]
        exact Or.inr ⟨b, rfl, rfl⟩
theorem se_end (W : WF G) : seR G (2 ^ nC G) = (seC G (2 ^ nC G) : Nat) := by
  have p1 : 1 ≤ 2 ^ nC G := Nat.one_le_two_pow
  have f : exB (feG G (2 ^ nC G - 1)) = true := exB_iff.mpr (feG_all W)
  have ih := se_same W (2 ^ nC G - 1)
  have c : seC G (2 ^ nC G - 1 + 1) = if lsB G (tOf G (2 ^ nC G - 1)) (seC G (2 ^ nC G - 1)) = true ∧ exB (feG G (2 ^ nC G - 1)) = true then tOf G (2 ^ nC G - 1) else seC G (2 ^ nC G - 1) := rfl
  have r : seR G (2 ^ nC G - 1 + 1) = if (seR G (2 ^ nC G - 1) = -1 ∨ lsB G (tOf G (2 ^ nC G - 1)) (seR G (2 ^ nC G - 1)).toNat = true) ∧ exB (feG G (2 ^ nC G - 1)) = true then ((tOf G (2 ^ nC G - 1) : Nat) : Int) else seR G (2 ^ nC G - 1) := rfl
  rw [show 2 ^ nC G - 1 + 1 = 2 ^ nC G by omega] at c r
  rw [c, r, tOf_all W]
  have irr : ∀ a, ¬ lsB G a a = true := fun a w => by
    have := lsB_iff.mp w
    omega
  rcases ih with ⟨i1, i2⟩ | ⟨b, i1, i2⟩
  · rw [if_pos ⟨Or.inl i1, f⟩, i2, if_neg (fun w => irr _ w.1)]
  · have n1 : seR G (2 ^ nC G - 1) ≠ -1 := by omega
    rw [i1, Int.toNat_natCast, i2]
    by_cases l2 : lsB G b (2 ^ hT G - 1) = true
    · rw [if_pos l2]
      by_cases l : lsB G (2 ^ hT G - 1) b = true
      · exact absurd (lsB_iff.mpr (by
          have h1 := lsB_iff.mp l
          have h2 := lsB_iff.mp l2
          omega)) (irr b)
      · rw [if_neg (fun w => by
          rcases w.1 with w | w
          · omega
          · exact l w), if_neg (fun w => l w.1)]
    · rw [if_neg l2, if_neg (show ¬ (lsB G (2 ^ hT G - 1) (2 ^ hT G - 1) = true ∧ exB (feG G (2 ^ nC G - 1)) = true) from fun w => irr _ w.1)]
      by_cases l : lsB G (2 ^ hT G - 1) b = true
      · rw [if_pos ⟨Or.inr l, f⟩]
      · rw [if_neg (fun w => by
          rcases w.1 with w | w
          · omega
          · exact l w)]
        have h1 := mt (lsB_iff (G := G)).mpr l
        have h2 := mt (lsB_iff (G := G)).mpr l2
        have : b = 2 ^ hT G - 1 := by omega
        rw [this]
theorem kc_sell (R : RI0 M) (C : CI M) (K : CK M) (R1 : RI0 M1) (e1 : xF 1000 32 [.inr 2] M = rI v M1) (f1 : Fr w1 M M1) (k1 : okW cm cmo w1 = true) (e2 : xF 1000 246 [.inr 62] M1 = rI y M2) : v = y := by
  obtain ⟨G, X, Y⟩ := C
  obtain ⟨W, -⟩ := ci_facts R X Y
  have hw1 := W.1
  have C := CK_G K X.1
  have t1 : xF (998 + 1 + 1) 32 [.inr 2] M = rI v M1 := e1
  have t2 : xF (998 + 1 + 1) 246 [.inr 62] M1 = rI y M2 := e2
  have Y1 := MG_thr (MG_Fr f1 k1 Y)
  have gT := gM_thr R1.1
  rw [T_X_sell] at t1
  rw [T_M_sell] at t2
  obtain ⟨qx1, qx2⟩ := x_tooMany (d := 998 + 1) (by omega) W X.1 C
  obtain ⟨N, g2, fN, p1, p2⟩ := m_tooMG (d := 998 + 1) (by omega) gT W Y1.1 (by rw [pset_ne2 (by decide)]; exact R1.2.1)
  rcases Classical.em (tmG G) with q | q
  · rw [qx1 q, pbI_rI, if_neg (by decide)] at t1
    rw [p1 q, pbI_rI, if_neg (by decide)] at t2
    rw [← (rI_inj t1).1, ← (rI_inj t2).1]
  · have hW : hR G ^ nC G ≤ 20000 := by unfold tmG at q; omega
    obtain ⟨p3, p4⟩ := p2 q
    obtain ⟨-, z2, -, z4, z5, -, z7, z8⟩ := p4
    have SN : SL N G := SL_fr (M := pset N 60 40 (-1)) (fun o i _ h => by
      unfold pset
      rw [if_neg (by omega)]) ⟨z2, z4, z5, z7, z8⟩
    have a : v = (popc (seC G (2 ^ nC G)) : Nat) := by
      rw [qx2 q, pbI_rI, if_pos (by decide), c_allThings (by omega) W X.1, pbI_rI, show (.inl 0 : pV) = .inl ((0 : Nat) : Int) from rfl] at t1
      exact x_se12 (D := 998) (by omega) W q (2 ^ nC G) 0 _ M (by omega) X.1 C t1
    rw [p3, pbI_rI, if_pos (by decide), show (.inl 0 : pV) = .inl ((0 : Nat) : Int) from rfl] at t2
    obtain ⟨M3, M4, b⟩ := m_se12 (D := 998 + 1) (by omega) W hW (2 ^ nC G) 0 _ _ N (by omega) SN t2
    rw [se_end W, j_bitCount (by omega) (seC_lt W _)] at b
    rw [a]
    exact (rI_inj b).1
end SEL
end
section
/-! which letter a sign is -/
section SIX
variable {D d : Nat} {M : pM}
end SIX
/-! a rule is read -/
section XRU
variable {tx : Nat → Int} {st d D : Nat} {M M' : pM} {lv : Int → Int}
end XRU
/-! rule: what it answers and what it keeps, on both sides -/
section RUL
variable {tx : Nat → Int} {st d D L : Nat} {M M' M1 M2 N : pM} {lv lv' : Int → Int} {w1 : List (Nat × Nat)} {v y : Int}
def X3 (M M' : pM) : Prop := ∀ o i, ¬ (o = 3 ∧ (i = 1 ∨ i = 2 ∨ i = 3)) → M' o i = M o i
end RUL
/-! the reader of the rule that is kept: as 78a and 85b (by program) -/
section YR
variable {tx : Nat → Int} {st d : Nat} {M : pM}
end YR
section YRU
variable {tx : Nat → Int} {st d D : Nat} {M M' : pM} {lv : Int → Int}
end YRU
/-! what a thing is worth in a room, on both sides -/
section WOR
variable {tx : Nat → Int} {d D L : Nat} {M M' M1 M2 N G : pM} {w1 w2 : List (Nat × Nat)} {v y : Int} {lv : Int → Int}
end WOR
/-! thing: what it answers, on both sides -/
section THI
variable {tx : Nat → Int} {d D L : Nat} {M M' M1 M2 N G : pM} {w1 : List (Nat × Nat)} {v y : Int}
end THI
/-! best: what it answers, on both sides -/
section BES
variable {tx : Nat → Int} {d D L : Nat} {M M' M1 M2 N G : pM} {w1 : List (Nat × Nat)} {v y : Int}
end BES
end
section
/-! queue: how many clumps are carried, on both sides -/
section QUA
variable {G : pM} {p q : Nat → Int}
end QUA
section QUM
variable {D d S T R C x1 : Nat} {sv : Nat → Nat} {M M' N G : pM} {p : Nat → Int} {v y : Int}
end QUM
/-! queue: one side's search -/
section QUX
variable {D d : Nat} {M M' M1 N G : pM} {p : Nat → Int} {v y : Int}
end QUX
section QUK
variable {D d : Nat} {M M' M1 M2 N G : pM} {p : Nat → Int} {w1 : List (Nat × Nat)} {v y : Int}
end QUK
/-! the list of the arrangements that are lawful, and what it costs between them -/
section LST
variable {D d : Nat} {M M' N G : pM} {p : Nat → Int} {f g : Nat → Nat} {v y : Int}
end LST
/-! what it costs from one of the list to another, on both sides -/
section CST
variable {D d : Nat} {M M' N G : pM} {p : Nat → Int} {f g : Nat → Nat} {v y : Int}
def c6 (G : pM) (t a b : Nat) : Int := if cst G t a b < 0 then 1000000 else cst G t a b
end CST
/-! the fewest evenings, on one side -/
section FEW
variable {D d : Nat} {M M' M1 N G : pM} {p : Nat → Int} {v y w : Int}
end FEW
/-! the list and its costs on the other side -/
section AIF
variable {D d : Nat} {M M' M1 N G : pM} {p : Nat → Int} {f g : Nat → Nat} {v y w : Int}
end AIF
/-! the fewest evenings on the other side; evenings joined -/
section EVF
variable {D d : Nat} {M M' M1 M2 N G : pM} {p : Nat → Int} {w1 : List (Nat × Nat)} {v y w : Int}
end EVF
/-! evenings: what it answers, on both sides -/
section EVJ
variable {D d : Nat} {M M' M1 M2 N G : pM} {p : Nat → Int} {w1 : List (Nat × Nat)} {v y w : Int}
end EVJ
/-! the least strength, on one side -/
section WEK
variable {D d : Nat} {M M' M1 N G : pM} {p : Nat → Int} {v y w : Int}
end WEK
/-! the least strength, on one side: the search -/
section WEL
variable {D d : Nat} {M M' M1 N N0 G : pM} {p : Nat → Int} {v y w : Int}
end WEL
/-! the least strength, on one side: to its end; what is answered -/
section WEM
variable {D d : Nat} {M M' M1 N N0 G : pM} {p : Nat → Int} {v y w : Int}
end WEM
/-! the least strength on the other side; weakest joined -/
section WEO
variable {D d : Nat} {M M' M1 M2 N G : pM} {p : Nat → Int} {w1 : List (Nat × Nat)} {v y w : Int}
end WEO
end
