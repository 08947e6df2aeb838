section
/-! fits: what it answers, on both sides -/
section FTS
variable {D d : Nat} {M M' M1 M2 G h : pM} {w1 : List (Nat × Nat)} {v y : Int} {fine : Nat → Bool} {val : Nat → Int}
theorem cnt_to {a b : Nat} (hab : a ≤ b) (h : ∀ c, a ≤ c → c < b → fine c = false) : cntTo fine b = cntTo fine a := by
  obtain ⟨m, rfl⟩ : ∃ m, b = a + m := ⟨b - a, by omega⟩
  clear hab
  induction m with
  | zero => rfl
  | succ m ih =>
    have e : cntTo fine (a + (m + 1)) = if fine (a + m) then cntTo fine (a + m) + 1 else cntTo fine (a + m) := rfl
    rw [e, h (a + m) (by omega) (by omega), if_neg (by decide)]
    exact ih (fun c h1 h2 => h c h1 (by omega))
end FTS
/-! together, may: what they answer, on both sides -/
section TGS
variable {D d R n : Nat} {M M' M1 M2 G h : pM} {w1 : List (Nat × Nat)} {v y : Int} {sz bk : Nat → Int}
theorem cnt_next {fine g : Nat → Bool} {a c : Nat} (hac : a ≤ c) (nf : ∀ c', a ≤ c' → c' < c → fine c' = false) (hf : fine c = true) : cntTo (fun c => fine c && g c) (c + 1) = if g c then cntTo (fun c => fine c && g c) a + 1 else cntTo (fun c => fine c && g c) a := by
  have e : cntTo (fun c => fine c && g c) (c + 1) = if fine c && g c then cntTo (fun c => fine c && g c) c + 1 else cntTo (fun c => fine c && g c) c := rfl
  have t := cnt_to (fine := fun c => fine c && g c) hac (fun c' h1 h2 => by show (fine c' && g c') = false; rw [nf c' h1 h2]; rfl)
  rw [e, t, hf, Bool.true_and]
theorem cnt_end {fine g : Nat → Bool} {a b : Nat} (hab : a ≤ b) (nf : ∀ c', a ≤ c' → c' < b → fine c' = false) : cntTo (fun c => fine c && g c) b = cntTo (fun c => fine c && g c) a := cnt_to hab (fun c' h1 h2 => by show (fine c' && g c') = false; rw [nf c' h1 h2]; rfl)
end TGS
/-! may: what it answers, on both sides -/
section MAY
variable {D d R n : Nat} {M M' M1 M2 G h : pM} {w1 : List (Nat × Nat)} {v y : Int} {sz bk : Nat → Int}
theorem jor_one {a k : Nat} (ha : a < 64) (hk : k < 6) : jor (a : Int) (jshl 1 (k : Int)) = ((a ||| 2 ^ k : Nat) : Int) := by
  have p : 2 ^ k < 2 ^ 6 := Nat.pow_lt_pow_right (by decide) hk
  rw [jshl_one k (by omega), jor_nat (by omega) (by omega)]
end MAY
/-! the class chooses by the bulk in a room -/
section BBK
variable {D d R n : Nat} {M M' M1 M2 G h : pM} {w1 : List (Nat × Nat)} {v y : Int} {sz bk : Nat → Int}
def szB (G : pM) (b : Nat) (m : Int) (r : Nat) : Int := if r = b then G 1 b + m else G 1 r
end BBK
/-! fullest: what it answers, on both sides -/
section FUL
variable {D d R n : Nat} {M M' M1 M2 G h : pM} {w1 : List (Nat × Nat)} {v y : Int} {sz bk : Nat → Int} {fine : Nat → Bool} {val : Nat → Int}
/-- the load of a room by a code -/
def ldG (G : pM) (b c : Nat) : Int := wlq (fun i => blk G (cOf G i)) (dg (hR G) (nC G) c) b (nC G)
theorem ldG_range (W : WF G) (b c : Nat) : 0 ≤ ldG G b c ∧ ldG G b c ≤ 9900 := by
  have n10 := nC_le W
  have s := sumTo_range (f := fun i => if dg (hR G) (nC G) c i = b then blk G (cOf G i) else 0) (lo := 0) (hi := 990) (n := nC G) (fun i _ => by
    have := blk_range W (cOf G i)
    show 0 ≤ (if dg (hR G) (nC G) c i = b then blk G (cOf G i) else 0) ∧ (if dg (hR G) (nC G) c i = b then blk G (cOf G i) else 0) ≤ 990
    split <;> omega)
  have s2 : ((nC G : Nat) : Int) * 0 ≤ wlq (fun i => blk G (cOf G i)) (dg (hR G) (nC G) c) b (nC G) ∧ wlq (fun i => blk G (cOf G i)) (dg (hR G) (nC G) c) b (nC G) ≤ (nC G : Int) * 990 := s
  unfold ldG
  omega
theorem m_freeG (hd : 1 ≤ d) (W : WF G) {a c : Nat} (S : SR M G a) (h78 : ∀ t, t < hT G → M 78 t = (plG G c t : Int)) {b : Nat} (hb : b < hR G) : xF d 198 [.inr 62, .inr 80, .inl (b : Int)] M = rI (G 1 b - ldG G b c) M := by
  have w1 := W.1
  have w2 := W.2.1
  have X := S.2.1
  have hp : ∀ t, t < hT G → 0 ≤ M 78 t ∧ M 78 t < hR G := fun t ht => by
    have := dg_lt (R := hR G) (C := nC G) (code := c) (by omega) (oOf G t)
    rw [h78 t ht]
    unfold plG
    omega
  have e : blk G (inR G (M 78) (b : Int)) = ldG G b c := by
    unfold ldG
    rw [blk_inR, ← blk_parts W]
    refine sumTo_congr fun t ht => ?_
    rw [h78 t ht]
    unfold plG
    by_cases z : dg (hR G) (nC G) c (oOf G t) = b
    · rw [if_pos z, if_pos (by omega)]
    · rw [if_neg z, if_neg (by omega)]
  rw [m_freeIn_78 hd X.2.1 w2 (by omega), free_same W X hp hb, e]
end FUL
/-! space: what it answers, on both sides -/
section SPC
variable {D d R n : Nat} {M M' M1 M2 G h : pM} {w1 : List (Nat × Nat)} {v y : Int} {fine : Nat → Bool} {val : Nat → Int}
def frG (G : pM) (r c : Nat) : Int := G 1 r - ldG G r c
theorem frG_range (W : WF G) {r c : Nat} (hr : r < hR G) (hf : fnG G c = true) : 0 ≤ frG G r c ∧ frG G r c ≤ 99 := by
  have s := W.2.2.2.1 r hr
  have l := ldG_range W r c
  have := fnW_iff.mp hf r hr
  have : ldG G r c ≤ G 1 r := this
  unfold frG
  omega
end SPC
/-! near, guest: the least to be carried, on both sides -/
section NEA
variable {D d R n : Nat} {M M' M1 M2 N G h : pM} {w1 : List (Nat × Nat)} {v y : Int} {sz : Nat → Int} {fine : Nat → Bool} {val : Nat → Int}
end NEA
/-! is there an arrangement at all: of some clumps, with other sizes -/
section EXA
variable {D d R n : Nat} {M M' M1 M2 G h N : pM} {w1 : List (Nat × Nat)} {v y : Int} {sz bk : Nat → Int} {q : Nat → Nat}
/-- the parts can be put -/
def EX (R n : Nat) (sz bk : Nat → Int) : Prop := ∃ q : Nat → Nat, (∀ j, j < n → q j < R) ∧ ∀ r, r < R → wlq bk q r n ≤ sz r
theorem ex_code (h1 : 1 ≤ R) (hq : ∀ j, j < n → q j < R) : ∃ c, c < R ^ n ∧ ∀ j, j < n → dg R n c j = q j := by
  have cl := pcd_lt h1 n hq
  exact ⟨pcd R q n, by omega, dg_of (c := pcd R q n) h1 n (Nat.le_refl n) hq (by rw [Nat.sub_self, Nat.pow_zero, Nat.div_one])⟩
theorem EX_iff (h1 : 1 ≤ R ∨ n = 0) : EX R n sz bk ↔ ∃ c, c < R ^ n ∧ fnW R n sz bk c = true := by
  constructor
  · intro ⟨q, q1, q2⟩
    rcases h1 with h1 | h1
    · obtain ⟨c, c1, c2⟩ := ex_code h1 q1
      refine ⟨c, c1, fnW_iff.mpr fun r hr => ?_⟩
      rw [wlq_cg n c2]; exact q2 r hr
    · subst h1
      exact ⟨0, by rw [Nat.pow_zero]; exact Nat.zero_lt_one, fnW_iff.mpr fun r hr => q2 r hr⟩
  · intro ⟨c, c1, c2⟩
    refine ⟨dg R n c, fun j hj => ?_, fnW_iff.mp c2⟩
    rcases h1 with h1 | h1
    · exact dg_lt h1 j
    · omega
theorem x_nextE (hd : 3 ≤ d) (K : WK M R n sz bk) (B : WB0 R n sz bk) (F : WF0 M R n) : ∃ M', (EX R n sz bk → xF d 163 [.inr 34] M = rI 1 M') ∧ (¬ EX R n sz bk → xF d 163 [.inr 34] M = rI 0 M') ∧ ∀ o i, o < 32 → M' o i = M o i := by
  obtain ⟨M', f, r⟩ := x_next0 hd K B F
  refine ⟨M', fun e => ?_, fun e => ?_, fun o i ho => f o i (by omega) (by omega) (by omega)⟩
  · rcases r with ⟨r1, -⟩ | ⟨r1, nf⟩
    · exact r1
    · obtain ⟨c, c1, c2⟩ := (EX_iff B.1).mp e
      have := nf c (Nat.zero_le c) c1
      rw [c2] at this; cases this
  · rcases r with ⟨r1, c, c1, c2, c3, c4⟩ | ⟨r1, nf⟩
    · exact absurd ((EX_iff B.1).mpr ⟨c, c4.2.2.1, c2⟩) e
    · exact r1
/-- some clumps can be put -/
def EG (G : pM) (some : Nat) (sz : Nat → Int) : Prop := ∃ p : Nat → Nat, (∀ i, i < nC G → some.testBit i = true → p i < hR G) ∧ ∀ r, r < hR G → sumTo (fun i => if some.testBit i = true ∧ p i = r then blk G (cOf G i) else 0) (nC G) ≤ sz r
theorem ex_mono {c : Nat → Bool} {i : Nat} : ∀ m, cntTo c i ≤ cntTo c (i + m)
  | 0 => Nat.le_refl _
  | m + 1 => by
    have ih := ex_mono (c := c) (i := i) m
    have e : cntTo c (i + (m + 1)) = if c (i + m) then cntTo c (i + m) + 1 else cntTo c (i + m) := rfl
    rw [e]
    split <;> omega
theorem ex_cnt {c : Nat → Bool} {i n : Nat} (hi : i < n) (hc : c i = true) : cntTo c i < cntTo c n := by
  have e := cnt_succ (c := c) (k := i)
  rw [hc, if_pos rfl] at e
  have m := ex_mono (c := c) (i := i + 1) (n - (i + 1))
  rw [show i + 1 + (n - (i + 1)) = n by omega] at m
  omega
theorem bkL_sum (q : Nat → Nat) (r some : Nat) : ∀ k, wlq (bkL h some k) q r (cntTo some.testBit k) = sumTo (fun i => if some.testBit i = true ∧ q (cntTo some.testBit i) = r then blk h (cOf h i) else 0) k
  | 0 => rfl
  | k + 1 => by
    have ih := bkL_sum q r some k
    have cs := cnt_succ (c := some.testBit) (k := k)
    have st : sumTo (fun i => if some.testBit i = true ∧ q (cntTo some.testBit i) = r then blk h (cOf h i) else 0) (k + 1) = sumTo (fun i => if some.testBit i = true ∧ q (cntTo some.testBit i) = r then blk h (cOf h i) else 0) k + if some.testBit k = true ∧ q (cntTo some.testBit k) = r then blk h (cOf h k) else 0 := rfl
    have be : ∀ i, bkL h some (k + 1) i = if some.testBit k = true ∧ i = cntTo some.testBit k then blk h (cOf h k) else bkL h some k i := fun _ => rfl
    have lo : wlq (bkL h some (k + 1)) q r (cntTo some.testBit k) = wlq (bkL h some k) q r (cntTo some.testBit k) := sumTo_congr fun i hi => by
      have bi : bkL h some (k + 1) i = bkL h some k i := by
        rw [be i, if_neg (fun z => absurd z.2 (Nat.ne_of_lt hi))]
      by_cases z : q i = r
      · rw [if_pos z, if_pos z]; exact bi
      · rw [if_neg z, if_neg z]
    rw [st, ← ih, ← lo]
    by_cases b : some.testBit k = true
    · rw [b, if_pos rfl] at cs
      have bk : bkL h some (k + 1) (cntTo some.testBit k) = blk h (cOf h k) := by
        rw [be (cntTo some.testBit k), if_pos ⟨b, rfl⟩]
      rw [cs, wlq_succ, bk]
      by_cases z : q (cntTo some.testBit k) = r
      · rw [if_pos z, if_pos ⟨b, z⟩]
      · rw [if_neg z, if_neg (fun w => z w.2)]
    · rw [if_neg b] at cs
      rw [cs, if_neg (fun z => b z.1), Int.add_zero]
def qL (p : Nat → Nat) (some : Nat) : Nat → Nat → Nat
  | 0, _ => 0
  | k + 1, j => if some.testBit k = true ∧ j = cntTo some.testBit k then p k else qL p some k j
theorem qL_at (p : Nat → Nat) (some : Nat) : ∀ k i, i < k → some.testBit i = true → qL p some k (cntTo some.testBit i) = p i
  | 0, i, hi, _ => absurd hi (Nat.not_lt_zero i)
  | k + 1, i, hi, hb => by
    have e : qL p some (k + 1) (cntTo some.testBit i) = if some.testBit k = true ∧ cntTo some.testBit i = cntTo some.testBit k then p k else qL p some k (cntTo some.testBit i) := rfl
    rcases Nat.lt_or_ge i k with u | u
    · have := ex_cnt (c := some.testBit) u hb
      rw [e, if_neg (fun z => by have := z.2; omega)]
      exact qL_at p some k i u hb
    · have ik : i = k := by omega
      rw [e, ik, if_pos ⟨by rw [← ik]; exact hb, rfl⟩]
theorem qL_lt {p : Nat → Nat} {some R : Nat} : ∀ k, (∀ i, i < k → some.testBit i = true → p i < R) → ∀ j, j < cntTo some.testBit k → qL p some k j < R
  | 0, _, j, hj => absurd hj (Nat.not_lt_zero j)
  | k + 1, hp, j, hj => by
    have e : qL p some (k + 1) j = if some.testBit k = true ∧ j = cntTo some.testBit k then p k else qL p some k j := rfl
    have cs := cnt_succ (c := some.testBit) (k := k)
    rw [e]
    by_cases z : some.testBit k = true ∧ j = cntTo some.testBit k
    · rw [if_pos z]; exact hp k (Nat.lt_succ_self k) z.1
    · rw [if_neg z]
      refine qL_lt k (fun i hi hb => hp i (by omega) hb) j ?_
      by_cases b : some.testBit k = true
      · rw [if_pos b] at cs
        have : j ≠ cntTo some.testBit k := fun w => z ⟨b, w⟩
        omega
      · rw [if_neg b] at cs
        omega
theorem EX_EG (some : Nat) : EX (hR G) (cntTo some.testBit (nC G)) sz (bkL G some (nC G)) ↔ EG G some sz := by
  constructor
  · intro ⟨q, q1, q2⟩
    refine ⟨fun i => q (cntTo some.testBit i), fun i hi hb => q1 _ (ex_cnt hi hb), fun r hr => ?_⟩
    have := q2 r hr
    rw [bkL_sum] at this
    exact this
  · intro ⟨p, p1, p2⟩
    refine ⟨qL p some (nC G), qL_lt (nC G) p1, fun r hr => ?_⟩
    have e : sumTo (fun i => if some.testBit i = true ∧ qL p some (nC G) (cntTo some.testBit i) = r then blk G (cOf G i) else 0) (nC G) = sumTo (fun i => if some.testBit i = true ∧ p i = r then blk G (cOf G i) else 0) (nC G) := sumTo_congr fun i hi => by
      by_cases b : some.testBit i = true
      · rw [qL_at p some (nC G) i hi b]
      · rw [if_neg (fun w => b w.1), if_neg (fun w => b w.1)]
    rw [bkL_sum, e]
    exact p2 r hr
theorem WB_S (W : WF G) (q : ¬ tmG G) (some : Nat) (hs : ∀ r, r < hR G → -10000 ≤ sz r ∧ sz r ≤ 10000) : WB0 (hR G) (cntTo some.testBit (nC G)) sz (bkL G some (nC G)) := by
  obtain ⟨b1, b2, b3, -, -, b6⟩ := WB_G W q
  have cl := cntTo_le (c := some.testBit) (nC G)
  refine ⟨by omega, b2, by omega, hs, fun j _ => bkL_range W _ j _, ?_⟩
  rcases b1 with b1 | b1
  · exact Nat.le_trans (Nat.pow_le_pow_right b1 cl) b6
  · have e : cntTo some.testBit (nC G) = 0 := by omega
    rw [e, Nat.pow_zero]; decide
theorem x_startL (hd : 4 ≤ d) (W : WF G) (X : XH M G) (C : CL M G) {some : Nat} (hs : some < 1024) {b : Nat} (hb : b < hR G) {x : Int} (hx : -5000 ≤ x ∧ x ≤ 5000) : ∃ M3 M4, xF d 160 [.inr 34, .inr 9, .inl (some : Int)] M = rV M3 ∧ xF d 161 [.inr 34, .inl (b : Int), .inl x] M3 = rV M4 ∧ WK M4 (hR G) (cntTo some.testBit (nC G)) (szB G b (-x)) (bkL G some (nC G)) ∧ WF0 M4 (hR G) (cntTo some.testBit (nC G)) ∧ ∀ o i, o < 32 → M4 o i = M o i := by
  have w1 := W.1
  obtain ⟨N1, s1, s2, s3, s4, s5⟩ := x_start hd W X C (some := some) (by omega)
  obtain ⟨D, rfl, -⟩ := dsucc (show 1 ≤ d by omega)
  have sb := W.2.2.2.1 b hb
  have k33 : N1 33 b = G 1 b := s2.2.2.1 b hb
  refine ⟨N1, pset N1 33 b (G 1 b - x), s1, ?_, ?_, ?_, fun o i ho => by rw [pset_ne (by omega), s5 o i (by omega)]⟩
  · rw [T_Walk_lessen, s2.1, if_neg (by rw [lt32_iff] <;> omega), if_neg (by rw [le32_iff] <;> omega), if_pos (by omega), if_pos (by omega), Int.toNat_natCast, k33]
  · obtain ⟨k1, k2, k3, k4⟩ := s2
    refine ⟨by rw [pset_ne (by decide)]; exact k1, by rw [pset_ne (by decide)]; exact k2, fun r hr => ?_, fun j hj => by rw [pset_ne (by decide)]; exact k4 j hj⟩
    unfold szB
    by_cases z : r = b
    · rw [z, pset_eq, if_pos rfl]; omega
    · rw [pset_ne2 z, if_neg z]; exact k3 r hr
  · obtain ⟨k1, k2, k3, k4⟩ := s3
    exact ⟨by rw [pset_ne (by decide)]; exact k1, by rw [pset_ne (by decide)]; exact k2, fun j hj => by rw [pset_ne (by decide)]; exact k3 j hj, fun r hr => by rw [pset_ne (by decide)]; exact k4 r hr⟩
noncomputable def exB (P : Prop) : Bool := @decide P (Classical.propDecidable P)
theorem exB_iff {P : Prop} : exB P = true ↔ P := by
  unfold exB
  exact ⟨fun h => @of_decide_eq_true P (Classical.propDecidable P) h, fun h => @decide_eq_true P (Classical.propDecidable P) h⟩
end EXA
/-! could: what it answers, on both sides -/
section COU
variable {D d R n : Nat} {M M' M1 M2 G h N : pM} {w1 : List (Nat × Nat)} {v y : Int} {sz bk : Nat → Int}
/-- clumps but those of j can be put, so that room r has x less -/
def cdS (G : pM) (j : Nat) (x : Int) (r : Nat) : Prop := EG G (nan (2 ^ nC G - 1) j) (szB G r (-x))
theorem x_co40 (hD : 3 ≤ D) (W : WF G) (q : ¬ tmG G) {j : Nat} (hj : j < 1024) {x : Int} (hx : 0 ≤ x ∧ x ≤ 2000) (x1 x2 : Int) : ∀ m k (M : pM), k + m = hR G → XH M G → CL M G → xE (D + 1) 27 40 [.inr 2, .inl x1, .inl x2, .inl (j : Int), .inl x, .inl (bitsOf (fun r => exB (cdS G j x r)) k : Nat), .inl (k : Int)] [] M = rI v M' → v = (bitsOf (fun r => exB (cdS G j x r)) (hR G) : Nat)
  | 0, k, M, hk, X, C, e => by
    have w1 := W.1
    rw [L_X_could_40, X.1, if_pos (by rw [le32_iff] <;> omega)] at e
    rw [show hR G = k by omega]
    exact (rI_inj e).1.symm
  | m + 1, k, M, hk, X, C, e => by
    have w1 := W.1
    have n10 := nC_le W
    have hkR : k < hR G := by omega
    have p : 2 ^ nC G ≤ 1024 := pow_le_of n10
    have p1 : 1 ≤ 2 ^ nC G := Nat.one_le_two_pow
    have nl := nan_le (2 ^ nC G - 1) j
    obtain ⟨M3, M4, s1, s2, s3, s4, s5⟩ := x_startL (d := D + 1) (by omega) W X C (some := nan (2 ^ nC G - 1) j) (by omega) hkR (x := x) (by omega)
    have B := WB_S W q (nan (2 ^ nC G - 1) j) (sz := szB G k (-x)) (fun r hr => by
      have := W.2.2.2.1 r hr
      have := W.2.2.2.1 k hkR
      unfold szB
      split <;> omega)
    obtain ⟨M5, n1, n2, n3⟩ := x_nextE (d := D + 1) (by omega) s3 B s4
    have lo : ∀ o i, o < 32 → M5 o i = M o i := fun o i ho => by rw [n3 o i ho, s5 o i ho]
    have b : bitsOf (fun r => exB (cdS G j x r)) (k + 1) = if exB (cdS G j x k) then bitsOf (fun r => exB (cdS G j x r)) k ||| 2 ^ k else bitsOf (fun r => exB (cdS G j x r)) k := rfl
    have ih := x_co40 hD W q hj hx x1 x2 m (k + 1) M5 (by omega) (XH_hi lo X) (CL_hi lo C)
    rw [L_X_could_40, X.1, if_neg (by rw [le32_iff] <;> omega), T_House_allClumps, C.1, pbI_rI, jshl_one (nC G) (by omega), show (((2 ^ nC G : Nat) : Int) - 1) = ((2 ^ nC G - 1 : Nat) : Int) by omega, jxor_m1 (by omega), jand_not (by omega) (by omega), s1, pbN_rV, s2, pbN_rV, show ((k : Int) + 1) = ((k + 1 : Nat) : Int) by omega] at e
    by_cases z : cdS G j x k
    · rw [n1 ((EX_EG _).mpr z), pbI_rI, if_neg (by decide), jor_shl (bitsOf_lt _ _) (by omega)] at e
      rw [exB_iff.mpr z, if_pos rfl] at b
      rw [b] at ih
      exact ih e
    · rw [n2 (fun w => z ((EX_EG _).mp w)), pbI_rI, if_pos (by decide)] at e
      rw [if_neg (fun w => z (exB_iff.mp w))] at b
      rw [b] at ih
      exact ih e
/-- an arrangement leaves b in room r, and has all of w there -/
def coB (G : pM) (b : Int) (w r c : Nat) : Bool := decide (b ≤ frG G r c) && allTo (fun t => !(w.testBit t) || decide (plG G c t = r)) (hT G)
theorem coB_iff {b : Int} {w r c : Nat} : coB G b w r c = true ↔ b ≤ frG G r c ∧ ∀ t, t < hT G → w.testBit t = true → plG G c t = r := by
  unfold coB
  rw [Bool.and_eq_true, allTo_iff]
  constructor
  · intro ⟨a, e⟩
    refine ⟨of_decide_eq_true a, fun t ht hw => ?_⟩
    have := e t ht
    rw [hw] at this
    exact of_decide_eq_true this
  · intro ⟨a, e⟩
    refine ⟨decide_eq_true a, fun t ht => ?_⟩
    cases z : w.testBit t with
    | false => rfl
    | true => exact decide_eq_true (e t ht z)
theorem m_co74 (hD : 1 ≤ D) (W : WF G) {c r w B : Nat} (hw : w < 1024) (hr : r < hR G) (hB : B < 64) (h78 : ∀ t, t < hT G → M 78 t = (plG G c t : Int)) (h3 : M 60 3 = (hT G : Int)) (x1 x2 : Int) (tg : Bool) : ∀ m k (x6 : Int), k + m = hT G → ((x6 = 1 ∧ (tg = true ↔ ∀ t, k ≤ t → t < hT G → w.testBit t = true → plG G c t = r)) ∨ (x6 = 0 ∧ tg = false)) → ∃ (z6 z7 : Int), xE D 241 74 [.inr 62, .inl x1, .inl x2, .inl (w : Int), .inl (B : Int), .inl (r : Int), .inl x6, .inl (k : Int)] [] M = xE D 241 57 [.inr 62, .inl x1, .inl x2, .inl (w : Int), .inl ((if tg then B ||| 2 ^ r else B : Nat) : Int), .inl ((r + 1 : Nat) : Int), .inl z6, .inl z7] [] M := by
  have w1 := W.1
  have w2 := W.2.1
  have jz : jor (B : Int) 0 = (B : Int) := by
    have := jor_nat (a := B) (b := 0) (by omega) (by decide)
    rw [Nat.or_zero] at this; exact this
  have j1 : jor (B : Int) (jshl 1 (r : Int)) = ((B ||| 2 ^ r : Nat) : Int) := jor_one hB (by omega)
  have r1 : ((r : Int) + 1) = ((r + 1 : Nat) : Int) := by omega
  intro m
  induction m with
  | zero =>
    intro k x6 hk s
    rw [L_M_could_74, h3, if_pos (by rw [le32_iff] <;> omega)]
    rcases s with ⟨rfl, s⟩ | ⟨rfl, rfl⟩
    · rw [if_neg (by decide), j1, r1, s.mpr (fun t h1 h2 => by omega)]
      exact ⟨_, _, rfl⟩
    · rw [if_pos (by decide), jz, r1]
      exact ⟨_, _, rfl⟩
  | succ m ih =>
    intro k x6 hk s
    rw [L_M_could_74, h3, if_neg (by rw [le32_iff] <;> omega)]
    rcases s with ⟨rfl, s⟩ | ⟨rfl, rfl⟩
    · rw [if_neg (by decide), m_has hD (by omega) (by omega), pbI_rI, ite01, show ((k : Int) + 1) = ((k + 1 : Nat) : Int) by omega]
      cases b : w.testBit k with
      | false =>
        rw [if_neg (by decide)]
        refine ih (k + 1) 1 (by omega) (Or.inl ⟨rfl, s.trans ⟨fun z t h1 h2 => z t (by omega) h2, fun z t h1 h2 h3 => ?_⟩⟩)
        rcases Nat.lt_or_ge k t with u | u
        · exact z t u h2 h3
        · rw [show t = k by omega, b] at h3; cases h3
      | true =>
        have pl : 1 ≤ hR G := by omega
        have dl := dg_lt (R := hR G) (C := nC G) (code := c) pl (oOf G k)
        have e78 := h78 k (by omega)
        unfold plG at e78
        rw [if_pos rfl, if_pos (by omega), Int.toNat_natCast, e78]
        by_cases z : dg (hR G) (nC G) c (oOf G k) = r
        · rw [if_neg (fun w => w (by rw [z]))]
          refine ih (k + 1) 1 (by omega) (Or.inl ⟨rfl, s.trans ⟨fun y t h1 h2 => y t (by omega) h2, fun y t h1 h2 h3 => ?_⟩⟩)
          rcases Nat.lt_or_ge k t with u | u
          · exact y t u h2 h3
          · rw [show t = k by omega]; exact z
        · rw [if_pos (by rw [eq32_iff] <;> omega)]
          refine ih (k + 1) 0 (by omega) (Or.inr ⟨rfl, ?_⟩)
          cases y : tg with
          | false => rfl
          | true => exact absurd (s.mp y k (Nat.le_refl k) (by omega) b) z
    · rw [if_pos (by decide), if_pos (by decide), jz, r1]
      exact ⟨_, _, rfl⟩
theorem BB_step {f g : Nat → Bool} {R k : Nat} (hk : k < R) : (if g k then bitsOf (fun r => f r || (decide (r < k) && g r)) R ||| 2 ^ k else bitsOf (fun r => f r || (decide (r < k) && g r)) R) = bitsOf (fun r => f r || (decide (r < k + 1) && g r)) R := by
  apply Nat.eq_of_testBit_eq
  intro i
  by_cases z : i = k
  · subst z
    cases b : g i with
    | true =>
      rw [if_pos rfl, Nat.testBit_or, Nat.testBit_two_pow_self, Bool.or_true, bitsOf_bit, decide_eq_true hk, b, decide_eq_true (Nat.lt_succ_self i), Bool.true_and, Bool.true_and, Bool.or_true]
    | false =>
      rw [if_neg (by decide), bitsOf_bit, bitsOf_bit, b, Bool.and_false, Bool.and_false]
  · have e : decide (i < k + 1) = decide (i < k) := by
      by_cases y : i < k
      · rw [decide_eq_true y, decide_eq_true (show i < k + 1 by omega)]
      · rw [decide_eq_false y, decide_eq_false (show ¬ i < k + 1 by omega)]
    split
    · rw [Nat.testBit_or, Nat.testBit_two_pow_of_ne (fun q => z q.symm), Bool.or_false, bitsOf_bit, bitsOf_bit, e]
    · rw [bitsOf_bit, bitsOf_bit, e]
/-- what is gathered of the codes below a, and of code c in the rooms below k -/
def coU (G : pM) (b : Int) (w a c k : Nat) : Nat := bitsOf (fun r => decide (0 < cntTo (fun c => fnG G c && coB G b w r c) a) || (decide (r < k) && coB G b w r c)) (hR G)
theorem coU_lt (W : WF G) (b : Int) (w a c k : Nat) : coU G b w a c k < 64 := Nat.lt_of_lt_of_le (bitsOf_lt _ _) (show 2 ^ hR G ≤ 2 ^ 6 from Nat.pow_le_pow_right (by decide) W.1)
theorem m_co57 (hD : 1 ≤ D) (W : WF G) {a c w : Nat} {b : Int} (hb : 1 ≤ b ∧ b ≤ 99) (hf : fnG G c = true) (hw : w < 1024) (S : SR M G (c + 1)) (h78 : ∀ t, t < hT G → M 78 t = (plG G c t : Int)) (x2 : Int) : ∀ m k (y6 y7 : pV), k + m = hR G → ∃ (z5 z6 z7 : pV), xE D 241 57 [.inr 62, .inl b, .inl x2, .inl (w : Int), .inl (coU G b w a c k : Nat), .inl (k : Int), y6, y7] [] M = xE D 241 52 [.inr 62, .inl b, .inl x2, .inl (w : Int), .inl (coU G b w a c (hR G) : Nat), z5, z6, z7] [] M
  | 0, k, y6, y7, hk => by
    have w1 := W.1
    rw [L_M_could_57, S.2.1.1, if_pos (by rw [le32_iff] <;> omega), show k = hR G by omega]
    exact ⟨_, _, _, rfl⟩
  | m + 1, k, y6, y7, hk => by
    have w1 := W.1
    have hkR : k < hR G := by omega
    have fr := frG_range W hkR hf
    have st : (if coB G b w k c then coU G b w a c k ||| 2 ^ k else coU G b w a c k) = coU G b w a c (k + 1) := BB_step (f := fun r => decide (0 < cntTo (fun c => fnG G c && coB G b w r c) a)) (g := fun r => coB G b w r c) hkR
    rw [L_M_could_57, S.2.1.1, if_neg (by rw [le32_iff] <;> omega), m_freeG hD W S h78 hkR, pbI_rI, show G 1 k - ldG G k c = frG G k c from rfl, show (.inl 0 : pV) = .inl ((0 : Nat) : Int) from rfl]
    have go : ∀ x6 : Int, ((x6 = 1 ∧ (coB G b w k c = true ↔ ∀ t, 0 ≤ t → t < hT G → w.testBit t = true → plG G c t = k)) ∨ (x6 = 0 ∧ coB G b w k c = false)) → ∃ (z5 z6 z7 : pV), xE D 241 74 [.inr 62, .inl b, .inl x2, .inl (w : Int), .inl (coU G b w a c k : Nat), .inl (k : Int), .inl x6, .inl ((0 : Nat) : Int)] [] M = xE D 241 52 [.inr 62, .inl b, .inl x2, .inl (w : Int), .inl (coU G b w a c (hR G) : Nat), z5, z6, z7] [] M := fun x6 h => by
      obtain ⟨z6, z7, e⟩ := m_co74 hD W hw hkR (coU_lt W b w a c k) h78 S.2.1.2.1 b x2 (coB G b w k c) (hT G) 0 x6 (by omega) h
      obtain ⟨u5, u6, u7, e2⟩ := m_co57 (a := a) hD W hb hf hw S h78 x2 m (k + 1) (.inl z6) (.inl z7) (by omega)
      rw [st] at e
      exact ⟨u5, u6, u7, e.trans e2⟩
    by_cases z : frG G k c < b
    · rw [if_pos (by rw [lt32_iff] <;> omega)]
      exact go 0 (Or.inr ⟨rfl, by
        cases y : coB G b w k c with
        | false => rfl
        | true =>
          have := (coB_iff.mp y).1
          omega⟩)
    · rw [if_neg (by rw [lt32_iff] <;> omega)]
      exact go 1 (Or.inl ⟨rfl, coB_iff.trans ⟨fun y t _ h1 h2 => y.2 t h1 h2, fun y => ⟨by omega, fun t h1 h2 => y t (Nat.zero_le t) h1 h2⟩⟩⟩)
theorem coU_0 (b : Int) (w a c : Nat) : coU G b w a c 0 = bitsOf (fun r => decide (0 < cntTo (fun c => fnG G c && coB G b w r c) a)) (hR G) := bitsOf_congr fun r _ => by
  rw [decide_eq_false (Nat.not_lt_zero r), Bool.false_and, Bool.or_false]
theorem coU_R {a c : Nat} (b : Int) (w : Nat) (hac : a ≤ c) (nf : ∀ c', a ≤ c' → c' < c → fnG G c' = false) (hf : fnG G c = true) : coU G b w a c (hR G) = bitsOf (fun r => decide (0 < cntTo (fun c => fnG G c && coB G b w r c) (c + 1))) (hR G) := bitsOf_congr fun r hr => by
  rw [decide_eq_true hr, Bool.true_and, cnt_next (g := coB G b w r) hac nf hf]
  cases z : coB G b w r c with
  | false => rw [if_neg (by decide), Bool.or_false]
  | true => rw [if_pos rfl, Bool.or_true, decide_eq_true (Nat.succ_pos _)]
theorem m_co52 (hD : 3 ≤ D) (W : WF G) (hW : hR G ^ nC G ≤ 20000) {w : Nat} {b : Int} (hb : 1 ≤ b ∧ b ≤ 99) (hw : w < 1024) (x2 : Int) : ∀ m a (y5 y6 y7 : pV) (M : pM), hR G ^ nC G - a + 1 ≤ m → a ≤ hR G ^ nC G → SR M G a → xE D 241 52 [.inr 62, .inl b, .inl x2, .inl (w : Int), .inl (bitsOf (fun r => decide (0 < cntTo (fun c => fnG G c && coB G b w r c) a)) (hR G) : Nat), y5, y6, y7] [] M = rI y M2 → y = (bitsOf (fun r => decide (0 < cntTo (fun c => fnG G c && coB G b w r c) (hR G ^ nC G))) (hR G) : Nat) := by
  intro m
  induction m with
  | zero => intro a y5 y6 y7 M hm; omega
  | succ m ih =>
    intro a y5 y6 y7 M hm ha S e
    obtain ⟨N, n1, g1, r⟩ := m_nextG (d := D) (by omega) W hW ha S
    rw [L_M_could_52] at e
    rcases r with ⟨r1, c, c1, c2, c3, c4, c5, c6⟩ | ⟨r1, nf⟩
    · obtain ⟨z5, z6, z7, e2⟩ := m_co57 (D := D) (a := a) (by omega) W hb c3 hw c5 c6 x2 (hR G) 0 y6 y7 (by omega)
      rw [r1, pbI_rI, if_neg (by decide), ← coU_0 b w a c, show (.inl 0 : pV) = .inl ((0 : Nat) : Int) from rfl, e2, coU_R b w c1 c4 c3] at e
      exact ih (c + 1) z5 z6 z7 N (by omega) (by omega) c5 e
    · rw [r1, pbI_rI, if_pos (by decide)] at e
      rw [← (rI_inj e).1]
      congr 1
      exact bitsOf_congr fun r _ => by rw [cnt_end (g := coB G b w r) ha nf]
/-- the things of some sets -/
def wiS (G : pM) (told : Nat) : Nat := orTo told.testBit (me G) (hS G)
theorem orTo_bit {c : Nat → Bool} {f : Nat → Nat} {t : Nat} : ∀ n, (orTo c f n).testBit t = true ↔ ∃ i, i < n ∧ c i = true ∧ (f i).testBit t = true
  | 0 => by
    rw [show orTo c f 0 = 0 from rfl, Nat.zero_testBit]
    exact ⟨fun h => Bool.noConfusion h, fun ⟨i, hi, _⟩ => absurd hi (Nat.not_lt_zero i)⟩
  | n + 1 => by
    have ih := orTo_bit (c := c) (f := f) (t := t) n
    have e : orTo c f (n + 1) = if c n then orTo c f n ||| f n else orTo c f n := rfl
    rw [e]
    constructor
    · intro h
      by_cases z : c n = true
      · rw [if_pos z, Nat.testBit_or, Bool.or_eq_true] at h
        rcases h with h | h
        · obtain ⟨i, i1, i2⟩ := ih.mp h
          exact ⟨i, by omega, i2⟩
        · exact ⟨n, Nat.lt_succ_self n, z, h⟩
      · rw [if_neg z] at h
        obtain ⟨i, i1, i2⟩ := ih.mp h
        exact ⟨i, by omega, i2⟩
    · intro ⟨i, i1, i2, i3⟩
      rcases Nat.lt_or_ge i n with u | u
      · have := ih.mpr ⟨i, u, i2, i3⟩
        by_cases z : c n = true
        · rw [if_pos z, Nat.testBit_or, this, Bool.true_or]
        · rw [if_neg z]; exact this
      · have ei : i = n := by omega
        rw [ei] at i2 i3
        rw [if_pos i2, Nat.testBit_or, i3, Bool.or_true]
theorem wiL (W : WF G) (told : Nat) : ∀ n, n ≤ hS G → orTo told.testBit (me G) n < 1024
  | 0, _ => (show 0 < 1024 by decide)
  | n + 1, hn => by
    have ih := wiL W told n (by omega)
    have e : orTo told.testBit (me G) (n + 1) = if told.testBit n then orTo told.testBit (me G) n ||| me G n else orTo told.testBit (me G) n := rfl
    rw [e]
    split
    · exact Nat.or_lt_two_pow (n := 10) ih (me_lt W (by omega))
    · exact ih
theorem wiS_lt (W : WF G) (told : Nat) : wiS G told < 1024 := wiL W told _ (Nat.le_refl _)
theorem m_co29 (hD : 1 ≤ D) (W : WF G) (X : MH M G) {told : Nat} (ht : told < 2147483648) (x1 : Int) : ∀ m k, k + m = hS G → xE D 241 29 [.inr 62, .inl x1, .inl (told : Int), .inl (orTo told.testBit (me G) k : Nat), .inl (k : Int), .inr 0, .inr 0, .inr 0] [] M = pbN (xF D 229 [.inr 62] M) fun M1 => xE D 241 52 [.inr 62, .inl x1, .inl (told : Int), .inl (wiS G told : Nat), .inl 0, .inr 0, .inr 0, .inr 0] [] M1
  | 0, k, hk => by
    have w3 := W.2.2.1
    rw [L_M_could_29, X.2.2.1, if_pos (by rw [le32_iff] <;> omega), show k = hS G by omega]
    rfl
  | m + 1, k, hk => by
    have w3 := W.2.2.1
    have ol := wiL W told k (by omega)
    have ml := me_lt W (show k < hS G by omega)
    have e : orTo told.testBit (me G) (k + 1) = if told.testBit k then orTo told.testBit (me G) k ||| me G k else orTo told.testBit (me G) k := rfl
    have ih := m_co29 hD W X ht x1 m (k + 1) (by omega)
    rw [L_M_could_29, X.2.2.1, if_neg (by rw [le32_iff] <;> omega), m_has hD ht (by omega), pbI_rI, ite01, show ((k : Int) + 1) = ((k + 1 : Nat) : Int) by omega]
    cases b : told.testBit k with
    | false =>
      have jz : jor ((orTo told.testBit (me G) k : Nat) : Int) 0 = ((orTo told.testBit (me G) k : Nat) : Int) := by
        have := jor_nat (a := orTo told.testBit (me G) k) (b := 0) (by omega) (by decide)
        rw [Nat.or_zero] at this; exact this
      rw [b, if_neg (by decide)] at e
      rw [if_neg (by decide), jz, ← e]
      exact ih
    | true =>
      rw [b, if_pos rfl] at e
      rw [if_pos rfl, if_pos (by omega), Int.toNat_natCast, X.2.2.2.2.2.2 k (by omega), jor_nat (by omega) (by omega), ← e]
      exact ih
theorem sp_sum {j r r' : Nat} {p p' : Nat → Nat} {f : Nat → Int} (hp : ∀ i, j.testBit i = true → p' i = r) (hq : ∀ i, j.testBit i = false → p' i = p i) : ∀ n, sumTo (fun i => if p' i = r' then f i else 0) n = sumTo (fun i => if j.testBit i = false ∧ p i = r' then f i else 0) n + (if r' = r then sumTo (fun i => if j.testBit i = true then f i else 0) n else 0) := by
  intro n
  by_cases z : r' = r
  · rw [if_pos z, ← sumTo_add]
    refine sumTo_congr fun i _ => ?_
    show (if p' i = r' then f i else 0) = (if j.testBit i = false ∧ p i = r' then f i else 0) + (if j.testBit i = true then f i else 0)
    cases b : j.testBit i with
    | false =>
      rw [hq i b, if_neg (show ¬ (false = true) by decide), Int.add_zero]
      by_cases y : p i = r'
      · rw [if_pos y, if_pos ⟨rfl, y⟩]
      · rw [if_neg y, if_neg (fun w => y w.2)]
    | true =>
      rw [hp i b, if_pos z.symm, if_neg (fun w => by cases w.1), if_pos rfl, Int.zero_add]
  · rw [if_neg z, Int.add_zero]
    refine sumTo_congr fun i _ => ?_
    show (if p' i = r' then f i else 0) = (if j.testBit i = false ∧ p i = r' then f i else 0)
    cases b : j.testBit i with
    | false =>
      rw [hq i b]
      by_cases y : p i = r'
      · rw [if_pos y, if_pos ⟨rfl, y⟩]
      · rw [if_neg y, if_neg (fun w => y w.2)]
    | true =>
      rw [hp i b, if_neg (fun w => z w.symm), if_neg (fun w => by cases w.1)]
theorem tOf_bit (W : WF G) (j : Nat) {t : Nat} (ht : t < hT G) : (tOf G j).testBit t = j.testBit (oOf G t) := by
  have o := (oOf_in W ht).1
  apply Bool.eq_iff_iff.mpr
  unfold tOf
  rw [orTo_bit]
  constructor
  · intro ⟨i, i1, i2, i3⟩
    rw [(oOf_iff W ht i1).mp i3]; exact i2
  · intro h
    exact ⟨oOf G t, o, h, (oOf_iff W ht o).mpr rfl⟩
theorem blk_tOf (W : WF G) (j : Nat) : blk G (tOf G j) = sumTo (fun i => if j.testBit i = true then blk G (cOf G i) else 0) (nC G) := by
  have e1 : blk G (tOf G j) = sumTo (fun t => if (if j.testBit (oOf G t) = true then 1 else 0) = 1 then G 3 t else 0) (hT G) := sumTo_congr fun t ht => by
    rw [tOf_bit W j ht]
    by_cases b : j.testBit (oOf G t) = true
    · rw [if_pos b, if_pos b, if_pos rfl]
    · rw [if_neg b, if_neg b, if_neg (by decide)]
  rw [e1, blk_parts W (fun i => if j.testBit i = true then 1 else 0) 1]
  refine sumTo_congr fun i _ => ?_
  by_cases b : j.testBit i = true
  · exact Eq.trans (if_pos (show (if j.testBit i = true then 1 else 0) = 1 from if_pos b)) (if_pos b).symm
  · exact Eq.trans (if_neg (show ¬ (if j.testBit i = true then 1 else 0) = 1 from fun z => by rw [if_neg b] at z; cases z)) (if_neg b).symm
theorem cIn_bit (W : WF G) (told : Nat) {i : Nat} : (cIn G told).testBit i = true ↔ ∃ t, t < hT G ∧ oOf G t = i ∧ (wiS G told).testBit t = true := by
  have so : ∀ t, t < hT G → (sOf G t &&& told ≠ 0 ↔ (wiS G told).testBit t = true) := fun t ht => by
    unfold wiS
    rw [orTo_bit]
    constructor
    · intro h
      obtain ⟨s, s1, s2⟩ := and_ex h
      unfold sOf at s1
      rw [bitsOf_bit, Bool.and_eq_true] at s1
      exact ⟨s, of_decide_eq_true s1.1, s2, s1.2⟩
    · intro ⟨s, s1, s2, s3⟩ h
      have : (sOf G t).testBit s = true := by
        unfold sOf
        rw [bitsOf_bit, decide_eq_true s1, Bool.true_and]; exact s3
      have := and_no h this
      rw [s2] at this; cases this
  unfold cIn
  rw [orTo_bit]
  constructor
  · intro ⟨t, t1, t2, t3⟩
    rw [if_pos t1, pow_bit] at t3
    exact ⟨t, t1, of_decide_eq_true t3, (so t t1).mp (of_decide_eq_true t2)⟩
  · intro ⟨t, t1, t2, t3⟩
    refine ⟨t, t1, decide_eq_true ((so t t1).mpr t3), ?_⟩
    rw [if_pos t1, pow_bit]
    exact decide_eq_true t2
theorem nan_all {n i j : Nat} (hi : i < n) : (nan (2 ^ n - 1) j).testBit i = true ↔ j.testBit i = false := by
  rw [nan_bit, Nat.testBit_two_pow_sub_one, decide_eq_true hi, Bool.true_and]
  cases j.testBit i
  · exact ⟨fun _ => rfl, fun _ => rfl⟩
  · exact ⟨fun h => Bool.noConfusion h, fun h => Bool.noConfusion h⟩
theorem co_same (W : WF G) {b : Int} (hb : 1 ≤ b) {told r : Nat} (hr : r < hR G) : cdS G (cIn G told) (b + blk G (tOf G (cIn G told))) r ↔ 0 < cntTo (fun c => fnG G c && coB G b (wiS G told) r c) (hR G ^ nC G) := by
  have h1 : 1 ≤ hR G := by omega
  have pos : ∀ (f : Nat → Bool) (n : Nat), 0 < cntTo f n ↔ ∃ c, c < n ∧ f c = true := by
    intro f n
    induction n with
    | zero => exact ⟨fun h => absurd h (Nat.lt_irrefl 0), fun ⟨c, hc, _⟩ => absurd hc (Nat.not_lt_zero c)⟩
    | succ n ih =>
      rw [cnt_succ]
      constructor
      · intro h
        by_cases z : f n = true
        · exact ⟨n, Nat.lt_succ_self n, z⟩
        · rw [if_neg z] at h
          obtain ⟨c, c1, c2⟩ := ih.mp h
          exact ⟨c, by omega, c2⟩
      · intro ⟨c, c1, c2⟩
        by_cases z : f n = true
        · rw [if_pos z]; exact Nat.succ_pos _
        · rw [if_neg z]
          refine ih.mpr ⟨c, ?_, c2⟩
          rcases Nat.lt_or_ge c n with u | u
          · exact u
          · rw [show c = n by omega] at c2; exact absurd c2 z
  rw [pos]
  unfold cdS EG
  have bs := blk_tOf W (cIn G told)
  -- the load of a room, by the clumps that are joined and by the others
  have ld : ∀ (p p' : Nat → Nat) (c r' : Nat), (∀ i, i < nC G → dg (hR G) (nC G) c i = p' i) → (∀ i, (cIn G told).testBit i = true → p' i = r) → (∀ i, (cIn G told).testBit i = false → p' i = p i) → ldG G r' c = sumTo (fun i => if (nan (2 ^ nC G - 1) (cIn G told)).testBit i = true ∧ p i = r' then blk G (cOf G i) else 0) (nC G) + (if r' = r then blk G (tOf G (cIn G told)) else 0) := fun p p' c r' e1 e2 e3 => by
    unfold ldG
    rw [wlq_cg (nC G) e1, bs]
    have := sp_sum (r' := r') (f := fun i => blk G (cOf G i)) e2 e3 (nC G)
    refine this.trans ?_
    congr 1
    refine sumTo_congr fun i hi => ?_
    by_cases z : (cIn G told).testBit i = false
    · have z2 := (nan_all hi).mpr z
      by_cases y : p i = r'
      · rw [if_pos ⟨z, y⟩, if_pos ⟨z2, y⟩]
      · rw [if_neg (fun w => y w.2), if_neg (fun w => y w.2)]
    · rw [if_neg (fun w => z w.1), if_neg (fun w => z ((nan_all hi).mp w.1))]
  constructor
  · intro ⟨p, p1, p2⟩
    obtain ⟨c, c1, c2⟩ := ex_code (R := hR G) (n := nC G) (q := fun i => if (cIn G told).testBit i = true then r else p i) h1 (fun i hi => by
      by_cases z : (cIn G told).testBit i = true
      · rw [if_pos z]; exact hr
      · rw [if_neg z]
        exact p1 i hi ((nan_all hi).mpr (by
          cases y : (cIn G told).testBit i with
          | false => rfl
          | true => exact absurd y z)))
    have l := fun r' => ld p (fun i => if (cIn G told).testBit i = true then r else p i) c r' c2 (fun i z => if_pos z) (fun i z => if_neg (fun w => by rw [z] at w; cases w))
    refine ⟨c, c1, ?_⟩
    rw [Bool.and_eq_true]
    have fits : ∀ r', r' < hR G → ldG G r' c ≤ if r' = r then G 1 r - b else G 1 r' := fun r' hr' => by
      have a := p2 r' hr'
      have e := l r'
      unfold szB at a
      by_cases z : r' = r
      · rw [if_pos z] at a e ⊢; omega
      · rw [if_neg z] at a e ⊢; omega
    refine ⟨fnW_iff.mpr fun r' hr' => ?_, coB_iff.mpr ⟨?_, fun t ht hw => ?_⟩⟩
    · have a := fits r' hr'
      show ldG G r' c ≤ G 1 r'
      by_cases z : r' = r
      · rw [if_pos z] at a; rw [z] at a ⊢; omega
      · rw [if_neg z] at a; exact a
    · have a := fits r hr
      rw [if_pos rfl] at a
      unfold frG
      omega
    · unfold plG
      rw [c2 _ (oOf_in W ht).1, if_pos ((cIn_bit W told).mpr ⟨t, ht, rfl, hw⟩)]
  · intro ⟨c, c1, c2⟩
    rw [Bool.and_eq_true] at c2
    obtain ⟨f, k⟩ := c2
    obtain ⟨k1, k2⟩ := coB_iff.mp k
    have l := fun r' => ld (dg (hR G) (nC G) c) (dg (hR G) (nC G) c) c r' (fun _ _ => rfl) (fun i z => by
      obtain ⟨t, t1, t2, t3⟩ := (cIn_bit W told).mp z
      have := k2 t t1 t3
      unfold plG at this
      rw [t2] at this; exact this) (fun _ _ => rfl)
    refine ⟨dg (hR G) (nC G) c, fun i _ _ => dg_lt h1 i, fun r' hr' => ?_⟩
    have a : ldG G r' c ≤ G 1 r' := fnW_iff.mp f r' hr'
    have e := l r'
    unfold frG at k1
    unfold szB
    by_cases z : r' = r
    · rw [if_pos z] at e ⊢; rw [z] at a e ⊢; omega
    · rw [if_neg z] at e ⊢; omega
theorem kc_could (R : RI0 M) (C : CI M) (K : CK M) (R1 : RI0 M1) {a1 a2 : Int} (h1 : -2147483648 ≤ a1 ∧ a1 ≤ 2147483647) (h2 : -2147483648 ≤ a2 ∧ a2 ≤ 2147483647) (e1 : xF 1000 27 [.inr 2, .inl a1, .inl a2] M = rI v M1) (f1 : Fr w1 M M1) (k1 : okW cm cmo w1 = true) (e2 : xF 1000 241 [.inr 62, .inl a1, .inl a2] M1 = rI y M2) : v = y := by
  obtain ⟨G, X, Y⟩ := C
  obtain ⟨W, -⟩ := ci_facts R X Y
  have hw1 := W.1
  have w3 := W.2.2.1
  have C := CK_G K X.1
  have t1 : xF (998 + 1 + 1) 27 [.inr 2, .inl a1, .inl a2] M = rI v M1 := e1
  have t2 : xF (998 + 1 + 1) 241 [.inr 62, .inl a1, .inl a2] M1 = rI y M2 := e2
  have Y1 := MG_thr (MG_Fr f1 k1 Y)
  have gT := gM_thr R1.1
  have pS : 2 ^ hS G ≤ 256 := pow_le_of (n := 8) w3
  have pS1 : 1 ≤ 2 ^ hS G := Nat.one_le_two_pow
  rw [T_X_could] at t1
  rw [T_M_could, m_in (by omega), pbI_rI] at t2
  by_cases q1 : 1 ≤ a1 ∧ a1 ≤ 99
  · have q1' : ¬ (lt32 a1 1 ∨ lt32 99 a1) := fun z => by
      rcases z with z | z
      · rw [lt32_iff] at z <;> omega
      · rw [lt32_iff] at z <;> omega
    rw [if_neg (by rw [lt32_iff] <;> omega), if_neg (by rw [lt32_iff] <;> omega)] at t1
    rw [if_neg q1', if_neg (by decide), Y1.1.2.2.1, m_in (by omega), pbI_rI, jshl_one (hS G) (by omega), show (((2 ^ hS G : Nat) : Int) - 1) = ((2 ^ hS G - 1 : Nat) : Int) by omega] at t2
    by_cases q2 : a2 < 0
    · rw [if_pos (by rw [lt32_iff] <;> omega)] at t1
      rw [if_pos (Or.inl (by rw [lt32_iff] <;> omega)), if_neg (fun z => z (by decide))] at t2
      rw [← (rI_inj t1).1, ← (rI_inj t2).1]
    · rw [if_neg (by rw [lt32_iff] <;> omega), c_allSets (by omega) W X.1, pbI_rI] at t1
      by_cases q3 : a2 ≤ ((2 ^ hS G - 1 : Nat) : Int)
      · obtain ⟨told, rfl⟩ : ∃ i : Nat, a2 = i := natI (by omega)
        have q3' : ¬ (lt32 (told : Int) 0 ∨ lt32 ((2 ^ hS G - 1 : Nat) : Int) (told : Int)) := fun z => by
          rcases z with z | z
          · rw [lt32_iff] at z <;> omega
          · rw [lt32_iff] at z <;> omega
        rw [if_pos (by rw [le32_iff] <;> omega)] at t1
        rw [if_neg q3', if_pos (by decide)] at t2
        obtain ⟨qx1, qx2⟩ := x_tooMany (d := 998 + 1) (by omega) W X.1 C
        obtain ⟨N, g2, fN, p1, p2⟩ := m_tooMG (d := 998 + 1) (by omega) gT W Y1.1 (by rw [pset_ne2 (by decide)]; exact R1.2.1)
        rcases Classical.em (tmG G) with q | q
        · rw [qx1 q, pbI_rI, if_neg (by decide)] at t1
          rw [p1 q, pbI_rI, if_neg (by decide)] at t2
          rw [← (rI_inj t1).1, ← (rI_inj t2).1]
        · have hW : hR G ^ nC G ≤ 20000 := by unfold tmG at q; omega
          obtain ⟨p3, p4⟩ := p2 q
          have cl : cIn G told < 1024 := by
            unfold cIn
            refine orTo_lt (fun t => ?_) _
            split
            · rename_i ht
              have := (oOf_in W ht).1
              have := nC_le W
              exact pow10 (by omega)
            · decide
          have tl := tOf_lt W (cIn G told)
          have bl := blk_range W (tOf G (cIn G told))
          have a : v = (bitsOf (fun r => exB (cdS G (cIn G told) (a1 + blk G (tOf G (cIn G told))) r)) (hR G) : Nat) := by
            rw [qx2 q, pbI_rI, if_pos (by decide), c_clumpsIn (by omega) W X.1 C (by omega), pbI_rI, c_thingsOf (by omega) W C (by omega), pbI_rI, c_bulkOf (by omega) W X.1 (by omega), pbI_rI] at t1
            exact x_co40 (D := 998) (by omega) W q cl (by omega) _ _ (hR G) 0 M (by omega) X.1 C t1
          have XN : MH N G := MH_c (M := pset N 60 40 (-1)) (fun o i h1 h2 => by
            unfold pset
            rw [if_neg (fun z => h2 ⟨z.1, by omega, by omega, by omega⟩)]) p4.2.1
          have b : y = (bitsOf (fun r => decide (0 < cntTo (fun c => fnG G c && coB G a1 (wiS G told) r c) (hR G ^ nC G))) (hR G) : Nat) := by
            have e29 := m_co29 (D := 998 + 1) (by omega) W XN (told := told) (by omega) a1 (hS G) 0 (by omega)
            rw [p3, pbI_rI, if_pos (by decide), show (.inl 0 : pV) = .inl ((0 : Nat) : Int) from rfl] at t2
            rw [show orTo told.testBit (me G) 0 = 0 from rfl] at e29
            rw [e29, T_M_beginRows, pbN_rV] at t2
            have z0 : bitsOf (fun r => decide (0 < cntTo (fun c => fnG G c && coB G a1 (wiS G told) r c) 0)) (hR G) = 0 := by
              apply Nat.eq_of_testBit_eq
              intro i
              rw [bitsOf_bit, Nat.zero_testBit, show cntTo (fun c => fnG G c && coB G a1 (wiS G told) i c) 0 = 0 from rfl, decide_eq_false (Nat.lt_irrefl 0), Bool.and_false]
            refine m_co52 (M2 := M2) (D := 998 + 1) (by omega) W hW q1 (wiS_lt W told) (told : Int) (hR G ^ nC G + 1) 0 (.inr 0) (.inr 0) (.inr 0) _ (by omega) (Nat.zero_le _) p4 ?_
            rw [z0]
            exact t2
          rw [a, b]
          congr 1
          exact bitsOf_congr fun r hr => Bool.eq_iff_iff.mpr (exB_iff.trans ((co_same W q1.1 hr).trans ⟨fun z => decide_eq_true z, fun z => of_decide_eq_true z⟩))
      · rw [if_neg (by rw [le32_iff] <;> omega)] at t1
        rw [if_pos (Or.inr (by rw [lt32_iff] <;> omega)), if_neg (fun z => z (by decide))] at t2
        rw [← (rI_inj t1).1, ← (rI_inj t2).1]
  · have y1 : y = -1 := by
      have q1' : lt32 a1 1 ∨ lt32 99 a1 := by
        by_cases z : a1 < 1
        · exact Or.inl (by rw [lt32_iff] <;> omega)
        · exact Or.inr (by rw [lt32_iff] <;> omega)
      rw [if_pos q1', if_pos (by decide)] at t2
      exact (rI_inj t2).1.symm
    by_cases z : a1 < 1
    · rw [if_pos (by rw [lt32_iff] <;> omega)] at t1
      rw [y1, ← (rI_inj t1).1]
    · rw [if_neg (by rw [lt32_iff] <;> omega), if_pos (by rw [lt32_iff] <;> omega)] at t1
      rw [y1, ← (rI_inj t1).1]
end COU
/-! build: what it answers, on both sides -/
section BLD
variable {D d R n : Nat} {M M' M1 M2 G h N : pM} {w1 : List (Nat × Nat)} {v y : Int} {sz bk : Nat → Int}
end BLD
/-! sell: the reference's rows when some clumps are sold -/
section SLD
variable {D d R n T C s code W : Nat} {M M' M1 M2 G h N : pM}
end SLD
/-! sell: what it answers, on both sides -/
section SEL
variable {D d : Nat} {M M' M1 M2 G h N : pM} {w1 : List (Nat × Nat)} {v y : Int}
end SEL
end
section
/-! which letter a sign is -/
section SIX
variable {D d : Nat} {M : pM}
end SIX
/-! a rule is read -/
section XRU
variable {tx : Nat → Int} {st d D : Nat} {M M' : pM} {lv : Int → Int}
end XRU
/-! rule: what it answers and what it keeps, on both sides -/
section RUL
variable {tx : Nat → Int} {st d D L : Nat} {M M' M1 M2 N : pM} {lv lv' : Int → Int} {w1 : List (Nat × Nat)} {v y : Int}
def X3 (M M' : pM) : Prop := ∀ o i, ¬ (o = 3 ∧ (i = 1 ∨ i = 2 ∨ i = 3)) → M' o i = M o i
end RUL
/-! the reader of the rule that is kept: as 78a and 85b (by program) -/
section YR
variable {tx : Nat → Int} {st d : Nat} {M : pM}
end YR
section YRU
variable {tx : Nat → Int} {st d D : Nat} {M M' : pM} {lv : Int → Int}
end YRU
/-! what a thing is worth in a room, on both sides -/
section WOR
variable {tx : Nat → Int} {d D L : Nat} {M M' M1 M2 N G : pM} {w1 w2 : List (Nat × Nat)} {v y : Int} {lv : Int → Int}
end WOR
/-! thing: what it answers, on both sides -/
section THI
variable {tx : Nat → Int} {d D L : Nat} {M M' M1 M2 N G : pM} {w1 : List (Nat × Nat)} {v y : Int}
end THI
/-! best: what it answers, on both sides -/
section BES
variable {tx : Nat → Int} {d D L : Nat} {M M' M1 M2 N G : pM} {w1 : List (Nat × Nat)} {v y : Int}
end BES
end
section
/-! queue: how many clumps are carried, on both sides -/
section QUA
variable {G : pM} {p q : Nat → Int}
end QUA
section QUM
variable {D d S T R C x1 : Nat} {sv : Nat → Nat} {M M' N G : pM} {p : Nat → Int} {v y : Int}
end QUM
/-! queue: one side's search -/
section QUX
variable {D d : Nat} {M M' M1 N G : pM} {p : Nat → Int} {v y : Int}
end QUX
section QUK
variable {D d : Nat} {M M' M1 M2 N G : pM} {p : Nat → Int} {w1 : List (Nat × Nat)} {v y : Int}
end QUK
/-! the list of the arrangements that are lawful, and what it costs between them -/
section LST
variable {D d : Nat} {M M' N G : pM} {p : Nat → Int} {f g : Nat → Nat} {v y : Int}
end LST
/-! what it costs from one of the list to another, on both sides -/
section CST
variable {D d : Nat} {M M' N G : pM} {p : Nat → Int} {f g : Nat → Nat} {v y : Int}
def c6 (G : pM) (t a b : Nat) : Int := if cst G t a b < 0 then 1000000 else cst G t a b
end CST
/-! the fewest evenings, on one side -/
section FEW
variable {D d : Nat} {M M' M1 N G : pM} {p : Nat → Int} {v y w : Int}
end FEW
/-! the list and its costs on the other side -/
section AIF
variable {D d : Nat} {M M' M1 N G : pM} {p : Nat → Int} {f g : Nat → Nat} {v y w : Int}
end AIF
/-! the fewest evenings on the other side; evenings joined -/
section EVF
variable {D d : Nat} {M M' M1 M2 N G : pM} {p : Nat → Int} {w1 : List (Nat × Nat)} {v y w : Int}
end EVF
/-! evenings: what it answers, on both sides -/
section EVJ
variable {D d : Nat} {M M' M1 M2 N G : pM} {p : Nat → Int} {w1 : List (Nat × Nat)} {v y w : Int}
end EVJ
/-! the least strength, on one side -/
section WEK
variable {D d : Nat} {M M' M1 N G : pM} {p : Nat → Int} {v y w : Int}
end WEK
/-! the least strength, on one side: the search -/
section WEL
variable {D d : Nat} {M M' M1 N N0 G : pM} {p : Nat → Int} {v y w : Int}
end WEL
/-! the least strength, on one side: to its end; what is answered -/
section WEM
variable {D d : Nat} {M M' M1 N N0 G : pM} {p : Nat → Int} {v y w : Int}
end WEM
/-! the least strength on the other side; weakest joined -/
section WEO
variable {D d : Nat} {M M' M1 M2 N G : pM} {p : Nat → Int} {w1 : List (Nat × Nat)} {v y w : Int}
end WEO
end
