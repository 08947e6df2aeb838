section
/-! fits: what it answers, on both sides -/
section FTS
variable {D d : Nat} {M M' M1 M2 G h : pM} {w1 : List (Nat × Nat)} {v y : Int} {fine : Nat → Bool} {val : Nat → Int}
end FTS
/-! together, may: what they answer, on both sides -/
section TGS
variable {D d R n : Nat} {M M' M1 M2 G h : pM} {w1 : List (Nat × Nat)} {v y : Int} {sz bk : Nat → Int}
end TGS
/-! may: what it answers, on both sides -/
section MAY
variable {D d R n : Nat} {M M' M1 M2 G h : pM} {w1 : List (Nat × Nat)} {v y : Int} {sz bk : Nat → Int}
end MAY
/-! the class chooses by the bulk in a room -/
section BBK
variable {D d R n : Nat} {M M' M1 M2 G h : pM} {w1 : List (Nat × Nat)} {v y : Int} {sz bk : Nat → Int}
def tbK (G : pM) (b : Nat) (e : Int) (k i : Nat) : Int := if i % 6 = b ∧ i / 6 < k then e * blk G (cOf G (i / 6)) else 0
def szB (G : pM) (b : Nat) (m : Int) (r : Nat) : Int := if r = b then G 1 b + m else G 1 r
theorem svT_bb (hR6 : R ≤ 6) (h1 : 1 ≤ R) (b : Nat) (e : Int) (c : Nat) : svT R (nC G) (tbK G b e (nC G)) c = e * wlq (fun i => blk G (cOf G i)) (dg R (nC G) c) b (nC G) := by
  have key : ∀ k, k ≤ nC G → sumTo (fun j => tbK G b e (nC G) (6 * j + dg R (nC G) c j)) k = e * wlq (fun i => blk G (cOf G i)) (dg R (nC G) c) b k := by
    intro k
    induction k with
    | zero => intro _; exact (Int.mul_zero e).symm
    | succ k ih =>
      intro hk
      have dl := dg_lt (R := R) (C := nC G) (code := c) h1 k
      have e1 : sumTo (fun j => tbK G b e (nC G) (6 * j + dg R (nC G) c j)) (k + 1) = sumTo (fun j => tbK G b e (nC G) (6 * j + dg R (nC G) c j)) k + tbK G b e (nC G) (6 * k + dg R (nC G) c k) := rfl
      rw [e1, ih (by omega), wlq_succ, Int.mul_add]
      congr 1
      unfold tbK
      rw [show (6 * k + dg R (nC G) c k) % 6 = dg R (nC G) c k by omega, show (6 * k + dg R (nC G) c k) / 6 = k by omega]
      by_cases z : dg R (nC G) c k = b
      · rw [if_pos ⟨z, by omega⟩, if_pos z]
      · rw [if_neg (fun w => z w.1), if_neg z, Int.mul_zero]
  exact key (nC G) (Nat.le_refl _)
theorem x_bb16 (hD : 3 ≤ D) (W : WF G) {b : Nat} (hb : b < hR G) (x2 e : Int) : ∀ m k (M : pM), k + m = nC G → XH M G → CL M G → (∀ i, i < 60 → M 37 i = tbK G b e k i) → ∃ M', xE (D + 1) 60 16 [.inr 2, .inl (b : Int), .inl x2, .inl e, .inl (k : Int)] [] M = xE (D + 1) 60 16 [.inr 2, .inl (b : Int), .inl x2, .inl e, .inl (nC G : Int)] [] M' ∧ (∀ i, i < 60 → M' 37 i = tbK G b e (nC G) i) ∧ ∀ o i, o ≠ 37 → M' o i = M o i
  | 0, k, M, hk, X, C, t => by
    have : k = nC G := by omega
    rw [this] at t ⊢
    exact ⟨M, rfl, t, fun _ _ _ => rfl⟩
  | m + 1, k, M, hk, X, C, t => by
    have w1 := W.1
    have n10 := nC_le W
    have bl := blk_range W (cOf G k)
    have t0 : M 37 (6 * k + b) = 0 := by
      rw [t _ (by omega)]
      unfold tbK
      rw [if_neg (by omega)]
    have lo : ∀ o i, o < 32 → pset M 37 (6 * k + b) (0 + e * blk G (cOf G k)) o i = M o i := fun o i ho => pset_ne (by omega)
    obtain ⟨M', e1, a1, f1⟩ := x_bb16 hD W hb x2 e m (k + 1) (pset M 37 (6 * k + b) (0 + e * blk G (cOf G k))) (by omega) (XH_hi lo X) (CL_hi lo C) (fun i hi => by
      by_cases z : i = 6 * k + b
      · rw [z, pset_eq]
        unfold tbK
        rw [show (6 * k + b) % 6 = b by omega, show (6 * k + b) / 6 = k by omega, if_pos ⟨rfl, by omega⟩, Int.zero_add]
      · rw [pset_ne2 z, t i hi]
        unfold tbK
        by_cases z2 : i % 6 = b ∧ i / 6 < k
        · rw [if_pos z2, if_pos ⟨z2.1, by omega⟩]
        · rw [if_neg z2, if_neg (fun w => z2 ⟨w.1, by
            have := w.1
            have := w.2
            omega⟩)])
    refine ⟨M', ?_, a1, fun o i ho => by rw [f1 o i ho, pset_ne ho]⟩
    rw [L_X_chooseByBulk_16, C.1, if_neg (by rw [le32_iff] <;> omega), c_clumpBulk (by omega) W X C (by omega), pbI_rI, T_Walk_add, if_neg (by rw [lt32_iff] <;> omega), if_neg (by rw [le32_iff] <;> omega), if_neg (by rw [lt32_iff] <;> omega), if_neg (by rw [le32_iff] <;> omega), if_pos (by omega), if_pos (by omega), show ((k : Int) * 6 + (b : Int)).toNat = 6 * k + b by omega, t0, pbN_rV, show ((k : Int) + 1) = ((k + 1 : Nat) : Int) by omega]
    exact e1
theorem x_byBulk (hd : 6 ≤ d) (W : WF G) (q : ¬ tmG G) (X : XH M G) (C : CL M G) {b : Nat} (hb : b < hR G) {m e : Int} (hm : -5000 ≤ m ∧ m ≤ 5000) (he : e = 1 ∨ e = -1) : ∃ M', xF d 60 [.inr 2, .inl (b : Int), .inl m, .inl e] M = rI (if (chF (fnW (hR G) (nC G) (szB G b m) (bkG G)) (svT (hR G) (nC G) (tbK G b e (nC G))) (hR G ^ nC G)).1 = 0 then 0 else 1) M' ∧ CHr (hR G) (nC G) (szB G b m) (bkG G) (tbK G b e (nC G)) (hR G ^ nC G) M' ∧ ∀ o i, o < 32 → M' o i = M o i := by
  obtain ⟨D, rfl, hD⟩ := dsucc hd
  obtain ⟨D', rfl, hD'⟩ := dsucc (show 1 ≤ D by omega)
  have w1 := W.1
  have B := WB_G W q
  obtain ⟨N1, s1, s2, s3, s4, s5⟩ := x_startG (d := D' + 1) (by omega) W X C
  obtain ⟨v4, M3, z1, z2⟩ := pbI_inv s1
  have sb := W.2.2.2.1 b hb
  have k33 : N1 33 b = G 1 b := s2.2.2.1 b hb
  have lo1 : ∀ o i, o < 32 → pset N1 33 b (G 1 b - -m) o i = M o i := fun o i ho => by rw [pset_ne (by omega), s5 o i (by omega)]
  obtain ⟨N2, e2, a2, f2⟩ := x_bb16 (D := D') (by omega) W hb m e (nC G) 0 (pset N1 33 b (G 1 b - -m)) (by omega) (XH_hi lo1 X) (CL_hi lo1 C) (fun i hi => by
    rw [pset_ne (by decide), s4 i hi]
    unfold tbK
    rw [if_neg (by omega)])
  have K2 : WK N2 (hR G) (nC G) (szB G b m) (bkG G) := by
    obtain ⟨k1, k2, k3, k4⟩ := s2
    refine ⟨by rw [f2 32 6 (by decide), pset_ne (by decide)]; exact k1, by rw [f2 32 7 (by decide), pset_ne (by decide)]; exact k2, fun r hr => ?_, fun j hj => by rw [f2 35 j (by decide), pset_ne (by decide)]; exact k4 j hj⟩
    rw [f2 33 r (by decide)]
    unfold szB
    by_cases z : r = b
    · rw [z, pset_eq, if_pos rfl]; omega
    · rw [pset_ne2 z, if_neg z]; exact k3 r hr
  have F2 : WF0 N2 (hR G) (nC G) := by
    obtain ⟨k1, k2, k3, k4⟩ := s3
    exact ⟨by rw [f2 32 8 (by decide), pset_ne (by decide)]; exact k1, by rw [f2 32 9 (by decide), pset_ne (by decide)]; exact k2, fun j hj => by rw [f2 36 j (by decide), pset_ne (by decide)]; exact k3 j hj, fun r hr => by rw [f2 34 r (by decide), pset_ne (by decide)]; exact k4 r hr⟩
  have B2 : WB0 (hR G) (nC G) (szB G b m) (bkG G) := by
    obtain ⟨b1, b2, b3, b4, b5, b6⟩ := B
    refine ⟨b1, b2, b3, fun r hr => ?_, b5, b6⟩
    have := W.2.2.2.1 r hr
    unfold szB
    split <;> omega
  have lo2 : ∀ o i, o < 32 → N2 o i = M o i := fun o i ho => by rw [f2 o i (by omega), lo1 o i ho]
  have hv : ∀ c, -100000000 ≤ svT (hR G) (nC G) (tbK G b e (nC G)) c ∧ svT (hR G) (nC G) (tbK G b e (nC G)) c ≤ 100000000 := fun c => by
    have n10 := nC_le W
    have s := sumTo_range (f := fun i => if dg (hR G) (nC G) c i = b then blk G (cOf G i) else 0) (lo := 0) (hi := 990) (n := nC G) (fun i _ => by
      have := blk_range W (cOf G i)
      show 0 ≤ (if dg (hR G) (nC G) c i = b then blk G (cOf G i) else 0) ∧ (if dg (hR G) (nC G) c i = b then blk G (cOf G i) else 0) ≤ 990
      split <;> omega)
    have s2 : ((nC G : Nat) : Int) * 0 ≤ wlq (fun i => blk G (cOf G i)) (dg (hR G) (nC G) c) b (nC G) ∧ wlq (fun i => blk G (cOf G i)) (dg (hR G) (nC G) c) b (nC G) ≤ (nC G : Int) * 990 := s
    rw [svT_bb w1 (by omega)]
    rcases he with rfl | rfl
    · rw [Int.one_mul]; omega
    · rw [Int.neg_mul, Int.one_mul]; omega
  obtain ⟨N3, c1, c2, c3⟩ := x_choose (d := D' + 1) (by omega) B2 hv K2 F2 a2
  refine ⟨N3, ?_, c2, fun o i ho => by rw [c3 o i (by omega) (by omega) (by omega) (by omega), lo2 o i ho]⟩
  have CN2 := CL_hi lo2 C
  have n10 := nC_le W
  rw [T_X_chooseByBulk, z1, pbI_rI, z2, pbN_rV, T_Walk_lessen, if_neg (by rw [lt32_iff] <;> omega), s2.1, if_neg (by rw [le32_iff] <;> omega), if_pos (by omega), if_pos (by omega), Int.toNat_natCast, k33, pbN_rV, show (.inl 0 : pV) = .inl ((0 : Nat) : Int) from rfl, e2, L_X_chooseByBulk_16, CN2.1, if_pos (by rw [le32_iff] <;> omega), c1, pbI_rI]
  by_cases z : (chF (fnW (hR G) (nC G) (szB G b m) (bkG G)) (svT (hR G) (nC G) (tbK G b e (nC G))) (hR G ^ nC G)).1 = 0
  · rw [if_pos z, if_pos (Or.inl rfl)]
  · rw [if_neg z, if_pos (Or.inr rfl)]
end BBK
/-! fullest: what it answers, on both sides -/
section FUL
variable {D d R n : Nat} {M M' M1 M2 G h : pM} {w1 : List (Nat × Nat)} {v y : Int} {sz bk : Nat → Int} {fine : Nat → Bool} {val : Nat → Int}
/-- the load of a room by a code -/
def ldG (G : pM) (b c : Nat) : Int := wlq (fun i => blk G (cOf G i)) (dg (hR G) (nC G) c) b (nC G)
theorem ldG_range (W : WF G) (b c : Nat) : 0 ≤ ldG G b c ∧ ldG G b c ≤ 9900 := by
  have n10 := nC_le W
  have s := sumTo_range (f := fun i => if dg (hR G) (nC G) c i = b then blk G (cOf G i) else 0) (lo := 0) (hi := 990) (n := nC G) (fun i _ => by
    have := blk_range W (cOf G i)
    show 0 ≤ (if dg (hR G) (nC G) c i = b then blk G (cOf G i) else 0) ∧ (if dg (hR G) (nC G) c i = b then blk G (cOf G i) else 0) ≤ 990
    split <;> omega)
  have s2 : ((nC G : Nat) : Int) * 0 ≤ wlq (fun i => blk G (cOf G i)) (dg (hR G) (nC G) c) b (nC G) ∧ wlq (fun i => blk G (cOf G i)) (dg (hR G) (nC G) c) b (nC G) ≤ (nC G : Int) * 990 := s
  unfold ldG
  omega
theorem szB_0 (b : Nat) : szB G b 0 = G 1 := funext fun r => by
  unfold szB
  split
  · rename_i z; rw [z, Int.add_zero]
  · rfl
end FUL
/-! space: what it answers, on both sides -/
section SPC
variable {D d R n : Nat} {M M' M1 M2 G h : pM} {w1 : List (Nat × Nat)} {v y : Int} {fine : Nat → Bool} {val : Nat → Int}
theorem chF_max : ∀ a, ((chF fine val a).1 = 0 → ∀ c, c < a → fine c = false) ∧ ((chF fine val a).1 ≠ 0 → (∃ c, c < a ∧ fine c = true ∧ val c = (chF fine val a).2.1) ∧ ∀ c, c < a → fine c = true → val c ≤ (chF fine val a).2.1)
  | 0 => ⟨fun _ c hc => absurd hc (Nat.not_lt_zero c), fun h => absurd rfl h⟩
  | a + 1 => by
    obtain ⟨i1, i2⟩ := chF_max a
    have e : chF fine val (a + 1) = if fine a then (if (chF fine val a).1 = 0 ∨ (chF fine val a).2.1 < val a then ((chF fine val a).1 + 1, val a, a) else ((chF fine val a).1 + 1, (chF fine val a).2)) else chF fine val a := rfl
    rw [e]
    cases q : fine a with
    | false =>
      rw [if_neg (by decide)]
      refine ⟨fun h c hc => ?_, fun h => ⟨?_, fun c hc hf => ?_⟩⟩
      · rcases Nat.lt_or_ge c a with u | u
        · exact i1 h c u
        · rw [show c = a by omega]; exact q
      · obtain ⟨⟨c, c1, c2, c3⟩, -⟩ := i2 h
        exact ⟨c, by omega, c2, c3⟩
      · rcases Nat.lt_or_ge c a with u | u
        · exact (i2 h).2 c u hf
        · rw [show c = a by omega, q] at hf; cases hf
    | true =>
      rw [if_pos rfl]
      by_cases q2 : (chF fine val a).1 = 0 ∨ (chF fine val a).2.1 < val a
      · rw [if_pos q2]
        refine ⟨fun h => absurd h (Nat.succ_ne_zero _), fun _ => ⟨⟨a, Nat.lt_succ_self a, q, rfl⟩, fun c hc hf => ?_⟩⟩
        show val c ≤ val a
        rcases Nat.lt_or_ge c a with u | u
        · rcases q2 with q2 | q2
          · rw [i1 q2 c u] at hf; cases hf
          · by_cases q3 : (chF fine val a).1 = 0
            · rw [i1 q3 c u] at hf; cases hf
            · have := (i2 q3).2 c u hf
              omega
        · rw [show c = a by omega]; exact Int.le_refl _
      · rw [if_neg q2]
        have q3 : (chF fine val a).1 ≠ 0 := fun z => q2 (Or.inl z)
        obtain ⟨⟨c0, c1, c2, c3⟩, i4⟩ := i2 q3
        refine ⟨fun h => absurd h (Nat.succ_ne_zero _), fun _ => ⟨⟨c0, by omega, c2, c3⟩, fun c hc hf => ?_⟩⟩
        show val c ≤ (chF fine val a).2.1
        rcases Nat.lt_or_ge c a with u | u
        · exact i4 c u hf
        · rw [show c = a by omega]
          exact Int.not_lt.mp (fun z => q2 (Or.inr z))
end SPC
/-! near, guest: the least to be carried, on both sides -/
section NEA
variable {D d R n : Nat} {M M' M1 M2 N G h : pM} {w1 : List (Nat × Nat)} {v y : Int} {sz : Nat → Int} {fine : Nat → Bool} {val : Nat → Int}
end NEA
/-! is there an arrangement at all: of some clumps, with other sizes -/
section EXA
variable {D d R n : Nat} {M M' M1 M2 G h N : pM} {w1 : List (Nat × Nat)} {v y : Int} {sz bk : Nat → Int} {q : Nat → Nat}
/-- the parts can be put -/
def EX (R n : Nat) (sz bk : Nat → Int) : Prop := ∃ q : Nat → Nat, (∀ j, j < n → q j < R) ∧ ∀ r, r < R → wlq bk q r n ≤ sz r
theorem ex_code (h1 : 1 ≤ R) (hq : ∀ j, j < n → q j < R) : ∃ c, c < R ^ n ∧ ∀ j, j < n → dg R n c j = q j := by
  have cl := pcd_lt h1 n hq
  exact ⟨pcd R q n, by omega, dg_of (c := pcd R q n) h1 n (Nat.le_refl n) hq (by rw [Nat.sub_self, Nat.pow_zero, Nat.div_one])⟩
theorem EX_iff (h1 : 1 ≤ R ∨ n = 0) : EX R n sz bk ↔ ∃ c, c < R ^ n ∧ fnW R n sz bk c = true := by
  constructor
  · intro ⟨q, q1, q2⟩
    rcases h1 with h1 | h1
    · obtain ⟨c, c1, c2⟩ := ex_code h1 q1
      refine ⟨c, c1, fnW_iff.mpr fun r hr => ?_⟩
      rw [wlq_cg n c2]; exact q2 r hr
    · subst h1
      exact ⟨0, by rw [Nat.pow_zero]; exact Nat.zero_lt_one, fnW_iff.mpr fun r hr => q2 r hr⟩
  · intro ⟨c, c1, c2⟩
    refine ⟨dg R n c, fun j hj => ?_, fnW_iff.mp c2⟩
    rcases h1 with h1 | h1
    · exact dg_lt h1 j
    · omega
theorem x_nextE (hd : 3 ≤ d) (K : WK M R n sz bk) (B : WB0 R n sz bk) (F : WF0 M R n) : ∃ M', (EX R n sz bk → xF d 163 [.inr 34] M = rI 1 M') ∧ (¬ EX R n sz bk → xF d 163 [.inr 34] M = rI 0 M') ∧ ∀ o i, o < 32 → M' o i = M o i := by
  obtain ⟨M', f, r⟩ := x_next0 hd K B F
  refine ⟨M', fun e => ?_, fun e => ?_, fun o i ho => f o i (by omega) (by omega) (by omega)⟩
  · rcases r with ⟨r1, -⟩ | ⟨r1, nf⟩
    · exact r1
    · obtain ⟨c, c1, c2⟩ := (EX_iff B.1).mp e
      have := nf c (Nat.zero_le c) c1
      rw [c2] at this; cases this
  · rcases r with ⟨r1, c, c1, c2, c3, c4⟩ | ⟨r1, nf⟩
    · exact absurd ((EX_iff B.1).mpr ⟨c, c4.2.2.1, c2⟩) e
    · exact r1
end EXA
/-! could: what it answers, on both sides -/
section COU
variable {D d R n : Nat} {M M' M1 M2 G h N : pM} {w1 : List (Nat × Nat)} {v y : Int} {sz bk : Nat → Int}
end COU
/-! build: what it answers, on both sides -/
section BLD
variable {D d R n : Nat} {M M' M1 M2 G h N : pM} {w1 : List (Nat × Nat)} {v y : Int} {sz bk : Nat → Int}
/-- all can be put, if room r is greater by m -/
def ndW (G : pM) (r : Nat) (m : Int) : Prop := ∃ c, c < hR G ^ nC G ∧ fnW (hR G) (nC G) (szB G r m) (fun i => blk G (cOf G i)) c = true
theorem fnW_bk (sz : Nat → Int) : fnW (hR G) (nC G) sz (bkG G) = fnW (hR G) (nC G) sz (fun i => blk G (cOf G i)) := funext fun c => by
  unfold fnW
  have e : ∀ r, wlq (bkG G) (dg (hR G) (nC G) c) r (nC G) = wlq (fun i => blk G (cOf G i)) (dg (hR G) (nC G) c) r (nC G) := fun r => sumTo_congr fun i hi => by
    unfold bkG
    rw [bkL_all (nC G) (Nat.le_refl _) hi]
  simp only [e]
theorem fn_mono {r c : Nat} {m m' : Int} (h : m ≤ m') (a : fnW (hR G) (nC G) (szB G r m) bk c = true) : fnW (hR G) (nC G) (szB G r m') bk c = true := fnW_iff.mpr fun r' hr' => by
  have := fnW_iff.mp a r' hr'
  unfold szB at this ⊢
  by_cases z : r' = r
  · rw [if_pos z] at this ⊢; omega
  · rw [if_neg z] at this ⊢; exact this
theorem nd_mono {r : Nat} {m m' : Int} (h : m ≤ m') (a : ndW G r m) : ndW G r m' := by
  obtain ⟨c, c1, c2⟩ := a
  exact ⟨c, c1, fn_mono h c2⟩
theorem frF_d {p : Nat → Int} {z : Int} (h63 : ∀ k, N 63 k = M 63 k) : ∀ n, frF N p z n = frF M p z n + (N 61 z.toNat - M 61 z.toNat)
  | 0 => by
    show N 61 z.toNat = M 61 z.toNat + (N 61 z.toNat - M 61 z.toNat)
    omega
  | n + 1 => by
    have ih := frF_d (p := p) (z := z) h63 n
    unfold frF
    rw [ih, h63]
    split <;> omega
theorem fnB_sz (W : WF G) (X : MH M G) (h72 : ∀ t, t < hT G → M 72 t = (oOf G t : Int)) (h1 : 1 ≤ hR G) {r : Nat} {m : Int} (hm : 0 ≤ m ∧ m ≤ 200) (hN : ∀ o i, ¬ (o = 61 ∧ i = r) → ¬ (o = 60 ∧ i = 40) → N o i = M o i) (hr : r < hR G) (hNr : N 61 r = G 1 r + m) (c : Nat) : fnB N (hR G) (hT G) (nC G) c = fnW (hR G) (nC G) (szB G r m) (fun i => blk G (cOf G i)) c := by
  have tr : trP N (hR G) (nC G) c = trP M (hR G) (nC G) c := funext fun t => by
    unfold trP
    rw [hN 72 t (by omega) (by omega)]
  have key : ∀ r', r' < hR G → decide (le32 0 (frF N (trP N (hR G) (nC G) c) r' (hT G))) = decide (wlq (fun i => blk G (cOf G i)) (dg (hR G) (nC G) c) r' (nC G) ≤ szB G r m r') := fun r' hr' => by
    have s := W.2.2.2.1 r' hr'
    have lr := ldG_range W r' c
    unfold ldG at lr
    have k61 : N 61 r' - M 61 r' = if r' = r then m else 0 := by
      by_cases z : r' = r
      · rw [if_pos z, z, hNr, X.2.2.2.1 r hr]; omega
      · rw [if_neg z, hN 61 r' (by omega) (by omega)]; omega
    rw [tr, frF_d (fun k => hN 63 k (by omega) (by omega)), load_G W X h72 h1 hr', Int.toNat_natCast, k61]
    refine decide_eq_decide.mpr ?_
    unfold szB
    by_cases z : r' = r
    · rw [if_pos z, if_pos z, le32_iff (by omega) (by omega) (by omega) (by omega), ← z]
      omega
    · rw [if_neg z, if_neg z, le32_iff (by omega) (by omega) (by omega) (by omega)]
      omega
  unfold fnB fnW
  apply Bool.eq_iff_iff.mpr
  rw [allTo_iff, allTo_iff]
  exact ⟨fun h r' hr' => by rw [← key r' hr']; exact h r' hr', fun h r' hr' => by rw [key r' hr']; exact h r' hr'⟩
theorem gM_61 (g : gM gAll M) {r : Nat} (hr : r < 6) (v : Int) : gM gAll (pset M 61 r v) := gMs_set g (by
  rw [gAll_row (o := 61) (v := (1, 0, 0, 0, 0, 0)) (by decide +kernel) (by decide +kernel) (show r < 100000 by omega)]
  exact Or.inr (Or.inl rfl))
theorem SR_sz {a b : Nat} (S : SR M G a) (g : gM gAll N) (sz : ∀ r, r < hR G → N 61 r = G 1 r) (fr : ∀ o i, o ≠ 78 → o ≠ 79 → o ≠ 61 → ¬ (o = 60 ∧ i = 40) → N o i = M o i) (e : N 60 40 = (b : Int) - 1) : SR N G b := by
  obtain ⟨-, ⟨x1, x2, x3, x4, x5, x6, x7⟩, s3, s4, s5, -, s7, s8⟩ := S
  exact ⟨g, ⟨by rw [fr 60 0 (by decide) (by decide) (by decide) (by omega)]; exact x1, by rw [fr 60 3 (by decide) (by decide) (by decide) (by omega)]; exact x2, by rw [fr 60 8 (by decide) (by decide) (by decide) (by omega)]; exact x3, sz, fun p hp => by rw [fr 62 p (by decide) (by decide) (by decide) (by omega)]; exact x5 p hp, fun t ht => by rw [fr 63 t (by decide) (by decide) (by decide) (by omega), fr 64 t (by decide) (by decide) (by decide) (by omega), fr 65 t (by decide) (by decide) (by decide) (by omega), fr 66 t (by decide) (by decide) (by decide) (by omega)]; exact x6 t ht, fun s hs => by rw [fr 67 s (by decide) (by decide) (by decide) (by omega)]; exact x7 s hs⟩, by rw [fr 60 38 (by decide) (by decide) (by decide) (by omega)]; exact s3, by rw [fr 60 30 (by decide) (by decide) (by decide) (by omega)]; exact s4, by rw [fr 60 39 (by decide) (by decide) (by decide) (by omega)]; exact s5, e, fun t ht => by rw [fr 72 t (by decide) (by decide) (by decide) (by omega)]; exact s7 t ht, fun i hi => by rw [fr 73 i (by decide) (by decide) (by decide) (by omega)]; exact s8 i hi⟩
theorem m_enoughB (hd : 5 ≤ d) (W : WF G) (hW : hR G ^ nC G ≤ 20000) {a : Nat} (S : SR M G a) {r : Nat} (hr : r < hR G) {m : Nat} (hm : m ≤ 200) : ∃ M' b, (ndW G r (m : Int) → xF d 249 [.inr 62, .inl (r : Int), .inl (m : Int)] M = rI 1 M') ∧ (¬ ndW G r (m : Int) → xF d 249 [.inr 62, .inl (r : Int), .inl (m : Int)] M = rI 0 M') ∧ SR M' G b := by
  obtain ⟨D, rfl, hD⟩ := dsucc hd
  obtain ⟨D', rfl, hD'⟩ := dsucc (show 1 ≤ D by omega)
  have w1 := W.1
  have w2 := W.2.1
  have n10 := nC_le W
  have h1 : 1 ≤ hR G := by omega
  obtain ⟨g, s2, s3, s4, s5, s6, s7, s8⟩ := id S
  have k61 : M 61 r = G 1 r := s2.2.2.2.1 r hr
  have nf : ∀ o i, ¬ (o = 61 ∧ i = r) → ¬ (o = 60 ∧ i = 40) → pset (pset M 61 r (G 1 r + (m : Int))) 60 40 (-1) o i = M o i := fun o i a b => by
    unfold pset
    rw [if_neg b, if_neg a]
  have nr : pset (pset M 61 r (G 1 r + (m : Int))) 60 40 (-1) 61 r = G 1 r + (m : Int) := by rw [pset_ne (by decide), pset_eq]
  have n40 : pset (pset M 61 r (G 1 r + (m : Int))) 60 40 (-1) 60 40 = -1 := pset_eq
  have gN : gM gAll (pset (pset M 61 r (G 1 r + (m : Int))) 60 40 (-1)) := gM_f (gM_61 g (by omega) _) (lo := -1) (hi := 1000000) (by decide +kernel) (by omega) (by omega)
  have e0 : xF (D' + 1 + 1) 249 [.inr 62, .inl (r : Int), .inl (m : Int)] M = pbI (xF (D' + 1) 230 [.inr 62] (pset (pset M 61 r (G 1 r + (m : Int))) 60 40 (-1))) fun v3 M2 => if v3 = 0 ∨ v3 = 1 then some (some (.inl v3), pset M2 61 r ((M2 61 r) - (m : Int))) else none := by
    rw [T_M_isEnough, if_pos (by omega), if_pos (by omega), Int.toNat_natCast, k61, T_M_beginRows, pbN_rV]
    congr 1
    funext v3 M2
    rw [if_pos (by omega), if_pos (by omega)]
  generalize hN : pset (pset M 61 r (G 1 r + (m : Int))) 60 40 (-1) = N at nf nr n40 gN e0
  have RX : RWx N (hR G) (hT G) (nC G) := ⟨by rw [nf 60 0 (by omega) (by omega)]; exact s2.1, h1, w1, by rw [nf 60 3 (by omega) (by omega)]; exact s2.2.1, w2, by rw [nf 60 30 (by omega) (by omega)]; exact s4, n10, by rw [nf 60 38 (by omega) (by omega)]; exact s3, fun t ht => ⟨oOf G t, by rw [nf 72 t (by omega) (by omega)]; exact s7 t ht, (oOf_in W ht).1⟩⟩
  obtain ⟨M', g', n, rr⟩ := m_nextRow (d := D' + 1) (code := 0) (W := hR G ^ nC G) (by omega) (by omega) (by omega) RX gN (by rw [nf 60 39 (by omega) (by omega)]; exact s5) (by rw [n40]; rfl)
  have fb := fnB_sz W s2 s7 h1 (m := (m : Int)) (by omega) nf hr nr
  have M61 : M' 61 r = G 1 r + (m : Int) := by rw [n 61 r (by decide) (by decide) (by omega)]; exact nr
  have mk : ∀ b : Nat, M' 60 40 = (b : Int) - 1 → SR (pset M' 61 r (M' 61 r - (m : Int))) G b := fun b hb => by
    refine SR_sz S (gM_61 g' (by omega) _) (fun r' hr' => ?_) (fun o i a1 a2 a3 a4 => by rw [pset_ne a3, n o i a1 a2 a4, nf o i (fun z => a3 z.1) a4]) (by rw [pset_ne (by decide)]; exact hb)
    by_cases z : r' = r
    · rw [z, pset_eq, M61]; omega
    · rw [pset_ne2 z, n 61 r' (by decide) (by decide) (by omega), nf 61 r' (by omega) (by omega)]; exact s2.2.2.2.1 r' hr'
  rcases rr with ⟨r1, r2, r3⟩ | ⟨r1, c1, r2, r3, r4, r5, r6, r7⟩
  · refine ⟨_, max 0 (hR G ^ nC G) + 1, fun ⟨c, c1, c2⟩ => ?_, fun _ => ?_, mk _ (by rw [r3]; omega)⟩
    · have := r2 c (Nat.zero_le c) c1
      rw [fb, c2] at this; cases this
    · rw [e0, r1, pbI_rI, if_pos (Or.inl rfl)]
  · refine ⟨_, c1 + 1, fun _ => ?_, fun z => absurd ⟨c1, r3, by rw [← fb]; exact r4⟩ z, mk _ (by rw [r6]; omega)⟩
    rw [e0, r1, pbI_rI, if_pos (Or.inr rfl)]
/-- V is the least by which a room below k has to be greater; 100 if none below 100 is enough -/
def LBd (G : pM) (k V : Nat) : Prop := V ≤ 100 ∧ (∀ r m : Nat, r < k → m < 100 → ndW G r (m : Int) → V ≤ m) ∧ (V = 100 ∨ ∃ r, r < k ∧ ndW G r (V : Int))
theorem LB_uniq {k V V' : Nat} (a : LBd G k V) (b : LBd G k V') : V = V' := by
  obtain ⟨a1, a2, a3⟩ := a
  obtain ⟨b1, b2, b3⟩ := b
  have l1 : V ≤ V' := by
    rcases b3 with b3 | ⟨r, b4, b5⟩
    · omega
    · rcases Nat.lt_or_ge V' 100 with u | u
      · exact a2 r V' b4 u b5
      · omega
  have l2 : V' ≤ V := by
    rcases a3 with a3 | ⟨r, a4, a5⟩
    · omega
    · rcases Nat.lt_or_ge V 100 with u | u
      · exact b2 r V a4 u a5
      · omega
  omega
theorem LB_step {k V low : Nat} (a : LBd G k V) (hl : low ≤ V) (h1 : ∀ m : Nat, m < low → ¬ ndW G k (m : Int)) (h2 : low = V ∨ ndW G k (low : Int)) : LBd G (k + 1) low := by
  obtain ⟨a1, a2, a3⟩ := a
  refine ⟨by omega, fun r m hr hm hn => ?_, ?_⟩
  · rcases Nat.lt_or_ge r k with u | u
    · have := a2 r m u hm hn
      omega
    · rcases Nat.lt_or_ge m low with u2 | u2
      · exact absurd (by rw [show r = k by omega] at hn; exact hn) (h1 m u2)
      · exact u2
  · rcases h2 with h2 | h2
    · rcases a3 with a3 | ⟨r, a4, a5⟩
      · exact Or.inl (by omega)
      · exact Or.inr ⟨r, by omega, by rw [h2]; exact a5⟩
    · exact Or.inr ⟨k, Nat.lt_succ_self k, h2⟩
def bdX (x1 : Int) (V : Nat) : Prop := (x1 = -1 ∧ V = 100) ∨ (0 ≤ x1 ∧ x1 ≤ 5 ∧ V < 100)
theorem m_bs27 (hD : 5 ≤ D) (W : WF G) (hW : hR G ^ nC G ≤ 20000) {k V : Nat} {x1 : Int} (hk : k < hR G) (L : LBd G k V) (hx : bdX x1 V) : ∀ n (a b s : Nat) (y6 : pV) (M : pM), a ≤ b → b ≤ V → b - a ≤ n → (∀ m : Nat, m < a → ¬ ndW G k (m : Int)) → (b = V ∨ ndW G k (b : Int)) → SR M G s → ∃ (z1 : Int) (V' : Nat) (y4 y5 y6' : pV) (M' : pM) (s' : Nat), LBd G (k + 1) V' ∧ bdX z1 V' ∧ SR M' G s' ∧ xE D 248 27 [.inr 62, .inl x1, .inl (V : Int), .inl (k : Int), .inl (a : Int), .inl (b : Int), y6] [] M = xE D 248 19 [.inr 62, .inl z1, .inl (V' : Int), .inl ((k + 1 : Nat) : Int), y4, y5, y6'] [] M' := by
  have w1 := W.1
  have hV := L.1
  have fin : ∀ (a s : Nat) (y6 : pV) (M : pM), a ≤ V → (∀ m : Nat, m < a → ¬ ndW G k (m : Int)) → (a = V ∨ ndW G k (a : Int)) → SR M G s → ∃ (z1 : Int) (V' : Nat) (y4 y5 y6' : pV) (M' : pM) (s' : Nat), LBd G (k + 1) V' ∧ bdX z1 V' ∧ SR M' G s' ∧ xE D 248 27 [.inr 62, .inl x1, .inl (V : Int), .inl (k : Int), .inl (a : Int), .inl (a : Int), y6] [] M = xE D 248 19 [.inr 62, .inl z1, .inl (V' : Int), .inl ((k + 1 : Nat) : Int), y4, y5, y6'] [] M' := by
    intro a s y6 M ha h1 h2 S
    have L' := LB_step L ha h1 h2
    rw [L_M_build_27, if_pos (by rw [le32_iff] <;> omega), show ((k : Int) + 1) = ((k + 1 : Nat) : Int) by omega]
    by_cases q : a < V
    · rw [if_pos (by rw [lt32_iff] <;> omega)]
      exact ⟨(k : Int), a, _, _, _, M, s, L', Or.inr ⟨by omega, by omega, by omega⟩, S, rfl⟩
    · rw [if_neg (by rw [lt32_iff] <;> omega)]
      have e : a = V := by omega
      rw [e] at L' ⊢
      exact ⟨x1, V, _, _, _, M, s, L', hx, S, rfl⟩
  intro n
  induction n with
  | zero =>
    intro a b s y6 M hab hb hn h1 h2 S
    rw [show b = a by omega] at h2 hb ⊢
    exact fin a s y6 M hb h1 h2 S
  | succ n ih =>
    intro a b s y6 M hab hb hn h1 h2 S
    by_cases e : b ≤ a
    · rw [show b = a by omega] at h2 hb ⊢
      exact fin a s y6 M hb h1 h2 S
    · have em : jdiv ((a : Int) + (b : Int)) 2 = (((a + b) / 2 : Nat) : Int) := by
        rw [show (a : Int) + (b : Int) = ((a + b : Nat) : Int) by omega, show (2 : Int) = ((2 : Nat) : Int) from rfl, jdiv_nat (by omega) (by omega) (by omega)]
      obtain ⟨M1, s1, e1, e2, S1⟩ := m_enoughB (d := D) hD W hW S hk (m := (a + b) / 2) (by omega)
      rw [L_M_build_27, if_neg (by rw [le32_iff] <;> omega), em]
      by_cases q : ndW G k (((a + b) / 2 : Nat) : Int)
      · rw [e1 q, pbI_rI, if_neg (by decide)]
        exact ih a ((a + b) / 2) s1 _ M1 (by omega) (by omega) (by omega) h1 (Or.inr q) S1
      · rw [e2 q, pbI_rI, if_pos (by decide), show (((a + b) / 2 : Nat) : Int) + 1 = (((a + b) / 2 + 1 : Nat) : Int) by omega]
        exact ih ((a + b) / 2 + 1) b s1 _ M1 (by omega) hb (by omega) (fun m hm z => q (nd_mono (by omega) z)) h2 S1
theorem m_bs19 (hD : 5 ≤ D) (W : WF G) (hW : hR G ^ nC G ≤ 20000) : ∀ m k (x1 : Int) (V s : Nat) (y4 y5 y6 : pV) (M : pM), k + m = hR G → LBd G k V → bdX x1 V → SR M G s → xE D 248 19 [.inr 62, .inl x1, .inl (V : Int), .inl (k : Int), y4, y5, y6] [] M = rI y M2 → ∃ V' : Nat, LBd G (hR G) V' ∧ y = if V' = 100 then -2 else (V' : Int)
  | 0, k, x1, V, s, y4, y5, y6, M, hk, L, hx, S, e => by
    have w1 := W.1
    have hV := L.1
    rw [L_M_build_19, S.2.1.1, if_pos (by rw [le32_iff] <;> omega)] at e
    rw [show k = hR G by omega] at L
    refine ⟨V, L, ?_⟩
    rcases hx with ⟨rfl, hx⟩ | ⟨hx1, hx2, hx3⟩
    · rw [if_neg (fun z => z (by decide))] at e
      rw [if_pos hx]; exact (rI_inj e).1.symm
    · rw [if_pos (by rw [eq32_iff] <;> omega)] at e
      rw [if_neg (by omega)]
      split at e
      · obtain ⟨_, -, e⟩ := pbN_inv e
        exact (rI_inj e).1.symm
      · obtain ⟨_, -, e⟩ := pbN_inv e
        exact (rI_inj e).1.symm
  | m + 1, k, x1, V, s, y4, y5, y6, M, hk, L, hx, S, e => by
    have w1 := W.1
    have hV := L.1
    obtain ⟨z1, V', z4, z5, z6, M', s', L', hx', S', e'⟩ := m_bs27 hD W hW (show k < hR G by omega) L hx 100 0 V s y6 M (Nat.zero_le _) (Nat.le_refl _) (by omega) (fun m hm => absurd hm (Nat.not_lt_zero m)) (Or.inl rfl) S
    rw [L_M_build_19, S.2.1.1, if_neg (by rw [le32_iff] <;> omega), show (.inl 0 : pV) = .inl ((0 : Nat) : Int) from rfl, e'] at e
    exact m_bs19 hD W hW m (k + 1) z1 V' s' z4 z5 z6 M' (by omega) L' hx' S' e
theorem x_bs32 (hD : 6 ≤ D) (W : WF G) (q : ¬ tmG G) (no : ∀ r, ¬ ndW G r 0) : ∀ m k (x1 : Int) (V : Nat) (M : pM), k + m = hR G → LBd G k V → 1 ≤ V → XH M G → CL M G → xE D 33 32 [.inr 2, .inl x1, .inl (if V = 100 then 1000000 else (V : Int)), .inl (k : Int)] [] M = rI v M' → ∃ V' : Nat, LBd G (hR G) V' ∧ v = if V' = 100 then -2 else (V' : Int)
  | 0, k, x1, V, M, hk, L, h1, X, C, e => by
    have w1 := W.1
    have hV := L.1
    rw [L_X_build_32, X.1, if_pos (by rw [le32_iff] <;> omega)] at e
    rw [show k = hR G by omega] at L
    refine ⟨V, L, ?_⟩
    by_cases z : V = 100
    · rw [if_pos z, if_neg (fun w => w (by decide))] at e
      rw [if_pos z]; exact (rI_inj e).1.symm
    · rw [if_neg z, if_pos (by rw [eq32_iff] <;> omega)] at e
      obtain ⟨_, -, e⟩ := pbN_inv e
      obtain ⟨_, -, e⟩ := pbN_inv e
      rw [if_neg z]; exact (rI_inj e).1.symm
  | m + 1, k, x1, V, M, hk, L, h1, X, C, e => by
    have w1 := W.1
    have hV := L.1
    have hkR : k < hR G := by omega
    have sb := W.2.2.2.1 k hkR
    have fr : (1 : Int) ≤ (if V = 100 then 1000000 else (V : Int)) ∧ (if V = 100 then 1000000 else (V : Int)) ≤ 1000000 := by split <;> omega
    obtain ⟨N, c1, c2, c3⟩ := x_byBulk (d := D) hD W q X C hkR (m := 99) (e := -1) (by omega) (Or.inr rfl)
    have ev : svT (hR G) (nC G) (tbK G k (-1) (nC G)) = fun c => -ldG G k c := funext fun c => by
      rw [svT_bb w1 (by omega), Int.neg_mul, Int.one_mul]; rfl
    unfold CHr at c2
    rw [fnW_bk, ev] at c1 c2
    obtain ⟨c21, c22⟩ := c2
    obtain ⟨i1, i2⟩ := chF_max (fine := fnW (hR G) (nC G) (szB G k 99) (fun i => blk G (cOf G i))) (val := fun c => -ldG G k c) (hR G ^ nC G)
    have XN := XH_hi c3 X
    have CN := CL_hi c3 C
    rw [L_X_build_32, X.1, if_neg (by rw [le32_iff] <;> omega), if_neg (by rw [le32_iff] <;> omega), c1, pbI_rI, show ((k : Int) + 1) = ((k + 1 : Nat) : Int) by omega] at e
    by_cases z : (chF (fnW (hR G) (nC G) (szB G k 99) (fun i => blk G (cOf G i))) (fun c => -ldG G k c) (hR G ^ nC G)).1 = 0
    · rw [if_pos z, if_pos (by decide)] at e
      refine x_bs32 hD W q no m (k + 1) x1 V N (by omega) (LB_step L (Nat.le_refl V) (fun m hm hn => ?_) (Or.inl rfl)) h1 XN CN e
      obtain ⟨c, d1, d2⟩ := nd_mono (m' := 99) (by omega) hn
      rw [i1 z c d1] at d2; cases d2
    · obtain ⟨⟨c0, d1, d2, d3⟩, i4⟩ := i2 z
      have v10 := (c22 z).1
      have k8 : N 8 k = G 1 k := XN.2.2.2.1 k hkR
      rw [← d3] at v10 i4
      have l0 := ldG_range W k c0
      -- what room k has to be greater by
      have nd : ∀ m : Nat, m < 100 → (ndW G k (m : Int) ↔ ldG G k c0 - G 1 k ≤ (m : Int)) := fun m hm => by
        constructor
        · intro ⟨c, e1, e2⟩
          have a := i4 c e1 (fn_mono (by omega) e2)
          have a : -ldG G k c ≤ -ldG G k c0 := a
          have b := fnW_iff.mp e2 k hkR
          have b : ldG G k c ≤ szB G k (m : Int) k := b
          unfold szB at b
          rw [if_pos rfl] at b
          omega
        · intro hl
          refine ⟨c0, d1, fnW_iff.mpr fun r' hr' => ?_⟩
          have b := fnW_iff.mp d2 r' hr'
          unfold szB at b ⊢
          by_cases y : r' = k
          · rw [if_pos y, y]
            show ldG G k c0 ≤ _
            omega
          · rw [if_neg y] at b ⊢; exact b
      have g1 : 1 ≤ ldG G k c0 - G 1 k := by
        rcases (show ldG G k c0 - G 1 k < 1 ∨ 1 ≤ ldG G k c0 - G 1 k by omega) with u | u
        · exact absurd ((nd 0 (by decide)).mpr (by omega)) (no k)
        · exact u
      have g2 : ldG G k c0 - G 1 k ≤ 99 := by
        have b := fnW_iff.mp d2 k hkR
        have b : ldG G k c0 ≤ szB G k 99 k := b
        unfold szB at b
        rw [if_pos rfl] at b
        omega
      obtain ⟨w, hw⟩ : ∃ w : Nat, ldG G k c0 - G 1 k = (w : Int) := natI (by omega)
      have e10 : -(-ldG G k c0) - G 1 k = (w : Int) := by omega
      rw [if_neg z, if_neg (by decide), if_pos (by omega), Int.toNat_natCast, k8, v10, e10] at e
      by_cases y : V ≤ w
      · rw [if_pos (by rw [le32_iff] <;> first | omega | (split <;> omega))] at e
        exact x_bs32 hD W q no m (k + 1) x1 V N (by omega) (LB_step L (Nat.le_refl V) (fun m hm hn => by
          have := (nd m (by omega)).mp hn
          omega) (Or.inl rfl)) h1 XN CN e
      · rw [if_neg (by rw [le32_iff] <;> first | omega | (split <;> omega)), if_pos (by omega)] at e
        refine x_bs32 hD W q no m (k + 1) (k : Int) w N (by omega) (LB_step L (by omega) (fun m hm hn => by
          have := (nd m (by omega)).mp hn
          omega) (Or.inr ((nd w (by omega)).mpr (by omega)))) (by omega) XN CN ?_
        rw [if_neg (by omega)]
        exact e
theorem kc_build (R : RI0 M) (C : CI M) (K : CK M) (R1 : RI0 M1) (e1 : xF 1000 33 [.inr 2] M = rI v M1) (f1 : Fr w1 M M1) (k1 : okW cm cmo w1 = true) (e2 : xF 1000 248 [.inr 62] M1 = rI y M2) : v = y := by
  obtain ⟨G, X, Y⟩ := C
  obtain ⟨W, -⟩ := ci_facts R X Y
  have hw1 := W.1
  have C := CK_G K X.1
  have t1 : xF (998 + 1 + 1) 33 [.inr 2] M = rI v M1 := e1
  have t2 : xF (998 + 1 + 1) 248 [.inr 62] M1 = rI y M2 := e2
  have Y1 := MG_thr (MG_Fr f1 k1 Y)
  have gT := gM_thr R1.1
  rw [T_X_build, X.1.1] at t1
  rw [T_M_build, Y1.1.1] at t2
  by_cases q0 : hR G = 0
  · rw [if_neg (fun z => z (by rw [q0]; decide))] at t1 t2
    rw [← (rI_inj t1).1, ← (rI_inj t2).1]
  · rw [if_pos (by rw [eq32_iff] <;> omega)] at t1 t2
    obtain ⟨qx1, qx2⟩ := x_tooMany (d := 998 + 1) (by omega) W X.1 C
    obtain ⟨N, g2, fN, p1, p2⟩ := m_tooMG (d := 998 + 1) (by omega) gT W Y1.1 (by rw [pset_ne2 (by decide)]; exact R1.2.1)
    rcases Classical.em (tmG G) with q | q
    · rw [qx1 q, pbI_rI, if_neg (by decide)] at t1
      rw [p1 q, pbI_rI, if_neg (by decide)] at t2
      rw [← (rI_inj t1).1, ← (rI_inj t2).1]
    · have hW : hR G ^ nC G ≤ 20000 := by unfold tmG at q; omega
      obtain ⟨p3, p4⟩ := p2 q
      -- the same memory, but for the code
      have SN : SR N G (N 60 40 + 1).toNat := SR_n (M := pset N 60 40 (-1)) (a := 0) (fun o i _ _ c => by
        unfold pset
        rw [if_neg c]) g2 (by
        have b40 := gm_i g2 60 40 (lo := -1) (hi := 1000000) (by decide +kernel) (by decide +kernel)
        omega) p4
      obtain ⟨N1, s1, s2, s3, s4, s5⟩ := x_startG (d := 998 + 1) (by omega) W X.1 C
      obtain ⟨N2, n1, n2, n3⟩ := x_nextE (d := 998 + 1) (by omega) s2 (WB_G W q) s3
      have lo : ∀ o i, o < 32 → N2 o i = M o i := fun o i ho => by rw [n3 o i ho, s5 o i (by omega)]
      have XN := XH_hi lo X.1
      have CN := CL_hi lo C
      have ex : ∀ r, EX (hR G) (nC G) (G 1) (bkG G) ↔ ndW G r 0 := fun r => by
        rw [EX_iff (Or.inl (by omega)), fnW_bk]
        unfold ndW
        rw [szB_0]
      obtain ⟨V2, L2, b⟩ : ∃ V' : Nat, LBd G (hR G) V' ∧ y = if V' = 100 then -2 else (V' : Int) := by
        rw [p3, pbI_rI, if_pos (by decide), show (.inl 100 : pV) = .inl ((100 : Nat) : Int) from rfl, show (.inl 0 : pV) = .inl ((0 : Nat) : Int) from rfl] at t2
        exact m_bs19 (D := 998 + 1) (by omega) W hW (hR G) 0 (-1) 100 _ _ _ _ N (by omega) ⟨Nat.le_refl _, fun r m hr => absurd hr (Nat.not_lt_zero r), Or.inl rfl⟩ (Or.inl ⟨rfl, rfl⟩) SN t2
      obtain ⟨V1, L1, a⟩ : ∃ V' : Nat, LBd G (hR G) V' ∧ v = if V' = 100 then -2 else (V' : Int) := by
        obtain ⟨v4, M3, z1, z2⟩ := pbI_inv s1
        rw [qx2 q, pbI_rI, if_pos (by decide), z1, pbI_rI, z2, pbN_rV] at t1
        rcases Classical.em (ndW G 0 0) with u | u
        · rw [n1 ((ex 0).mpr u), pbI_rI, if_neg (by decide), L_X_build_32, XN.1, if_neg (by rw [le32_iff] <;> omega), if_pos (by decide), if_pos (by decide)] at t1
          obtain ⟨_, -, t1⟩ := pbN_inv t1
          obtain ⟨_, -, t1⟩ := pbN_inv t1
          refine ⟨0, ⟨by decide, fun r m _ _ _ => Nat.zero_le m, Or.inr ⟨0, by omega, u⟩⟩, ?_⟩
          rw [if_neg (by decide)]
          exact (rI_inj t1).1.symm
        · rw [n2 (fun w => u ((ex 0).mp w)), pbI_rI, if_pos (by decide)] at t1
          exact x_bs32 (D := 998 + 1) (by omega) W q (fun r w => u ((ex 0).mp ((ex r).mpr w))) (hR G) 0 (-1) 100 N2 (by omega) ⟨Nat.le_refl _, fun r m hr => absurd hr (Nat.not_lt_zero r), Or.inl rfl⟩ (by decide) XN CN t1
      rw [a, b, LB_uniq L1 L2]
end BLD
/-! sell: the reference's rows when some clumps are sold -/
section SLD
variable {D d R n T C s code W : Nat} {M M' M1 M2 G h N : pM}
end SLD
/-! sell: what it answers, on both sides -/
section SEL
variable {D d : Nat} {M M' M1 M2 G h N : pM} {w1 : List (Nat × Nat)} {v y : Int}
end SEL
end
section
/-! which letter a sign is -/
section SIX
variable {D d : Nat} {M : pM}
end SIX
/-! a rule is read -/
section XRU
variable {tx : Nat → Int} {st d D : Nat} {M M' : pM} {lv : Int → Int}
end XRU
/-! rule: what it answers and what it keeps, on both sides -/
section RUL
variable {tx : Nat → Int} {st d D L : Nat} {M M' M1 M2 N : pM} {lv lv' : Int → Int} {w1 : List (Nat × Nat)} {v y : Int}
def X3 (M M' : pM) : Prop := ∀ o i, ¬ (o = 3 ∧ (i = 1 ∨ i = 2 ∨ i = 3)) → M' o i = M o i
end RUL
/-! the reader of the rule that is kept: as 78a and 85b (by program) -/
section YR
variable {tx : Nat → Int} {st d : Nat} {M : pM}
end YR
section YRU
variable {tx : Nat → Int} {st d D : Nat} {M M' : pM} {lv : Int → Int}
end YRU
/-! what a thing is worth in a room, on both sides -/
section WOR
variable {tx : Nat → Int} {d D L : Nat} {M M' M1 M2 N G : pM} {w1 w2 : List (Nat × Nat)} {v y : Int} {lv : Int → Int}
end WOR
/-! thing: what it answers, on both sides -/
section THI
variable {tx : Nat → Int} {d D L : Nat} {M M' M1 M2 N G : pM} {w1 : List (Nat × Nat)} {v y : Int}
end THI
/-! best: what it answers, on both sides -/
section BES
variable {tx : Nat → Int} {d D L : Nat} {M M' M1 M2 N G : pM} {w1 : List (Nat × Nat)} {v y : Int}
end BES
end
section
/-! queue: how many clumps are carried, on both sides -/
section QUA
variable {G : pM} {p q : Nat → Int}
end QUA
section QUM
variable {D d S T R C x1 : Nat} {sv : Nat → Nat} {M M' N G : pM} {p : Nat → Int} {v y : Int}
end QUM
/-! queue: one side's search -/
section QUX
variable {D d : Nat} {M M' M1 N G : pM} {p : Nat → Int} {v y : Int}
end QUX
section QUK
variable {D d : Nat} {M M' M1 M2 N G : pM} {p : Nat → Int} {w1 : List (Nat × Nat)} {v y : Int}
end QUK
/-! the list of the arrangements that are lawful, and what it costs between them -/
section LST
variable {D d : Nat} {M M' N G : pM} {p : Nat → Int} {f g : Nat → Nat} {v y : Int}
end LST
/-! what it costs from one of the list to another, on both sides -/
section CST
variable {D d : Nat} {M M' N G : pM} {p : Nat → Int} {f g : Nat → Nat} {v y : Int}
def c6 (G : pM) (t a b : Nat) : Int := if cst G t a b < 0 then 1000000 else cst G t a b
end CST
/-! the fewest evenings, on one side -/
section FEW
variable {D d : Nat} {M M' M1 N G : pM} {p : Nat → Int} {v y w : Int}
end FEW
/-! the list and its costs on the other side -/
section AIF
variable {D d : Nat} {M M' M1 N G : pM} {p : Nat → Int} {f g : Nat → Nat} {v y w : Int}
end AIF
/-! the fewest evenings on the other side; evenings joined -/
section EVF
variable {D d : Nat} {M M' M1 M2 N G : pM} {p : Nat → Int} {w1 : List (Nat × Nat)} {v y w : Int}
end EVF
/-! evenings: what it answers, on both sides -/
section EVJ
variable {D d : Nat} {M M' M1 M2 N G : pM} {p : Nat → Int} {w1 : List (Nat × Nat)} {v y w : Int}
end EVJ
/-! the least strength, on one side -/
section WEK
variable {D d : Nat} {M M' M1 N G : pM} {p : Nat → Int} {v y w : Int}
end WEK
/-! the least strength, on one side: the search -/
section WEL
variable {D d : Nat} {M M' M1 N N0 G : pM} {p : Nat → Int} {v y w : Int}
end WEL
/-! the least strength, on one side: to its end; what is answered -/
section WEM
variable {D d : Nat} {M M' M1 N N0 G : pM} {p : Nat → Int} {v y w : Int}
end WEM
/-! the least strength on the other side; weakest joined -/
section WEO
variable {D d : Nat} {M M' M1 M2 N G : pM} {p : Nat → Int} {w1 : List (Nat × Nat)} {v y w : Int}
end WEO
end
