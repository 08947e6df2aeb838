section
/-! fits: what it answers, on both sides -/
section FTS
variable {D d : Nat} {M M' M1 M2 G h : pM} {w1 : List (Nat × Nat)} {v y : Int} {fine : Nat → Bool} {val : Nat → Int}
theorem x_tch2 (hD : 1 ≤ D) (W : WF G) : ∀ (m k s : Nat) (M : pM), k + m = hT G → XH M G → CL M G → M 5 1 = (s : Int) → s + m ≤ 12 → ∃ M', xE D 58 2 [.inr 2, .inl (k : Int)] [] M = rV M' ∧ ∀ o i, o ≠ 5 → o ≠ 6 → M' o i = M o i
  | 0, k, s, M, hk, X, C, h5, hs => by
    have w2 := W.2.1
    rw [L_X_tellChosen_2, X.2.1, if_pos (by rw [le32_iff] <;> omega)]
    exact ⟨M, rfl, fun _ _ _ _ => rfl⟩
  | m + 1, k, s, M, hk, X, C, h5, hs => by
    have w2 := W.2.1
    have n10 := nC_le W
    have ow := (oOf_in W (show k < hT G by omega)).1
    obtain ⟨N, u1, u2, u3⟩ := x_tell (d := D) (M := M) (n := s) hD (by omega) h5 (M 38 (oOf G k))
    obtain ⟨M', e, f⟩ := x_tch2 hD W m (k + 1) (s + 1) N (by omega) (XH_eq X (fun o i _ _ _ => u3 o i (by omega) (by omega))) (by
      obtain ⟨b1, b2, b3⟩ := C
      exact ⟨by rw [u3 7 12 (by decide) (by decide)]; exact b1, fun i hi => by rw [u3 15 i (by decide) (by decide)]; exact b2 i hi, fun t ht => by rw [u3 16 t (by decide) (by decide)]; exact b3 t ht⟩) u2 (by omega)
    rw [L_X_tellChosen_2, X.2.1, if_neg (by rw [le32_iff] <;> omega), if_pos (by omega), Int.toNat_natCast, C.2.2 k (by omega), show (.inl ((own G (hT G) k : Nat) : Int) : pV) = .inl ((oOf G k : Nat) : Int) from rfl, c_numberAt_38n hD (by omega), pbI_rI, u1, pbN_rV, show ((k : Int) + 1) = ((k + 1 : Nat) : Int) by omega]
    exact ⟨M', e, fun o i h1 h2 => by rw [f o i h1 h2, u3 o i h1 h2]⟩
theorem x_tellChosen (hd : 2 ≤ d) (W : WF G) (X : XH M G) (C : CL M G) {s : Nat} (h5 : M 5 1 = (s : Int)) (hs : s ≤ 2) : ∃ M', xF d 58 [.inr 2] M = rV M' ∧ ∀ o i, o ≠ 5 → o ≠ 6 → M' o i = M o i := by
  obtain ⟨D, rfl, hD⟩ := dsucc hd
  have w2 := W.2.1
  rw [T_X_tellChosen]
  exact x_tch2 hD W (hT G) 0 s M (by omega) X C h5 (by omega)
theorem SR_Fr {a : Nat} {w : List (Nat × Nat)} (f : Fr w M M') (g : gM gAll M') (k : w.all (fun q => decide (q.1 < 60 ∨ 73 < q.1 ∨ (q.1 = 60 ∧ (q.2 = 16 ∨ q.2 = 17)))) = true) (S : SR M G a) : SR M' G a := by
  have no : ∀ o i, (60 ≤ o ∧ o ≤ 73) → ¬ (o = 60 ∧ (i = 16 ∨ i = 17)) → M' o i = M o i := fun o i h1 h2 => f o i (by
    cases z : wOK w o i with
    | false => rfl
    | true =>
      obtain ⟨r, hr, h3⟩ := List.any_eq_true.mp z
      rw [Bool.and_eq_true, Bool.or_eq_true] at h3
      have e := Nat.eq_of_beq_eq_true h3.1
      have k := of_decide_eq_true (List.all_eq_true.mp k r hr)
      rw [e] at k
      rcases k with k | k | ⟨k1, k2⟩
      · omega
      · omega
      · rcases h3.2 with y | y
        · have := Nat.eq_of_beq_eq_true y
          omega
        · have := Nat.eq_of_beq_eq_true y
          omega)
  obtain ⟨-, s2, s3, s4, s5, s6, s7, s8⟩ := S
  exact ⟨g, MH_c (fun o i h1 h2 => no o i (by omega) (by omega)) s2, by rw [no 60 38 (by omega) (by omega)]; exact s3, by rw [no 60 30 (by omega) (by omega)]; exact s4, by rw [no 60 39 (by omega) (by omega)]; exact s5, by rw [no 60 40 (by omega) (by omega)]; exact s6, fun t ht => by rw [no 72 t (by omega) (by omega)]; exact s7 t ht, fun i hi => by rw [no 73 i (by omega) (by omega)]; exact s8 i hi⟩
end FTS
/-! together, may: what they answer, on both sides -/
section TGS
variable {D d R n : Nat} {M M' M1 M2 G h : pM} {w1 : List (Nat × Nat)} {v y : Int} {sz bk : Nat → Int}
theorem fnG_f : fnW (hR G) (nC G) (G 1) (bkG G) = fnG G := funext fnG_bk
end TGS
/-! may: what it answers, on both sides -/
section MAY
variable {D d R n : Nat} {M M' M1 M2 G h : pM} {w1 : List (Nat × Nat)} {v y : Int} {sz bk : Nat → Int}
end MAY
/-! the class chooses by the bulk in a room -/
section BBK
variable {D d R n : Nat} {M M' M1 M2 G h : pM} {w1 : List (Nat × Nat)} {v y : Int} {sz bk : Nat → Int}
def tbK (G : pM) (b : Nat) (e : Int) (k i : Nat) : Int := if i % 6 = b ∧ i / 6 < k then e * blk G (cOf G (i / 6)) else 0
def szB (G : pM) (b : Nat) (m : Int) (r : Nat) : Int := if r = b then G 1 b + m else G 1 r
theorem svT_bb (hR6 : R ≤ 6) (h1 : 1 ≤ R) (b : Nat) (e : Int) (c : Nat) : svT R (nC G) (tbK G b e (nC G)) c = e * wlq (fun i => blk G (cOf G i)) (dg R (nC G) c) b (nC G) := by
  have key : ∀ k, k ≤ nC G → sumTo (fun j => tbK G b e (nC G) (6 * j + dg R (nC G) c j)) k = e * wlq (fun i => blk G (cOf G i)) (dg R (nC G) c) b k := by
    intro k
    induction k with
    | zero => intro _; exact (Int.mul_zero e).symm
    | succ k ih =>
      intro hk
      have dl := dg_lt (R := R) (C := nC G) (code := c) h1 k
      have e1 : sumTo (fun j => tbK G b e (nC G) (6 * j + dg R (nC G) c j)) (k + 1) = sumTo (fun j => tbK G b e (nC G) (6 * j + dg R (nC G) c j)) k + tbK G b e (nC G) (6 * k + dg R (nC G) c k) := rfl
      rw [e1, ih (by omega), wlq_succ, Int.mul_add]
      congr 1
      unfold tbK
      rw [show (6 * k + dg R (nC G) c k) % 6 = dg R (nC G) c k by omega, show (6 * k + dg R (nC G) c k) / 6 = k by omega]
      by_cases z : dg R (nC G) c k = b
      · rw [if_pos ⟨z, by omega⟩, if_pos z]
      · rw [if_neg (fun w => z w.1), if_neg z, Int.mul_zero]
  exact key (nC G) (Nat.le_refl _)
theorem x_bb16 (hD : 3 ≤ D) (W : WF G) {b : Nat} (hb : b < hR G) (x2 e : Int) : ∀ m k (M : pM), k + m = nC G → XH M G → CL M G → (∀ i, i < 60 → M 37 i = tbK G b e k i) → ∃ M', xE (D + 1) 60 16 [.inr 2, .inl (b : Int), .inl x2, .inl e, .inl (k : Int)] [] M = xE (D + 1) 60 16 [.inr 2, .inl (b : Int), .inl x2, .inl e, .inl (nC G : Int)] [] M' ∧ (∀ i, i < 60 → M' 37 i = tbK G b e (nC G) i) ∧ ∀ o i, o ≠ 37 → M' o i = M o i
  | 0, k, M, hk, X, C, t => by
    have : k = nC G := by omega
    rw [this] at t ⊢
    exact ⟨M, rfl, t, fun _ _ _ => rfl⟩
  | m + 1, k, M, hk, X, C, t => by
    have w1 := W.1
    have n10 := nC_le W
    have bl := blk_range W (cOf G k)
    have t0 : M 37 (6 * k + b) = 0 := by
      rw [t _ (by omega)]
      unfold tbK
      rw [if_neg (by omega)]
    have lo : ∀ o i, o < 32 → pset M 37 (6 * k + b) (0 + e * blk G (cOf G k)) o i = M o i := fun o i ho => pset_ne (by omega)
    obtain ⟨M', e1, a1, f1⟩ := x_bb16 hD W hb x2 e m (k + 1) (pset M 37 (6 * k + b) (0 + e * blk G (cOf G k))) (by omega) (XH_hi lo X) (CL_hi lo C) (fun i hi => by
      by_cases z : i = 6 * k + b
      · rw [z, pset_eq]
        unfold tbK
        rw [show (6 * k + b) % 6 = b by omega, show (6 * k + b) / 6 = k by omega, if_pos ⟨rfl, by omega⟩, Int.zero_add]
      · rw [pset_ne2 z, t i hi]
        unfold tbK
        by_cases z2 : i % 6 = b ∧ i / 6 < k
        · rw [if_pos z2, if_pos ⟨z2.1, by omega⟩]
        · rw [if_neg z2, if_neg (fun w => z2 ⟨w.1, by
            have := w.1
            have := w.2
            omega⟩)])
    refine ⟨M', ?_, a1, fun o i ho => by rw [f1 o i ho, pset_ne ho]⟩
    rw [L_X_chooseByBulk_16, C.1, if_neg (by rw [le32_iff] <;> omega), c_clumpBulk (by omega) W X C (by omega), pbI_rI, T_Walk_add, if_neg (by rw [lt32_iff] <;> omega), if_neg (by rw [le32_iff] <;> omega), if_neg (by rw [lt32_iff] <;> omega), if_neg (by rw [le32_iff] <;> omega), if_pos (by omega), if_pos (by omega), show ((k : Int) * 6 + (b : Int)).toNat = 6 * k + b by omega, t0, pbN_rV, show ((k : Int) + 1) = ((k + 1 : Nat) : Int) by omega]
    exact e1
theorem x_byBulk (hd : 6 ≤ d) (W : WF G) (q : ¬ tmG G) (X : XH M G) (C : CL M G) {b : Nat} (hb : b < hR G) {m e : Int} (hm : -5000 ≤ m ∧ m ≤ 5000) (he : e = 1 ∨ e = -1) : ∃ M', xF d 60 [.inr 2, .inl (b : Int), .inl m, .inl e] M = rI (if (chF (fnW (hR G) (nC G) (szB G b m) (bkG G)) (svT (hR G) (nC G) (tbK G b e (nC G))) (hR G ^ nC G)).1 = 0 then 0 else 1) M' ∧ CHr (hR G) (nC G) (szB G b m) (bkG G) (tbK G b e (nC G)) (hR G ^ nC G) M' ∧ ∀ o i, o < 32 → M' o i = M o i := by
  obtain ⟨D, rfl, hD⟩ := dsucc hd
  obtain ⟨D', rfl, hD'⟩ := dsucc (show 1 ≤ D by omega)
  have w1 := W.1
  have B := WB_G W q
  obtain ⟨N1, s1, s2, s3, s4, s5⟩ := x_startG (d := D' + 1) (by omega) W X C
  obtain ⟨v4, M3, z1, z2⟩ := pbI_inv s1
  have sb := W.2.2.2.1 b hb
  have k33 : N1 33 b = G 1 b := s2.2.2.1 b hb
  have lo1 : ∀ o i, o < 32 → pset N1 33 b (G 1 b - -m) o i = M o i := fun o i ho => by rw [pset_ne (by omega), s5 o i (by omega)]
  obtain ⟨N2, e2, a2, f2⟩ := x_bb16 (D := D') (by omega) W hb m e (nC G) 0 (pset N1 33 b (G 1 b - -m)) (by omega) (XH_hi lo1 X) (CL_hi lo1 C) (fun i hi => by
    rw [pset_ne (by decide), s4 i hi]
    unfold tbK
    rw [if_neg (by omega)])
  have K2 : WK N2 (hR G) (nC G) (szB G b m) (bkG G) := by
    obtain ⟨k1, k2, k3, k4⟩ := s2
    refine ⟨by rw [f2 32 6 (by decide), pset_ne (by decide)]; exact k1, by rw [f2 32 7 (by decide), pset_ne (by decide)]; exact k2, fun r hr => ?_, fun j hj => by rw [f2 35 j (by decide), pset_ne (by decide)]; exact k4 j hj⟩
    rw [f2 33 r (by decide)]
    unfold szB
    by_cases z : r = b
    · rw [z, pset_eq, if_pos rfl]; omega
    · rw [pset_ne2 z, if_neg z]; exact k3 r hr
  have F2 : WF0 N2 (hR G) (nC G) := by
    obtain ⟨k1, k2, k3, k4⟩ := s3
    exact ⟨by rw [f2 32 8 (by decide), pset_ne (by decide)]; exact k1, by rw [f2 32 9 (by decide), pset_ne (by decide)]; exact k2, fun j hj => by rw [f2 36 j (by decide), pset_ne (by decide)]; exact k3 j hj, fun r hr => by rw [f2 34 r (by decide), pset_ne (by decide)]; exact k4 r hr⟩
  have B2 : WB0 (hR G) (nC G) (szB G b m) (bkG G) := by
    obtain ⟨b1, b2, b3, b4, b5, b6⟩ := B
    refine ⟨b1, b2, b3, fun r hr => ?_, b5, b6⟩
    have := W.2.2.2.1 r hr
    unfold szB
    split <;> omega
  have lo2 : ∀ o i, o < 32 → N2 o i = M o i := fun o i ho => by rw [f2 o i (by omega), lo1 o i ho]
  have hv : ∀ c, -100000000 ≤ svT (hR G) (nC G) (tbK G b e (nC G)) c ∧ svT (hR G) (nC G) (tbK G b e (nC G)) c ≤ 100000000 := fun c => by
    have n10 := nC_le W
    have s := sumTo_range (f := fun i => if dg (hR G) (nC G) c i = b then blk G (cOf G i) else 0) (lo := 0) (hi := 990) (n := nC G) (fun i _ => by
      have := blk_range W (cOf G i)
      show 0 ≤ (if dg (hR G) (nC G) c i = b then blk G (cOf G i) else 0) ∧ (if dg (hR G) (nC G) c i = b then blk G (cOf G i) else 0) ≤ 990
      split <;> omega)
    have s2 : ((nC G : Nat) : Int) * 0 ≤ wlq (fun i => blk G (cOf G i)) (dg (hR G) (nC G) c) b (nC G) ∧ wlq (fun i => blk G (cOf G i)) (dg (hR G) (nC G) c) b (nC G) ≤ (nC G : Int) * 990 := s
    rw [svT_bb w1 (by omega)]
    rcases he with rfl | rfl
    · rw [Int.one_mul]; omega
    · rw [Int.neg_mul, Int.one_mul]; omega
  obtain ⟨N3, c1, c2, c3⟩ := x_choose (d := D' + 1) (by omega) B2 hv K2 F2 a2
  refine ⟨N3, ?_, c2, fun o i ho => by rw [c3 o i (by omega) (by omega) (by omega) (by omega), lo2 o i ho]⟩
  have CN2 := CL_hi lo2 C
  have n10 := nC_le W
  rw [T_X_chooseByBulk, z1, pbI_rI, z2, pbN_rV, T_Walk_lessen, if_neg (by rw [lt32_iff] <;> omega), s2.1, if_neg (by rw [le32_iff] <;> omega), if_pos (by omega), if_pos (by omega), Int.toNat_natCast, k33, pbN_rV, show (.inl 0 : pV) = .inl ((0 : Nat) : Int) from rfl, e2, L_X_chooseByBulk_16, CN2.1, if_pos (by rw [le32_iff] <;> omega), c1, pbI_rI]
  by_cases z : (chF (fnW (hR G) (nC G) (szB G b m) (bkG G)) (svT (hR G) (nC G) (tbK G b e (nC G))) (hR G ^ nC G)).1 = 0
  · rw [if_pos z, if_pos (Or.inl rfl)]
  · rw [if_neg z, if_pos (Or.inr rfl)]
end BBK
/-! fullest: what it answers, on both sides -/
section FUL
variable {D d R n : Nat} {M M' M1 M2 G h : pM} {w1 : List (Nat × Nat)} {v y : Int} {sz bk : Nat → Int} {fine : Nat → Bool} {val : Nat → Int}
/-- the load of a room by a code -/
def ldG (G : pM) (b c : Nat) : Int := wlq (fun i => blk G (cOf G i)) (dg (hR G) (nC G) c) b (nC G)
theorem ldG_range (W : WF G) (b c : Nat) : 0 ≤ ldG G b c ∧ ldG G b c ≤ 9900 := by
  have n10 := nC_le W
  have s := sumTo_range (f := fun i => if dg (hR G) (nC G) c i = b then blk G (cOf G i) else 0) (lo := 0) (hi := 990) (n := nC G) (fun i _ => by
    have := blk_range W (cOf G i)
    show 0 ≤ (if dg (hR G) (nC G) c i = b then blk G (cOf G i) else 0) ∧ (if dg (hR G) (nC G) c i = b then blk G (cOf G i) else 0) ≤ 990
    split <;> omega)
  have s2 : ((nC G : Nat) : Int) * 0 ≤ wlq (fun i => blk G (cOf G i)) (dg (hR G) (nC G) c) b (nC G) ∧ wlq (fun i => blk G (cOf G i)) (dg (hR G) (nC G) c) b (nC G) ≤ (nC G : Int) * 990 := s
  unfold ldG
  omega
theorem m_freeG (hd : 1 ≤ d) (W : WF G) {a c : Nat} (S : SR M G a) (h78 : ∀ t, t < hT G → M 78 t = (plG G c t : Int)) {b : Nat} (hb : b < hR G) : xF d 198 [.inr 62, .inr 80, .inl (b : Int)] M = rI (G 1 b - ldG G b c) M := by
  have w1 := W.1
  have w2 := W.2.1
  have X := S.2.1
  have hp : ∀ t, t < hT G → 0 ≤ M 78 t ∧ M 78 t < hR G := fun t ht => by
    have := dg_lt (R := hR G) (C := nC G) (code := c) (by omega) (oOf G t)
    rw [h78 t ht]
    unfold plG
    omega
  have e : blk G (inR G (M 78) (b : Int)) = ldG G b c := by
    unfold ldG
    rw [blk_inR, ← blk_parts W]
    refine sumTo_congr fun t ht => ?_
    rw [h78 t ht]
    unfold plG
    by_cases z : dg (hR G) (nC G) c (oOf G t) = b
    · rw [if_pos z, if_pos (by omega)]
    · rw [if_neg z, if_neg (by omega)]
  rw [m_freeIn_78 hd X.2.1 w2 (by omega), free_same W X hp hb, e]
theorem szB_0 (b : Nat) : szB G b 0 = G 1 := funext fun r => by
  unfold szB
  split
  · rename_i z; rw [z, Int.add_zero]
  · rfl
end FUL
/-! space: what it answers, on both sides -/
section SPC
variable {D d R n : Nat} {M M' M1 M2 G h : pM} {w1 : List (Nat × Nat)} {v y : Int} {fine : Nat → Bool} {val : Nat → Int}
theorem chF_max : ∀ a, ((chF fine val a).1 = 0 → ∀ c, c < a → fine c = false) ∧ ((chF fine val a).1 ≠ 0 → (∃ c, c < a ∧ fine c = true ∧ val c = (chF fine val a).2.1) ∧ ∀ c, c < a → fine c = true → val c ≤ (chF fine val a).2.1)
  | 0 => ⟨fun _ c hc => absurd hc (Nat.not_lt_zero c), fun h => absurd rfl h⟩
  | a + 1 => by
    obtain ⟨i1, i2⟩ := chF_max a
    have e : chF fine val (a + 1) = if fine a then (if (chF fine val a).1 = 0 ∨ (chF fine val a).2.1 < val a then ((chF fine val a).1 + 1, val a, a) else ((chF fine val a).1 + 1, (chF fine val a).2)) else chF fine val a := rfl
    rw [e]
    cases q : fine a with
    | false =>
      rw [if_neg (by decide)]
      refine ⟨fun h c hc => ?_, fun h => ⟨?_, fun c hc hf => ?_⟩⟩
      · rcases Nat.lt_or_ge c a with u | u
        · exact i1 h c u
        · rw [show c = a by omega]; exact q
      · obtain ⟨⟨c, c1, c2, c3⟩, -⟩ := i2 h
        exact ⟨c, by omega, c2, c3⟩
      · rcases Nat.lt_or_ge c a with u | u
        · exact (i2 h).2 c u hf
        · rw [show c = a by omega, q] at hf; cases hf
    | true =>
      rw [if_pos rfl]
      by_cases q2 : (chF fine val a).1 = 0 ∨ (chF fine val a).2.1 < val a
      · rw [if_pos q2]
        refine ⟨fun h => absurd h (Nat.succ_ne_zero _), fun _ => ⟨⟨a, Nat.lt_succ_self a, q, rfl⟩, fun c hc hf => ?_⟩⟩
        show val c ≤ val a
        rcases Nat.lt_or_ge c a with u | u
        · rcases q2 with q2 | q2
          · rw [i1 q2 c u] at hf; cases hf
          · by_cases q3 : (chF fine val a).1 = 0
            · rw [i1 q3 c u] at hf; cases hf
            · have := (i2 q3).2 c u hf
              omega
        · rw [show c = a by omega]; exact Int.le_refl _
      · rw [if_neg q2]
        have q3 : (chF fine val a).1 ≠ 0 := fun z => q2 (Or.inl z)
        obtain ⟨⟨c0, c1, c2, c3⟩, i4⟩ := i2 q3
        refine ⟨fun h => absurd h (Nat.succ_ne_zero _), fun _ => ⟨⟨c0, by omega, c2, c3⟩, fun c hc hf => ?_⟩⟩
        show val c ≤ (chF fine val a).2.1
        rcases Nat.lt_or_ge c a with u | u
        · exact i4 c u hf
        · rw [show c = a by omega]
          exact Int.not_lt.mp (fun z => q2 (Or.inr z))
/-- V is the greatest of what f says, over what P lets in; -1 if it lets in nothing -/
def GM (P : Nat → Nat → Prop) (f : Nat → Nat → Int) (V : Int) : Prop := (∀ r c, P r c → f r c ≤ V) ∧ ((V = -1 ∧ ∀ r c, ¬ P r c) ∨ ∃ r c, P r c ∧ f r c = V)
theorem GM_uniq {P : Nat → Nat → Prop} {f : Nat → Nat → Int} {V V' : Int} (a : GM P f V) (b : GM P f V') : V = V' := by
  obtain ⟨a1, a2⟩ := a
  obtain ⟨b1, b2⟩ := b
  rcases a2 with ⟨a2, a3⟩ | ⟨r, c, a3, a4⟩
  · rcases b2 with ⟨b2, -⟩ | ⟨r, c, b3, -⟩
    · rw [a2, b2]
    · exact absurd b3 (a3 r c)
  · rcases b2 with ⟨-, b3⟩ | ⟨r', c', b3, b4⟩
    · exact absurd a3 (b3 r c)
    · have h1 := a1 r' c' b3
      have h2 := b1 r c a3
      omega
theorem GM_cg {P Q : Nat → Nat → Prop} {f : Nat → Nat → Int} {V : Int} (e : ∀ r c, P r c ↔ Q r c) (a : GM P f V) : GM Q f V := by
  obtain ⟨a1, a2⟩ := a
  refine ⟨fun r c q => a1 r c ((e r c).mpr q), ?_⟩
  rcases a2 with ⟨a2, a3⟩ | ⟨r, c, a3, a4⟩
  · exact Or.inl ⟨a2, fun r c q => a3 r c ((e r c).mpr q)⟩
  · exact Or.inr ⟨r, c, (e r c).mp a3, a4⟩
def frG (G : pM) (r c : Nat) : Int := G 1 r - ldG G r c
def spP (G : pM) (W : Nat) (k : Nat) (r c : Nat) : Prop := r < k ∧ c < W ∧ fnG G c = true
theorem frG_range (W : WF G) {r c : Nat} (hr : r < hR G) (hf : fnG G c = true) : 0 ≤ frG G r c ∧ frG G r c ≤ 99 := by
  have s := W.2.2.2.1 r hr
  have l := ldG_range W r c
  have := fnW_iff.mp hf r hr
  have : ldG G r c ≤ G 1 r := this
  unfold frG
  omega
theorem GM_range (W : WF G) {P : Nat → Nat → Prop} (hP : ∀ r c, P r c → r < hR G ∧ fnG G c = true) {V : Int} (g : GM P (frG G) V) : -1 ≤ V ∧ V ≤ 99 := by
  rcases g.2 with ⟨g, -⟩ | ⟨r, c, g1, g2⟩
  · omega
  · obtain ⟨a, b⟩ := hP r c g1
    have := frG_range W a b
    omega
theorem x_sp10 (hD : 6 ≤ D) (W : WF G) (q : ¬ tmG G) : ∀ m k (V : Int) (M : pM), k + m = hR G → XH M G → CL M G → GM (spP G (hR G ^ nC G) k) (frG G) V → xE D 26 10 [.inr 2, .inl V, .inl (k : Int)] [] M = rI v M' → ∃ V', GM (spP G (hR G ^ nC G) (hR G)) (frG G) V' ∧ v = if V' = -1 then -2 else V'
  | 0, k, V, M, hk, X, C, g, e => by
    have w1 := W.1
    have ek : k = hR G := by omega
    have gr := GM_range W (fun r c p => ⟨by have := p.1; omega, p.2.2⟩) g
    rw [L_X_space_10, X.1, if_pos (by rw [le32_iff] <;> omega)] at e
    rw [ek] at g
    refine ⟨V, g, ?_⟩
    by_cases z : V = -1
    · rw [if_neg (fun w => w (by rw [z]))] at e
      rw [if_pos z]; exact (rI_inj e).1.symm
    · rw [if_pos (by rw [eq32_iff] <;> omega)] at e
      rw [if_neg z]; exact (rI_inj e).1.symm
  | m + 1, k, V, M, hk, X, C, g, e => by
    have w1 := W.1
    have hkR : k < hR G := by omega
    have gr := GM_range W (fun r c p => ⟨by have := p.1; omega, p.2.2⟩) g
    have sb := W.2.2.2.1 k hkR
    obtain ⟨N, c1, c2, c3⟩ := x_byBulk (d := D) hD W q X C hkR (m := 0) (e := -1) (by omega) (Or.inr rfl)
    have ev : svT (hR G) (nC G) (tbK G k (-1) (nC G)) = fun c => -ldG G k c := funext fun c => by
      rw [svT_bb w1 (by omega), Int.neg_mul, Int.one_mul]; rfl
    unfold CHr at c2
    rw [szB_0, fnG_f, ev] at c1 c2
    obtain ⟨c21, c22⟩ := c2
    obtain ⟨i1, i2⟩ := chF_max (fine := fnG G) (val := fun c => -ldG G k c) (hR G ^ nC G)
    have XN := XH_hi c3 X
    have CN := CL_hi c3 C
    rw [L_X_space_10, X.1, if_neg (by rw [le32_iff] <;> omega), c1, pbI_rI] at e
    by_cases z : (chF (fnG G) (fun c => -ldG G k c) (hR G ^ nC G)).1 = 0
    · rw [if_pos z, if_pos (by decide), show ((k : Int) + 1) = ((k + 1 : Nat) : Int) by omega] at e
      refine x_sp10 hD W q m (k + 1) V N (by omega) XN CN (GM_cg (fun r c => ?_) g) e
      constructor
      · intro p; exact ⟨by have := p.1; omega, p.2⟩
      · intro p
        have := i1 z c p.2.1
        rw [p.2.2] at this; cases this
    · obtain ⟨⟨c0, d1, d2, d3⟩, i4⟩ := i2 z
      have v10 := (c22 z).1
      have fr0 := frG_range W hkR d2
      have k8 : N 8 k = G 1 k := XN.2.2.2.1 k hkR
      have fe : G 1 k + (chF (fnG G) (fun c => -ldG G k c) (hR G ^ nC G)).2.1 = frG G k c0 := by
        rw [← d3]
        unfold frG
        omega
      rw [if_neg z, if_neg (by decide), if_pos (by omega), Int.toNat_natCast, k8, v10, fe] at e
      have up : ∀ V', (V' = V ∧ frG G k c0 ≤ V) ∨ (V' = frG G k c0 ∧ V < frG G k c0) → GM (spP G (hR G ^ nC G) (k + 1)) (frG G) V' := fun V' hV => by
        obtain ⟨g1, g2⟩ := g
        refine ⟨fun r c p => ?_, Or.inr ?_⟩
        · rcases Nat.lt_or_ge r k with u | u
          · have := g1 r c ⟨u, p.2⟩
            omega
          · have rk : r = k := by have := p.1; omega
            subst rk
            have := i4 c p.2.1 p.2.2
            have this : -ldG G r c ≤ (chF (fnG G) (fun c => -ldG G r c) (hR G ^ nC G)).2.1 := this
            have : frG G r c ≤ frG G r c0 := by
              rw [← fe]
              unfold frG
              omega
            omega
        · rcases hV with ⟨e1, e2⟩ | ⟨e1, e2⟩
          · rcases g2 with ⟨g2, g3⟩ | ⟨r, c, g3, g4⟩
            · omega
            · exact ⟨r, c, ⟨by have := g3.1; omega, g3.2⟩, by rw [e1]; exact g4⟩
          · exact ⟨k, c0, ⟨Nat.lt_succ_self k, d1, d2⟩, e1.symm⟩
      by_cases z2 : frG G k c0 ≤ V
      · rw [if_pos (by rw [le32_iff] <;> omega), show ((k : Int) + 1) = ((k + 1 : Nat) : Int) by omega] at e
        exact x_sp10 hD W q m (k + 1) V N (by omega) XN CN (up V (Or.inl ⟨rfl, z2⟩)) e
      · obtain ⟨D', hD'⟩ : ∃ D', D = D' + 1 := ⟨D - 1, by omega⟩
        have lo5 : ∀ o i, o < 32 → o ≠ 5 → pset N 5 1 0 o i = N o i := fun o i _ h5 => pset_ne h5
        obtain ⟨N5, u1, u2, u3⟩ := x_tell (d := D) (M := pset N 5 1 0) (n := 0) (by omega) (by decide) pset_eq (k : Int)
        have X5 : XH N5 G := XH_eq XN (fun o i o1 o2 _ => by rw [u3 o i (by omega) (by omega), pset_ne (by omega)])
        have C5 : CL N5 G := by
          obtain ⟨b1, b2, b3⟩ := CN
          exact ⟨by rw [u3 7 12 (by decide) (by decide), pset_ne (by decide)]; exact b1, fun i hi => by rw [u3 15 i (by decide) (by decide), pset_ne (by decide)]; exact b2 i hi, fun t ht => by rw [u3 16 t (by decide) (by decide), pset_ne (by decide)]; exact b3 t ht⟩
        obtain ⟨N6, u4, u5⟩ := x_tellChosen (d := D) (s := 1) (by omega) W X5 C5 u2 (by decide)
        have X6 : XH N6 G := XH_eq X5 (fun o i o1 o2 _ => u5 o i (by omega) (by omega))
        have C6 : CL N6 G := by
          obtain ⟨b1, b2, b3⟩ := C5
          exact ⟨by rw [u5 7 12 (by decide) (by decide)]; exact b1, fun i hi => by rw [u5 15 i (by decide) (by decide)]; exact b2 i hi, fun t ht => by rw [u5 16 t (by decide) (by decide)]; exact b3 t ht⟩
        have us : xF D 127 [.inr 7] N = rV (pset N 5 1 0) := by rw [hD']; exact T_Numbers_start D' N
        rw [if_neg (by rw [le32_iff] <;> omega), if_pos (by omega), us, pbN_rV, u1, pbN_rV, u4, pbN_rV, show ((k : Int) + 1) = ((k + 1 : Nat) : Int) by omega] at e
        exact x_sp10 hD W q m (k + 1) _ N6 (by omega) X6 C6 (up _ (Or.inr ⟨rfl, by omega⟩)) e
/-- codes below a, and of code c the rooms below k -/
def spQ (G : pM) (a c0 k : Nat) (r c : Nat) : Prop := fnG G c = true ∧ ((r < hR G ∧ c < a) ∨ (c = c0 ∧ r < k))
theorem m_sp24 (hD : 3 ≤ D) (W : WF G) {a c0 : Nat} (hf : fnG G c0 = true) : ∀ m k (V x2 : Int) (y4 : pV) (M : pM), k + m = hR G → -1 ≤ x2 ∧ x2 ≤ 6 → SR M G (c0 + 1) → (∀ t, t < hT G → M 78 t = (plG G c0 t : Int)) → GM (spQ G a c0 k) (frG G) V → ∃ (V' x2' : Int) (y4' : pV) (M' : pM), xE D 240 24 [.inr 62, .inl V, .inl x2, .inl (k : Int), y4] [] M = xE D 240 19 [.inr 62, .inl V', .inl x2', .inl (hR G : Int), y4'] [] M' ∧ (-1 ≤ x2' ∧ x2' ≤ 6) ∧ SR M' G (c0 + 1) ∧ GM (spQ G a c0 (hR G)) (frG G) V'
  | 0, k, V, x2, y4, M, hk, hx, S, h78, g => by
    have w1 := W.1
    have ek : k = hR G := by omega
    rw [ek] at g ⊢
    rw [L_M_space_24, S.2.1.1, if_pos (by rw [le32_iff] <;> omega)]
    exact ⟨V, x2, y4, M, rfl, hx, S, g⟩
  | m + 1, k, V, x2, y4, M, hk, hx, S, h78, g => by
    have w1 := W.1
    have hkR : k < hR G := by omega
    have gr := GM_range W (fun r c p => ⟨by have := p.2; omega, p.1⟩) g
    have fr := frG_range W hkR hf
    have up : ∀ V', (V' = V ∧ frG G k c0 ≤ V) ∨ (V' = frG G k c0 ∧ V ≤ frG G k c0) → GM (spQ G a c0 (k + 1)) (frG G) V' := fun V' hV => by
      obtain ⟨g1, g2⟩ := g
      refine ⟨fun r c p => ?_, Or.inr ?_⟩
      · rcases p.2 with u | ⟨u1, u2⟩
        · have := g1 r c ⟨p.1, Or.inl u⟩
          omega
        · rcases Nat.lt_or_ge r k with u | u
          · have := g1 r c ⟨p.1, Or.inr ⟨u1, u⟩⟩
            omega
          · rw [show r = k by omega, u1]
            omega
      · rcases hV with ⟨e1, e2⟩ | ⟨e1, e2⟩
        · rcases g2 with ⟨g2, g3⟩ | ⟨r, c, g3, g4⟩
          · omega
          · exact ⟨r, c, ⟨g3.1, g3.2.imp id (fun z => ⟨z.1, by omega⟩)⟩, by rw [e1]; exact g4⟩
        · exact ⟨k, c0, ⟨hf, Or.inr ⟨rfl, Nat.lt_succ_self k⟩⟩, e1.symm⟩
    have tk : ∃ M3, xF D 233 [.inr 62] M = rV M3 ∧ SR M3 G (c0 + 1) ∧ ∀ t, t < hT G → M3 78 t = (plG G c0 t : Int) := by
      obtain ⟨N2, u1, u2, u3⟩ := u_take (d := D) (by omega) S.1
      exact ⟨N2, u1, SR_Fr u3 u2 (by decide) S, fun t ht => by rw [u3 78 t rfl]; exact h78 t ht⟩
    obtain ⟨M3, t1, t2, t3⟩ := tk
    rw [L_M_space_24, S.2.1.1, if_neg (by rw [le32_iff] <;> omega), m_freeG (by omega) W S h78 hkR, pbI_rI, show G 1 k - ldG G k c0 = frG G k c0 from rfl, show ((k : Int) + 1) = ((k + 1 : Nat) : Int) by omega]
    by_cases z : frG G k c0 < V
    · rw [if_pos (by rw [lt32_iff] <;> omega)]
      exact m_sp24 hD W hf m (k + 1) V x2 _ M (by omega) hx S h78 (up V (Or.inl ⟨rfl, by omega⟩))
    · rw [if_neg (by rw [lt32_iff] <;> omega)]
      by_cases z2 : frG G k c0 = V
      · rw [if_neg (fun w => w (by rw [z2]))]
        by_cases z3 : (k : Int) < x2
        · rw [if_pos (by rw [lt32_iff] <;> omega), t1, pbN_rV]
          exact m_sp24 hD W hf m (k + 1) _ _ _ M3 (by omega) (by omega) t2 t3 (up _ (Or.inr ⟨rfl, by omega⟩))
        · rw [if_neg (by rw [lt32_iff] <;> omega)]
          exact m_sp24 hD W hf m (k + 1) V x2 _ M (by omega) hx S h78 (up V (Or.inl ⟨rfl, by omega⟩))
      · rw [if_pos (by rw [eq32_iff] <;> omega), t1, pbN_rV]
        exact m_sp24 hD W hf m (k + 1) _ _ _ M3 (by omega) (by omega) t2 t3 (up _ (Or.inr ⟨rfl, by omega⟩))
theorem m_sp19 (hD : 3 ≤ D) (W : WF G) (hW : hR G ^ nC G ≤ 20000) : ∀ m a (V x2 : Int) (y3 y4 : pV) (M : pM), hR G ^ nC G - a + 1 ≤ m → a ≤ hR G ^ nC G → -1 ≤ x2 ∧ x2 ≤ 6 → SR M G a → GM (spP G a (hR G)) (frG G) V → xE D 240 19 [.inr 62, .inl V, .inl x2, y3, y4] [] M = rI y M2 → ∃ V', GM (spP G (hR G ^ nC G) (hR G)) (frG G) V' ∧ y = if V' = -1 then -2 else V' := by
  have w1 := W.1
  intro m
  induction m with
  | zero => intro a V x2 y3 y4 M hm; omega
  | succ m ih =>
    intro a V x2 y3 y4 M hm ha hx S g e
    have gr := GM_range W (fun r c p => ⟨p.1, p.2.2⟩) g
    obtain ⟨N, n1, g1, r⟩ := m_nextG (d := D) (by omega) W hW ha S
    rw [L_M_space_19] at e
    rcases r with ⟨r1, c, c1, c2, c3, c4, c5, c6⟩ | ⟨r1, nf⟩
    · have g0 : GM (spQ G a c 0) (frG G) V := GM_cg (fun r c' => ⟨fun p => ⟨p.2.2, Or.inl ⟨p.1, p.2.1⟩⟩, fun p => by
        rcases p.2 with u | ⟨_, u⟩
        · exact ⟨u.1, u.2, p.1⟩
        · exact absurd u (Nat.not_lt_zero r)⟩) g
      obtain ⟨V', x2', y4', M3, e3, hx', S3, g3⟩ := m_sp24 (D := D) hD W (a := a) c3 (hR G) 0 V x2 y4 N (by omega) hx c5 c6 g0
      rw [r1, pbI_rI, if_neg (by decide), show (.inl 0 : pV) = .inl ((0 : Nat) : Int) from rfl, e3] at e
      refine ih (c + 1) V' x2' _ y4' M3 (by omega) (by omega) hx' S3 (GM_cg (fun r c' => ⟨fun p => ?_, fun p => ?_⟩) g3) e
      · rcases p.2 with u | u
        · exact ⟨u.1, by omega, p.1⟩
        · exact ⟨u.2, by omega, p.1⟩
      · refine ⟨p.2.2, ?_⟩
        rcases Nat.lt_or_ge c' a with u | u
        · exact Or.inl ⟨p.1, u⟩
        · rcases Nat.lt_or_ge c' c with u2 | u2
          · have := c4 c' u u2
            rw [p.2.2] at this; cases this
          · exact Or.inr ⟨by have := p.2.1; omega, p.1⟩
    · rw [r1, pbI_rI, if_pos (by decide)] at e
      refine ⟨V, GM_cg (fun r c' => ⟨fun p => ⟨p.1, by have := p.2.1; omega, p.2.2⟩, fun p => ⟨p.1, ?_, p.2.2⟩⟩) g, ?_⟩
      · by_cases z : V = -1
        · rw [if_neg (fun w => w (by rw [z]))] at e
          rw [if_pos z]; exact (rI_inj e).1.symm
        · rw [if_pos (by rw [eq32_iff] <;> omega)] at e
          obtain ⟨_, -, e⟩ := pbN_inv e
          obtain ⟨_, -, e⟩ := pbN_inv e
          rw [if_neg z]; exact (rI_inj e).1.symm
      · rcases Nat.lt_or_ge c' a with u | u
        · exact u
        · have := nf c' u p.2.1
          rw [p.2.2] at this; cases this
theorem kc_space (R : RI0 M) (C : CI M) (K : CK M) (R1 : RI0 M1) (e1 : xF 1000 26 [.inr 2] M = rI v M1) (f1 : Fr w1 M M1) (k1 : okW cm cmo w1 = true) (e2 : xF 1000 240 [.inr 62] M1 = rI y M2) : v = y := by
  obtain ⟨G, X, Y⟩ := C
  obtain ⟨W, -⟩ := ci_facts R X Y
  have hw1 := W.1
  have C := CK_G K X.1
  have t1 : xF (998 + 1 + 1) 26 [.inr 2] M = rI v M1 := e1
  have t2 : xF (998 + 1 + 1) 240 [.inr 62] M1 = rI y M2 := e2
  have Y1 := MG_thr (MG_Fr f1 k1 Y)
  have gT := gM_thr R1.1
  obtain ⟨qx1, qx2⟩ := x_tooMany (d := 998 + 1) (by omega) W X.1 C
  rw [T_X_space] at t1
  rw [T_M_space, Y1.1.1] at t2
  have base : GM (spP G (hR G ^ nC G) 0) (frG G) (-1) := ⟨fun r c p => absurd p.1 (Nat.not_lt_zero r), Or.inl ⟨rfl, fun r c p => absurd p.1 (Nat.not_lt_zero r)⟩⟩
  rcases Nat.eq_zero_or_pos (hR G) with z | z
  · have nq : ¬ tmG G := fun q => by
      have t0 := R0_T0 W z
      have c0 : nC G = 0 := by have := nC_T G; omega
      unfold tmG at q
      rw [z, c0, Nat.pow_zero] at q
      omega
    rw [z, if_neg (fun w => w (by decide))] at t2
    rw [qx2 nq, pbI_rI, if_pos (by decide), L_X_space_10, X.1.1, z, if_pos (by decide), if_neg (fun w => w (by decide))] at t1
    rw [← (rI_inj t1).1, ← (rI_inj t2).1]
  · obtain ⟨N, g2, fN, p1, p2⟩ := m_tooMG (d := 998 + 1) (by omega) gT W Y1.1 (by rw [pset_ne2 (by decide)]; exact R1.2.1)
    rw [if_pos (by rw [eq32_iff] <;> omega)] at t2
    rcases Classical.em (tmG G) with q | q
    · rw [qx1 q, pbI_rI, if_neg (by decide)] at t1
      rw [p1 q, pbI_rI, if_neg (by decide)] at t2
      rw [← (rI_inj t1).1, ← (rI_inj t2).1]
    · have hW : hR G ^ nC G ≤ 20000 := by unfold tmG at q; omega
      obtain ⟨p3, p4⟩ := p2 q
      rw [qx2 q, pbI_rI, if_pos (by decide)] at t1
      rw [p3, pbI_rI, if_pos (by decide), T_M_beginRows, pbN_rV] at t2
      obtain ⟨V1, ga, ea⟩ := x_sp10 (D := 998 + 1) (by omega) W q (hR G) 0 (-1) M (by omega) X.1 C base t1
      obtain ⟨V2, gb, eb⟩ := m_sp19 (D := 998 + 1) (by omega) W hW (hR G ^ nC G + 1) 0 (-1) 0 _ _ _ (by omega) (Nat.zero_le _) (by omega) p4 ⟨fun r c p => absurd p.2.1 (Nat.not_lt_zero c), Or.inl ⟨rfl, fun r c p => absurd p.2.1 (Nat.not_lt_zero c)⟩⟩ t2
      rw [ea, eb, GM_uniq ga gb]
end SPC
/-! near, guest: the least to be carried, on both sides -/
section NEA
variable {D d R n : Nat} {M M' M1 M2 N G h : pM} {w1 : List (Nat × Nat)} {v y : Int} {sz : Nat → Int} {fine : Nat → Bool} {val : Nat → Int}
end NEA
/-! is there an arrangement at all: of some clumps, with other sizes -/
section EXA
variable {D d R n : Nat} {M M' M1 M2 G h N : pM} {w1 : List (Nat × Nat)} {v y : Int} {sz bk : Nat → Int} {q : Nat → Nat}
end EXA
/-! could: what it answers, on both sides -/
section COU
variable {D d R n : Nat} {M M' M1 M2 G h N : pM} {w1 : List (Nat × Nat)} {v y : Int} {sz bk : Nat → Int}
end COU
/-! build: what it answers, on both sides -/
section BLD
variable {D d R n : Nat} {M M' M1 M2 G h N : pM} {w1 : List (Nat × Nat)} {v y : Int} {sz bk : Nat → Int}
end BLD
/-! sell: the reference's rows when some clumps are sold -/
section SLD
variable {D d R n T C s code W : Nat} {M M' M1 M2 G h N : pM}
end SLD
/-! sell: what it answers, on both sides -/
section SEL
variable {D d : Nat} {M M' M1 M2 G h N : pM} {w1 : List (Nat × Nat)} {v y : Int}
end SEL
end
section
/-! which letter a sign is -/
section SIX
variable {D d : Nat} {M : pM}
end SIX
/-! a rule is read -/
section XRU
variable {tx : Nat → Int} {st d D : Nat} {M M' : pM} {lv : Int → Int}
end XRU
/-! rule: what it answers and what it keeps, on both sides -/
section RUL
variable {tx : Nat → Int} {st d D L : Nat} {M M' M1 M2 N : pM} {lv lv' : Int → Int} {w1 : List (Nat × Nat)} {v y : Int}
def X3 (M M' : pM) : Prop := ∀ o i, ¬ (o = 3 ∧ (i = 1 ∨ i = 2 ∨ i = 3)) → M' o i = M o i
end RUL
/-! the reader of the rule that is kept: as 78a and 85b (by program) -/
section YR
variable {tx : Nat → Int} {st d : Nat} {M : pM}
end YR
section YRU
variable {tx : Nat → Int} {st d D : Nat} {M M' : pM} {lv : Int → Int}
end YRU
/-! what a thing is worth in a room, on both sides -/
section WOR
variable {tx : Nat → Int} {d D L : Nat} {M M' M1 M2 N G : pM} {w1 w2 : List (Nat × Nat)} {v y : Int} {lv : Int → Int}
end WOR
/-! thing: what it answers, on both sides -/
section THI
variable {tx : Nat → Int} {d D L : Nat} {M M' M1 M2 N G : pM} {w1 : List (Nat × Nat)} {v y : Int}
end THI
/-! best: what it answers, on both sides -/
section BES
variable {tx : Nat → Int} {d D L : Nat} {M M' M1 M2 N G : pM} {w1 : List (Nat × Nat)} {v y : Int}
end BES
end
section
/-! queue: how many clumps are carried, on both sides -/
section QUA
variable {G : pM} {p q : Nat → Int}
end QUA
section QUM
variable {D d S T R C x1 : Nat} {sv : Nat → Nat} {M M' N G : pM} {p : Nat → Int} {v y : Int}
end QUM
/-! queue: one side's search -/
section QUX
variable {D d : Nat} {M M' M1 N G : pM} {p : Nat → Int} {v y : Int}
end QUX
section QUK
variable {D d : Nat} {M M' M1 M2 N G : pM} {p : Nat → Int} {w1 : List (Nat × Nat)} {v y : Int}
end QUK
/-! the list of the arrangements that are lawful, and what it costs between them -/
section LST
variable {D d : Nat} {M M' N G : pM} {p : Nat → Int} {f g : Nat → Nat} {v y : Int}
end LST
/-! what it costs from one of the list to another, on both sides -/
section CST
variable {D d : Nat} {M M' N G : pM} {p : Nat → Int} {f g : Nat → Nat} {v y : Int}
def c6 (G : pM) (t a b : Nat) : Int := if cst G t a b < 0 then 1000000 else cst G t a b
end CST
/-! the fewest evenings, on one side -/
section FEW
variable {D d : Nat} {M M' M1 N G : pM} {p : Nat → Int} {v y w : Int}
end FEW
/-! the list and its costs on the other side -/
section AIF
variable {D d : Nat} {M M' M1 N G : pM} {p : Nat → Int} {f g : Nat → Nat} {v y w : Int}
end AIF
/-! the fewest evenings on the other side; evenings joined -/
section EVF
variable {D d : Nat} {M M' M1 M2 N G : pM} {p : Nat → Int} {w1 : List (Nat × Nat)} {v y w : Int}
end EVF
/-! evenings: what it answers, on both sides -/
section EVJ
variable {D d : Nat} {M M' M1 M2 N G : pM} {p : Nat → Int} {w1 : List (Nat × Nat)} {v y w : Int}
end EVJ
/-! the least strength, on one side -/
section WEK
variable {D d : Nat} {M M' M1 N G : pM} {p : Nat → Int} {v y w : Int}
end WEK
/-! the least strength, on one side: the search -/
section WEL
variable {D d : Nat} {M M' M1 N N0 G : pM} {p : Nat → Int} {v y w : Int}
end WEL
/-! the least strength, on one side: to its end; what is answered -/
section WEM
variable {D d : Nat} {M M' M1 N N0 G : pM} {p : Nat → Int} {v y w : Int}
end WEM
/-! the least strength on the other side; weakest joined -/
section WEO
variable {D d : Nat} {M M' M1 M2 N G : pM} {p : Nat → Int} {w1 : List (Nat × Nat)} {v y w : Int}
end WEO
end
