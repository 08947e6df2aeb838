section
/-! fits: what it answers, on both sides -/
section FTS
variable {D d : Nat} {M M' M1 M2 G h : pM} {w1 : List (Nat × Nat)} {v y : Int} {fine : Nat → Bool} {val : Nat → Int}
theorem x_tch2 (hD : 1 ≤ D) (W : WF G) : ∀ (m k s : Nat) (M : pM), k + m = hT G → XH M G → CL M G → M 5 1 = (s : Int) → s + m ≤ 12 → ∃ M', xE D 58 2 [.inr 2, .inl (k : Int)] [] M = rV M' ∧ ∀ o i, o ≠ 5 → o ≠ 6 → M' o i = M o i
  | 0, k, s, M, hk, X, C, h5, hs => by
    have w2 := W.2.1
    rw [L_X_tellChosen_2, X.2.1, if_pos (by rw [le32_iff] <;> omega)]
    exact ⟨M, rfl, fun _ _ _ _ => rfl⟩
  | m + 1, k, s, M, hk, X, C, h5, hs => by
    have w2 := W.2.1
    have n10 := nC_le W
    have ow := (oOf_in W (show k < hT G by omega)).1
    obtain ⟨N, u1, u2, u3⟩ := x_tell (d := D) (M := M) (n := s) hD (by omega) h5 (M 38 (oOf G k))
    obtain ⟨M', e, f⟩ := x_tch2 hD W m (k + 1) (s + 1) N (by omega) (XH_eq X (fun o i _ _ _ => u3 o i (by omega) (by omega))) (by
      obtain ⟨b1, b2, b3⟩ := C
      exact ⟨by rw [u3 7 12 (by decide) (by decide)]; exact b1, fun i hi => by rw [u3 15 i (by decide) (by decide)]; exact b2 i hi, fun t ht => by rw [u3 16 t (by decide) (by decide)]; exact b3 t ht⟩) u2 (by omega)
    rw [L_X_tellChosen_2, X.2.1, if_neg (by rw [le32_iff] <;> omega), if_pos (by omega), Int.toNat_natCast, C.2.2 k (by omega), show (.inl ((own G (hT G) k : Nat) : Int) : pV) = .inl ((oOf G k : Nat) : Int) from rfl, c_numberAt_38n hD (by omega), pbI_rI, u1, pbN_rV, show ((k : Int) + 1) = ((k + 1 : Nat) : Int) by omega]
    exact ⟨M', e, fun o i h1 h2 => by rw [f o i h1 h2, u3 o i h1 h2]⟩
theorem x_tellChosen (hd : 2 ≤ d) (W : WF G) (X : XH M G) (C : CL M G) {s : Nat} (h5 : M 5 1 = (s : Int)) (hs : s ≤ 2) : ∃ M', xF d 58 [.inr 2] M = rV M' ∧ ∀ o i, o ≠ 5 → o ≠ 6 → M' o i = M o i := by
  obtain ⟨D, rfl, hD⟩ := dsucc hd
  have w2 := W.2.1
  rw [T_X_tellChosen]
  exact x_tch2 hD W (hT G) 0 s M (by omega) X C h5 (by omega)
theorem SR_Fr {a : Nat} {w : List (Nat × Nat)} (f : Fr w M M') (g : gM gAll M') (k : w.all (fun q => decide (q.1 < 60 ∨ 73 < q.1 ∨ (q.1 = 60 ∧ (q.2 = 16 ∨ q.2 = 17)))) = true) (S : SR M G a) : SR M' G a := by
  have no : ∀ o i, (60 ≤ o ∧ o ≤ 73) → ¬ (o = 60 ∧ (i = 16 ∨ i = 17)) → M' o i = M o i := fun o i h1 h2 => f o i (by
    cases z : wOK w o i with
    | false => rfl
    | true =>
      obtain ⟨r, hr, h3⟩ := List.any_eq_true.mp z
      rw [Bool.and_eq_true, Bool.or_eq_true] at h3
      have e := Nat.eq_of_beq_eq_true h3.1
      have k := of_decide_eq_true (List.all_eq_true.mp k r hr)
      rw [e] at k
      rcases k with k | k | ⟨k1, k2⟩
      · omega
      · omega
      · rcases h3.2 with y | y
        · have := Nat.eq_of_beq_eq_true y
          omega
        · have := Nat.eq_of_beq_eq_true y
          omega)
  obtain ⟨-, s2, s3, s4, s5, s6, s7, s8⟩ := S
  exact ⟨g, MH_c (fun o i h1 h2 => no o i (by omega) (by omega)) s2, by rw [no 60 38 (by omega) (by omega)]; exact s3, by rw [no 60 30 (by omega) (by omega)]; exact s4, by rw [no 60 39 (by omega) (by omega)]; exact s5, by rw [no 60 40 (by omega) (by omega)]; exact s6, fun t ht => by rw [no 72 t (by omega) (by omega)]; exact s7 t ht, fun i hi => by rw [no 73 i (by omega) (by omega)]; exact s8 i hi⟩
end FTS
/-! together, may: what they answer, on both sides -/
section TGS
variable {D d R n : Nat} {M M' M1 M2 G h : pM} {w1 : List (Nat × Nat)} {v y : Int} {sz bk : Nat → Int}
theorem fnG_f : fnW (hR G) (nC G) (G 1) (bkG G) = fnG G := funext fnG_bk
end TGS
/-! may: what it answers, on both sides -/
section MAY
variable {D d R n : Nat} {M M' M1 M2 G h : pM} {w1 : List (Nat × Nat)} {v y : Int} {sz bk : Nat → Int}
end MAY
/-! the class chooses by the bulk in a room -/
section BBK
variable {D d R n : Nat} {M M' M1 M2 G h : pM} {w1 : List (Nat × Nat)} {v y : Int} {sz bk : Nat → Int}
def tbK (G : pM) (b : Nat) (e : Int) (k i : Nat) : Int := if i % 6 = b ∧ i / 6 < k then e * blk G (cOf G (i / 6)) else 0
def szB (G : pM) (b : Nat) (m : Int) (r : Nat) : Int := if r = b then G 1 b + m else G 1 r
theorem svT_bb (hR6 : R ≤ 6) (h1 : 1 ≤ R) (b : Nat) (e : Int) (c : Nat) : svT R (nC G) (tbK G b e (nC G)) c = e * wlq (fun i => blk G (cOf G i)) (dg R (nC G) c) b (nC G) := by
  have key : ∀ k, k ≤ nC G → sumTo (fun j => tbK G b e (nC G) (6 * j + dg R (nC G) c j)) k = e * wlq (fun i => blk G (cOf G i)) (dg R (nC G) c) b k := by
    intro k
    induction k with
    | zero => intro _; exact (Int.mul_zero e).symm
    | succ k ih =>
      intro hk
      have dl := dg_lt (R := R) (C := nC G) (code := c) h1 k
      have e1 : sumTo (fun j => tbK G b e (nC G) (6 * j + dg R (nC G) c j)) (k + 1) = sumTo (fun j => tbK G b e (nC G) (6 * j + dg R (nC G) c j)) k + tbK G b e (nC G) (6 * k + dg R (nC G) c k) := rfl
      rw [e1, ih (by omega), wlq_succ, Int.mul_add]
      congr 1
      unfold tbK
      rw [show (6 * k + dg R (nC G) c k) % 6 = dg R (nC G) c k by omega, show (6 * k + dg R (nC G) c k) / 6 = k by omega]
      by_cases z : dg R (nC G) c k = b
      · rw [if_pos ⟨z, by omega⟩, if_pos z]
      · rw [if_neg (fun w => z w.1), if_neg z, Int.mul_zero]
  exact key (nC G) (Nat.le_refl _)
theorem x_bb16 (hD : 3 ≤ D) (W : WF G) {b : Nat} (hb : b < hR G) (x2 e : Int) : ∀ m k (M : pM), k + m = nC G → XH M G → CL M G → (∀ i, i < 60 → M 37 i = tbK G b e k i) → ∃ M', xE (D + 1) 60 16 [.inr 2, .inl (b : Int), .inl x2, .inl e, .inl (k : Int)] [] M = xE (D + 1) 60 16 [.inr 2, .inl (b : Int), .inl x2, .inl e, .inl (nC G : Int)] [] M' ∧ (∀ i, i < 60 → M' 37 i = tbK G b e (nC G) i) ∧ ∀ o i, o ≠ 37 → M' o i = M o i
  | 0, k, M, hk, X, C, t => by
    have : k = nC G := by omega
    rw [this] at t ⊢
    exact ⟨M, rfl, t, fun _ _ _ => rfl⟩
  | m + 1, k, M, hk, X, C, t => by
    have w1 := W.1
    have n10 := nC_le W
    have bl := blk_range W (cOf G k)
    have t0 : M 37 (6 * k + b) = 0 := by
      rw [t _ (by omega)]
      unfold tbK
      rw [if_neg (by omega)]
    have lo : ∀ o i, o < 32 → pset M 37 (6 * k + b) (0 + e * blk G (cOf G k)) o i = M o i := fun o i ho => pset_ne (by omega)
    obtain ⟨M', e1, a1, f1⟩ := x_bb16 hD W hb x2 e m (k + 1) (pset M 37 (6 * k + b) (0 + e * blk G (cOf G k))) (by omega) (XH_hi lo X) (CL_hi lo C) (fun i hi => by
      by_cases z : i = 6 * k + b
      · rw [z, pset_eq]
        unfold tbK
        rw [show (6 * k + b) % 6 = b by omega, show (6 * k + b) / 6 = k by omega, if_pos ⟨rfl, by omega⟩, Int.zero_add]
      · rw [pset_ne2 z, t i hi]
        unfold tbK
        by_cases z2 : i % 6 = b ∧ i / 6 < k
        · rw [if_pos z2, if_pos ⟨z2.1, by omega⟩]
        · rw [if_neg z2, if_neg (fun w => z2 ⟨w.1, by
            have := w.1
            have := w.2
            omega⟩)])
    refine ⟨M', ?_, a1, fun o i ho => by rw [f1 o i ho, pset_ne ho]⟩
    rw [L_X_chooseByBulk_16, C.1, if_neg (by rw [le32_iff] <;> omega), c_clumpBulk (by omega) W X C (by omega), pbI_rI, T_Walk_add, if_neg (by rw [lt32_iff] <;> omega), if_neg (by rw [le32_iff] <;> omega), if_neg (by rw [lt32_iff] <;> omega), if_neg (by rw [le32_iff] <;> omega), if_pos (by omega), if_pos (by omega), show ((k : Int) * 6 + (b : Int)).toNat = 6 * k + b by omega, t0, pbN_rV, show ((k : Int) + 1) = ((k + 1 : Nat) : Int) by omega]
    exact e1
theorem x_byBulk (hd : 6 ≤ d) (W : WF G) (q : ¬ tmG G) (X : XH M G) (C : CL M G) {b : Nat} (hb : b < hR G) {m e : Int} (hm : -5000 ≤ m ∧ m ≤ 5000) (he : e = 1 ∨ e = -1) : ∃ M', xF d 60 [.inr 2, .inl (b : Int), .inl m, .inl e] M = rI (if (chF (fnW (hR G) (nC G) (szB G b m) (bkG G)) (svT (hR G) (nC G) (tbK G b e (nC G))) (hR G ^ nC G)).1 = 0 then 0 else 1) M' ∧ CHr (hR G) (nC G) (szB G b m) (bkG G) (tbK G b e (nC G)) (hR G ^ nC G) M' ∧ ∀ o i, o < 32 → M' o i = M o i := by
  obtain ⟨D, rfl, hD⟩ := dsucc hd
  obtain ⟨D', rfl, hD'⟩ := dsucc (show 1 ≤ D by omega)
  have w1 := W.1
  have B := WB_G W q
  obtain ⟨N1, s1, s2, s3, s4, s5⟩ := x_startG (d := D' + 1) (by omega) W X C
  obtain ⟨v4, M3, z1, z2⟩ := pbI_inv s1
  have sb := W.2.2.2.1 b hb
  have k33 : N1 33 b = G 1 b := s2.2.2.1 b hb
  have lo1 : ∀ o i, o < 32 → pset N1 33 b (G 1 b - -m) o i = M o i := fun o i ho => by rw [pset_ne (by omega), s5 o i (by omega)]
  obtain ⟨N2, e2, a2, f2⟩ := x_bb16 (D := D') (by omega) W hb m e (nC G) 0 (pset N1 33 b (G 1 b - -m)) (by omega) (XH_hi lo1 X) (CL_hi lo1 C) (fun i hi => by
    rw [pset_ne (by decide), s4 i hi]
    unfold tbK
    rw [if_neg (by omega)])
  have K2 : WK N2 (hR G) (nC G) (szB G b m) (bkG G) := by
    obtain ⟨k1, k2, k3, k4⟩ := s2
    refine ⟨by rw [f2 32 6 (by decide), pset_ne (by decide)]; exact k1, by rw [f2 32 7 (by decide), pset_ne (by decide)]; exact k2, fun r hr => ?_, fun j hj => by rw [f2 35 j (by decide), pset_ne (by decide)]; exact k4 j hj⟩
    rw [f2 33 r (by decide)]
    unfold szB
    by_cases z : r = b
    · rw [z, pset_eq, if_pos rfl]; omega
    · rw [pset_ne2 z, if_neg z]; exact k3 r hr
  have F2 : WF0 N2 (hR G) (nC G) := by
    obtain ⟨k1, k2, k3, k4⟩ := s3
    exact ⟨by rw [f2 32 8 (by decide), pset_ne (by decide)]; exact k1, by rw [f2 32 9 (by decide), pset_ne (by decide)]; exact k2, fun j hj => by rw [f2 36 j (by decide), pset_ne (by decide)]; exact k3 j hj, fun r hr => by rw [f2 34 r (by decide), pset_ne (by decide)]; exact k4 r hr⟩
  have B2 : WB0 (hR G) (nC G) (szB G b m) (bkG G) := by
    obtain ⟨b1, b2, b3, b4, b5, b6⟩ := B
    refine ⟨b1, b2, b3, fun r hr => ?_, b5, b6⟩
    have := W.2.2.2.1 r hr
    unfold szB
    split <;> omega
  have lo2 : ∀ o i, o < 32 → N2 o i = M o i := fun o i ho => by rw [f2 o i (by omega), lo1 o i ho]
  have hv : ∀ c, -100000000 ≤ svT (hR G) (nC G) (tbK G b e (nC G)) c ∧ svT (hR G) (nC G) (tbK G b e (nC G)) c ≤ 100000000 := fun c => by
    have n10 := nC_le W
    have s := sumTo_range (f := fun i => if dg (hR G) (nC G) c i = b then blk G (cOf G i) else 0) (lo := 0) (hi := 990) (n := nC G) (fun i _ => by
      have := blk_range W (cOf G i)
      show 0 ≤ (if dg (hR G) (nC G) c i = b then blk G (cOf G i) else 0) ∧ (if dg (hR G) (nC G) c i = b then blk G (cOf G i) else 0) ≤ 990
      split <;> omega)
    have s2 : ((nC G : Nat) : Int) * 0 ≤ wlq (fun i => blk G (cOf G i)) (dg (hR G) (nC G) c) b (nC G) ∧ wlq (fun i => blk G (cOf G i)) (dg (hR G) (nC G) c) b (nC G) ≤ (nC G : Int) * 990 := s
    rw [svT_bb w1 (by omega)]
    rcases he with rfl | rfl
    · rw [Int.one_mul]; omega
    · rw [Int.neg_mul, Int.one_mul]; omega
  obtain ⟨N3, c1, c2, c3⟩ := x_choose (d := D' + 1) (by omega) B2 hv K2 F2 a2
  refine ⟨N3, ?_, c2, fun o i ho => by rw [c3 o i (by omega) (by omega) (by omega) (by omega), lo2 o i ho]⟩
  have CN2 := CL_hi lo2 C
  have n10 := nC_le W
  rw [T_X_chooseByBulk, z1, pbI_rI, z2, pbN_rV, T_Walk_lessen, if_neg (by rw [lt32_iff] <;> omega), s2.1, if_neg (by rw [le32_iff] <;> omega), if_pos (by omega), if_pos (by omega), Int.toNat_natCast, k33, pbN_rV, show (.inl 0 : pV) = .inl ((0 : Nat) : Int) from rfl, e2, L_X_chooseByBulk_16, CN2.1, if_pos (by rw [le32_iff] <;> omega), c1, pbI_rI]
  by_cases z : (chF (fnW (hR G) (nC G) (szB G b m) (bkG G)) (svT (hR G) (nC G) (tbK G b e (nC G))) (hR G ^ nC G)).1 = 0
  · rw [if_pos z, if_pos (Or.inl rfl)]
  · rw [if_neg z, if_pos (Or.inr rfl)]
end BBK
/-! fullest: what it answers, on both sides -/
section FUL
variable {D d R n : Nat} {M M' M1 M2 G h : pM} {w1 : List (Nat × Nat)} {v y : Int} {sz bk : Nat → Int} {fine : Nat → Bool} {val : Nat → Int}
/-- the load of a room by a code -/
def ldG (G : pM) (b c : Nat) : Int := wlq (fun i => blk G (cOf G i)) (dg (hR G) (nC G) c) b (nC G)
theorem ldG_range (W : WF G) (b c : Nat) : 0 ≤ ldG G b c ∧ ldG G b c ≤ 9900 := by
  have n10 := nC_le W
  have s := sumTo_range (f := fun i => if dg (hR G) (nC G) c i = b then blk G (cOf G i) else 0) (lo := 0) (hi := 990) (n := nC G) (fun i _ => by
    have := blk_range W (cOf G i)
    show 0 ≤ (if dg (hR G) (nC G) c i = b then blk G (cOf G i) else 0) ∧ (if dg (hR G) (nC G) c i = b then blk G (cOf G i) else 0) ≤ 990
    split <;> omega)
  have s2 : ((nC G : Nat) : Int) * 0 ≤ wlq (fun i => blk G (cOf G i)) (dg (hR G) (nC G) c) b (nC G) ∧ wlq (fun i => blk G (cOf G i)) (dg (hR G) (nC G) c) b (nC G) ≤ (nC G : Int) * 990 := s
  unfold ldG
  omega
theorem m_freeG (hd : 1 ≤ d) (W : WF G) {a c : Nat} (S : SR M G a) (h78 : ∀ t, t < hT G → M 78 t = (plG G c t : Int)) {b : Nat} (hb : b < hR G) : xF d 198 [.inr 62, .inr 80, .inl (b : Int)] M = rI (G 1 b - ldG G b c) M := by
  have w1 := W.1
  have w2 := W.2.1
  have X := S.2.1
  have hp : ∀ t, t < hT G → 0 ≤ M 78 t ∧ M 78 t < hR G := fun t ht => by
    have := dg_lt (R := hR G) (C := nC G) (code := c) (by omega) (oOf G t)
    rw [h78 t ht]
    unfold plG
    omega
  have e : blk G (inR G (M 78) (b : Int)) = ldG G b c := by
    unfold ldG
    rw [blk_inR, ← blk_parts W]
    refine sumTo_congr fun t ht => ?_
    rw [h78 t ht]
    unfold plG
    by_cases z : dg (hR G) (nC G) c (oOf G t) = b
    · rw [if_pos z, if_pos (by omega)]
    · rw [if_neg z, if_neg (by omega)]
  rw [m_freeIn_78 hd X.2.1 w2 (by omega), free_same W X hp hb, e]
theorem chF_next {a c : Nat} (hac : a ≤ c) (nf : ∀ c', a ≤ c' → c' < c → fine c' = false) (hf : fine c = true) : chF fine val (c + 1) = if (chF fine val a).1 = 0 ∨ (chF fine val a).2.1 < val c then ((chF fine val a).1 + 1, val c, c) else ((chF fine val a).1 + 1, (chF fine val a).2) := by
  rw [← chF_to (val := val) hac nf]
  show (if fine c then _ else _) = _
  rw [hf, if_pos rfl]
/-- the greatest value so far, z if there is none -/
def mxV (fine : Nat → Bool) (val : Nat → Int) (z : Int) (a : Nat) : Int := if (chF fine val a).1 = 0 then z else (chF fine val a).2.1
theorem mxV_next {a c : Nat} {z : Int} (hac : a ≤ c) (nf : ∀ c', a ≤ c' → c' < c → fine c' = false) (hf : fine c = true) (hz : z < val c) : mxV fine val z (c + 1) = if mxV fine val z a < val c then val c else mxV fine val z a := by
  unfold mxV
  rw [chF_next hac nf hf]
  by_cases q : (chF fine val a).1 = 0
  · rw [if_pos (Or.inl q), if_pos q, if_pos hz, if_neg (Nat.succ_ne_zero _)]
  · rw [if_neg q]
    by_cases q2 : (chF fine val a).2.1 < val c
    · rw [if_pos (Or.inr q2), if_pos q2, if_neg (Nat.succ_ne_zero _)]
    · rw [if_neg (show ¬ ((chF fine val a).1 = 0 ∨ (chF fine val a).2.1 < val c) from fun w => w.elim q q2), if_neg q2, if_neg (Nat.succ_ne_zero _)]
theorem mxV_end {a b : Nat} {z : Int} (hab : a ≤ b) (nf : ∀ c', a ≤ c' → c' < b → fine c' = false) : mxV fine val z b = mxV fine val z a := by
  unfold mxV
  rw [chF_to hab nf]
theorem mxV_range {lo hi z : Int} (hv : ∀ c, lo ≤ val c ∧ val c ≤ hi) (hz : lo ≤ z ∧ z ≤ hi) : ∀ a, lo ≤ mxV fine val z a ∧ mxV fine val z a ≤ hi := by
  have key : ∀ a, (chF fine val a).1 = 0 ∨ (lo ≤ (chF fine val a).2.1 ∧ (chF fine val a).2.1 ≤ hi) := by
    intro a
    induction a with
    | zero => exact Or.inl rfl
    | succ a ih =>
      unfold chF
      split
      · split
        · exact Or.inr (hv a)
        · rename_i q2
          exact Or.inr (ih.resolve_left (fun w => q2 (Or.inl w)))
      · exact ih
  intro a
  unfold mxV
  split
  · exact hz
  · rename_i q
    exact (key a).resolve_left q
theorem m_ful18 (hD : 3 ≤ D) (W : WF G) (hW : hR G ^ nC G ≤ 20000) {b : Nat} (hb : b < hR G) : ∀ m a (y3 : pV) (M : pM), hR G ^ nC G - a + 1 ≤ m → a ≤ hR G ^ nC G → SR M G a → xE D 244 18 [.inr 62, .inl (b : Int), .inl (mxV (fnG G) (ldG G b) (-1) a), y3] [] M = rI y M2 → y = if mxV (fnG G) (ldG G b) (-1) (hR G ^ nC G) = -1 then -2 else mxV (fnG G) (ldG G b) (-1) (hR G ^ nC G) := by
  have w1 := W.1
  have w2 := W.2.1
  intro m
  induction m with
  | zero => intro a y3 M hm; omega
  | succ m ih =>
    intro a y3 M hm ha S e
    have mr := mxV_range (fine := fnG G) (z := -1) (fun c => (show -1 ≤ ldG G b c ∧ ldG G b c ≤ 9900 by have := ldG_range W b c; omega)) (by omega) a
    obtain ⟨N, n1, g1, r⟩ := m_nextG (d := D) (by omega) W hW ha S
    rw [L_M_fullest_18] at e
    rcases r with ⟨r1, c, c1, c2, c3, c4, c5, c6⟩ | ⟨r1, nf⟩
    · have lr := ldG_range W b c
      have s := mxV_next (val := ldG G b) (z := -1) c1 c4 c3 (by omega)
      have k61 : N 61 b = G 1 b := c5.2.1.2.2.2.1 b hb
      rw [r1, pbI_rI, if_neg (by decide), if_pos (by omega), m_freeG (by omega) W c5 c6 hb, pbI_rI, Int.toNat_natCast, k61, show G 1 b - (G 1 b - ldG G b c) = ldG G b c by omega] at e
      by_cases z : mxV (fnG G) (ldG G b) (-1) a < ldG G b c
      · rw [if_pos z] at s
        obtain ⟨N2, u1, u2, u3⟩ := u_take (d := D) (by omega) g1
        rw [if_pos (by rw [lt32_iff] <;> omega), u1, pbN_rV, ← s] at e
        exact ih (c + 1) _ N2 (by omega) (by omega) (SR_Fr u3 u2 (by decide) c5) e
      · rw [if_neg z] at s
        rw [if_neg (by rw [lt32_iff] <;> omega), ← s] at e
        exact ih (c + 1) _ N (by omega) (by omega) c5 e
    · rw [r1, pbI_rI, if_pos (by decide)] at e
      rw [mxV_end ha nf]
      by_cases z : mxV (fnG G) (ldG G b) (-1) a = -1
      · rw [if_neg (fun w => w (by rw [z]))] at e
        rw [if_pos z]
        exact (rI_inj e).1.symm
      · rw [if_pos (by rw [eq32_iff] <;> omega)] at e
        obtain ⟨_, -, e⟩ := pbN_inv e
        rw [if_neg z]
        exact (rI_inj e).1.symm
theorem szB_0 (b : Nat) : szB G b 0 = G 1 := funext fun r => by
  unfold szB
  split
  · rename_i z; rw [z, Int.add_zero]
  · rfl
theorem kc_fullest (R : RI0 M) (C : CI M) (K : CK M) (R1 : RI0 M1) {a1 : Int} (h1 : -2147483648 ≤ a1 ∧ a1 ≤ 2147483647) (e1 : xF 1000 30 [.inr 2, .inl a1] M = rI v M1) (f1 : Fr w1 M M1) (k1 : okW cm cmo w1 = true) (e2 : xF 1000 244 [.inr 62, .inl a1] M1 = rI y M2) : v = y := by
  obtain ⟨G, X, Y⟩ := C
  obtain ⟨W, -⟩ := ci_facts R X Y
  have hw1 := W.1
  have C := CK_G K X.1
  have t1 : xF (998 + 1 + 1) 30 [.inr 2, .inl a1] M = rI v M1 := e1
  have t2 : xF (998 + 1 + 1) 244 [.inr 62, .inl a1] M1 = rI y M2 := e2
  have Y1 := MG_thr (MG_Fr f1 k1 Y)
  have gT := gM_thr R1.1
  rw [T_X_fullest, c_isRoom7 (by omega) W X.1 (by omega) (by omega), pbI_rI, ite01pn] at t1
  rw [T_M_fullest, m_isRoom (by omega) Y1.1.1 hw1 (by omega) (by omega), pbI_rI, ite01pn] at t2
  by_cases q1 : 0 ≤ a1 ∧ a1 < (hR G : Int)
  · rw [if_pos q1] at t1 t2
    obtain ⟨b, rfl⟩ := natI q1.1
    have hb : b < hR G := by omega
    obtain ⟨qx1, qx2⟩ := x_tooMany (d := 998 + 1) (by omega) W X.1 C
    obtain ⟨N, g2, fN, p1, p2⟩ := m_tooMG (d := 998 + 1) (by omega) gT W Y1.1 (by rw [pset_ne2 (by decide)]; exact R1.2.1)
    rcases Classical.em (tmG G) with q | q
    · rw [qx1 q, pbI_rI, if_neg (by decide)] at t1
      rw [p1 q, pbI_rI, if_neg (by decide)] at t2
      rw [← (rI_inj t1).1, ← (rI_inj t2).1]
    · have hW : hR G ^ nC G ≤ 20000 := by unfold tmG at q; omega
      obtain ⟨p3, p4⟩ := p2 q
      obtain ⟨N3, c1, c2, c3⟩ := x_byBulk (d := 998 + 1) (by omega) W q X.1 C hb (m := 0) (e := 1) (by omega) (Or.inl rfl)
      have ev : svT (hR G) (nC G) (tbK G b 1 (nC G)) = ldG G b := funext fun c => by
        rw [svT_bb hw1 (by omega), Int.one_mul]; rfl
      unfold CHr at c2
      rw [szB_0, fnG_f, ev] at c1 c2
      obtain ⟨c21, c22⟩ := c2
      have mr := mxV_range (fine := fnG G) (z := -1) (fun c => (show -1 ≤ ldG G b c ∧ ldG G b c ≤ 9900 by have := ldG_range W b c; omega)) (by omega) (hR G ^ nC G)
      have a : v = if mxV (fnG G) (ldG G b) (-1) (hR G ^ nC G) = -1 then -2 else mxV (fnG G) (ldG G b) (-1) (hR G ^ nC G) := by
        rw [qx2 q, pbI_rI, if_pos (by decide), c1, pbI_rI] at t1
        by_cases z : (chF (fnG G) (ldG G b) (hR G ^ nC G)).1 = 0
        · rw [if_pos z, if_neg (fun w => w (by decide))] at t1
          have : mxV (fnG G) (ldG G b) (-1) (hR G ^ nC G) = -1 := if_pos z
          rw [if_pos this]
          exact (rI_inj t1).1.symm
        · have mv : mxV (fnG G) (ldG G b) (-1) (hR G ^ nC G) = (chF (fnG G) (ldG G b) (hR G ^ nC G)).2.1 := if_neg z
          have nn : 0 ≤ (chF (fnG G) (ldG G b) (hR G ^ nC G)).2.1 := by
            rw [← mv]
            have := mxV_range (fine := fnG G) (z := 0) (fun c => (show 0 ≤ ldG G b c ∧ ldG G b c ≤ 9900 by have := ldG_range W b c; omega)) (by omega) (hR G ^ nC G)
            unfold mxV at this ⊢
            rw [if_neg z] at this ⊢
            exact this.1
          have X2 : XH (pset N3 5 1 0) G := XH_eq X.1 (fun o i o1 o2 _ => by rw [pset_ne (by omega), c3 o i (by omega)])
          have C2 : CL (pset N3 5 1 0) G := by
            obtain ⟨b1, b2, b3⟩ := C
            exact ⟨by rw [pset_ne (by decide), c3 7 12 (by decide)]; exact b1, fun i hi => by rw [pset_ne (by decide), c3 15 i (by decide)]; exact b2 i hi, fun t ht => by rw [pset_ne (by decide), c3 16 t (by decide)]; exact b3 t ht⟩
          obtain ⟨N4, u1, u2⟩ := x_tellChosen (d := 998 + 1) (s := 0) (by omega) W X2 C2 pset_eq (by decide)
          rw [if_neg z, if_pos (by decide), T_Numbers_start, pbN_rV, u1, pbN_rV, u2 32 10 (by decide) (by decide), pset_ne (by decide), (c22 z).1] at t1
          rw [mv, if_neg (by omega)]
          exact (rI_inj t1).1.symm
      have b' : y = if mxV (fnG G) (ldG G b) (-1) (hR G ^ nC G) = -1 then -2 else mxV (fnG G) (ldG G b) (-1) (hR G ^ nC G) := by
        rw [p3, pbI_rI, if_pos (by decide), T_M_beginRows, pbN_rV] at t2
        exact m_ful18 (D := 998 + 1) (by omega) W hW hb (hR G ^ nC G + 1) 0 _ _ (by omega) (Nat.zero_le _) p4 t2
      rw [a, b']
  · rw [if_neg q1] at t1 t2
    rw [← (rI_inj t1).1, ← (rI_inj t2).1]
end FUL
/-! space: what it answers, on both sides -/
section SPC
variable {D d R n : Nat} {M M' M1 M2 G h : pM} {w1 : List (Nat × Nat)} {v y : Int} {fine : Nat → Bool} {val : Nat → Int}
end SPC
/-! near, guest: the least to be carried, on both sides -/
section NEA
variable {D d R n : Nat} {M M' M1 M2 N G h : pM} {w1 : List (Nat × Nat)} {v y : Int} {sz : Nat → Int} {fine : Nat → Bool} {val : Nat → Int}
end NEA
/-! is there an arrangement at all: of some clumps, with other sizes -/
section EXA
variable {D d R n : Nat} {M M' M1 M2 G h N : pM} {w1 : List (Nat × Nat)} {v y : Int} {sz bk : Nat → Int} {q : Nat → Nat}
end EXA
/-! could: what it answers, on both sides -/
section COU
variable {D d R n : Nat} {M M' M1 M2 G h N : pM} {w1 : List (Nat × Nat)} {v y : Int} {sz bk : Nat → Int}
end COU
/-! build: what it answers, on both sides -/
section BLD
variable {D d R n : Nat} {M M' M1 M2 G h N : pM} {w1 : List (Nat × Nat)} {v y : Int} {sz bk : Nat → Int}
end BLD
/-! sell: the reference's rows when some clumps are sold -/
section SLD
variable {D d R n T C s code W : Nat} {M M' M1 M2 G h N : pM}
end SLD
/-! sell: what it answers, on both sides -/
section SEL
variable {D d : Nat} {M M' M1 M2 G h N : pM} {w1 : List (Nat × Nat)} {v y : Int}
end SEL
end
section
/-! which letter a sign is -/
section SIX
variable {D d : Nat} {M : pM}
end SIX
/-! a rule is read -/
section XRU
variable {tx : Nat → Int} {st d D : Nat} {M M' : pM} {lv : Int → Int}
end XRU
/-! rule: what it answers and what it keeps, on both sides -/
section RUL
variable {tx : Nat → Int} {st d D L : Nat} {M M' M1 M2 N : pM} {lv lv' : Int → Int} {w1 : List (Nat × Nat)} {v y : Int}
def X3 (M M' : pM) : Prop := ∀ o i, ¬ (o = 3 ∧ (i = 1 ∨ i = 2 ∨ i = 3)) → M' o i = M o i
end RUL
/-! the reader of the rule that is kept: as 78a and 85b (by program) -/
section YR
variable {tx : Nat → Int} {st d : Nat} {M : pM}
end YR
section YRU
variable {tx : Nat → Int} {st d D : Nat} {M M' : pM} {lv : Int → Int}
end YRU
/-! what a thing is worth in a room, on both sides -/
section WOR
variable {tx : Nat → Int} {d D L : Nat} {M M' M1 M2 N G : pM} {w1 w2 : List (Nat × Nat)} {v y : Int} {lv : Int → Int}
end WOR
/-! thing: what it answers, on both sides -/
section THI
variable {tx : Nat → Int} {d D L : Nat} {M M' M1 M2 N G : pM} {w1 : List (Nat × Nat)} {v y : Int}
end THI
/-! best: what it answers, on both sides -/
section BES
variable {tx : Nat → Int} {d D L : Nat} {M M' M1 M2 N G : pM} {w1 : List (Nat × Nat)} {v y : Int}
end BES
end
section
/-! queue: how many clumps are carried, on both sides -/
section QUA
variable {G : pM} {p q : Nat → Int}
end QUA
section QUM
variable {D d S T R C x1 : Nat} {sv : Nat → Nat} {M M' N G : pM} {p : Nat → Int} {v y : Int}
end QUM
/-! queue: one side's search -/
section QUX
variable {D d : Nat} {M M' M1 N G : pM} {p : Nat → Int} {v y : Int}
end QUX
section QUK
variable {D d : Nat} {M M' M1 M2 N G : pM} {p : Nat → Int} {w1 : List (Nat × Nat)} {v y : Int}
end QUK
/-! the list of the arrangements that are lawful, and what it costs between them -/
section LST
variable {D d : Nat} {M M' N G : pM} {p : Nat → Int} {f g : Nat → Nat} {v y : Int}
end LST
/-! what it costs from one of the list to another, on both sides -/
section CST
variable {D d : Nat} {M M' N G : pM} {p : Nat → Int} {f g : Nat → Nat} {v y : Int}
def c6 (G : pM) (t a b : Nat) : Int := if cst G t a b < 0 then 1000000 else cst G t a b
end CST
/-! the fewest evenings, on one side -/
section FEW
variable {D d : Nat} {M M' M1 N G : pM} {p : Nat → Int} {v y w : Int}
end FEW
/-! the list and its costs on the other side -/
section AIF
variable {D d : Nat} {M M' M1 N G : pM} {p : Nat → Int} {f g : Nat → Nat} {v y w : Int}
end AIF
/-! the fewest evenings on the other side; evenings joined -/
section EVF
variable {D d : Nat} {M M' M1 M2 N G : pM} {p : Nat → Int} {w1 : List (Nat × Nat)} {v y w : Int}
end EVF
/-! evenings: what it answers, on both sides -/
section EVJ
variable {D d : Nat} {M M' M1 M2 N G : pM} {p : Nat → Int} {w1 : List (Nat × Nat)} {v y w : Int}
end EVJ
/-! the least strength, on one side -/
section WEK
variable {D d : Nat} {M M' M1 N G : pM} {p : Nat → Int} {v y w : Int}
end WEK
/-! the least strength, on one side: the search -/
section WEL
variable {D d : Nat} {M M' M1 N N0 G : pM} {p : Nat → Int} {v y w : Int}
end WEL
/-! the least strength, on one side: to its end; what is answered -/
section WEM
variable {D d : Nat} {M M' M1 N N0 G : pM} {p : Nat → Int} {v y w : Int}
end WEM
/-! the least strength on the other side; weakest joined -/
section WEO
variable {D d : Nat} {M M' M1 M2 N G : pM} {p : Nat → Int} {w1 : List (Nat × Nat)} {v y w : Int}
end WEO
end
