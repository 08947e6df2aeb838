section
/-! fits: what it answers, on both sides -/
section FTS
variable {D d : Nat} {M M' M1 M2 G h : pM} {w1 : List (Nat × Nat)} {v y : Int} {fine : Nat → Bool} {val : Nat → Int}
theorem x_tch2 (hD : 1 ≤ D) (W : WF G) : ∀ (m k s : Nat) (M : pM), k + m = hT G → XH M G → CL M G → M 5 1 = (s : Int) → s + m ≤ 12 → ∃ M', xE D 58 2 [.inr 2, .inl (k : Int)] [] M = rV M' ∧ ∀ o i, o ≠ 5 → o ≠ 6 → M' o i = M o i
  | 0, k, s, M, hk, X, C, h5, hs => by
    have w2 := W.2.1
    rw [L_X_tellChosen_2, X.2.1, if_pos (by rw [le32_iff] <;> omega)]
    exact ⟨M, rfl, fun _ _ _ _ => rfl⟩
  | m + 1, k, s, M, hk, X, C, h5, hs => by
    have w2 := W.2.1
    have n10 := nC_le W
    have ow := (oOf_in W (show k < hT G by omega)).1
    obtain ⟨N, u1, u2, u3⟩ := x_tell (d := D) (M := M) (n := s) hD (by omega) h5 (M 38 (oOf G k))
    obtain ⟨M', e, f⟩ := x_tch2 hD W m (k + 1) (s + 1) N (by omega) (XH_eq X (fun o i _ _ _ => u3 o i (by omega) (by omega))) (by
      obtain ⟨b1, b2, b3⟩ := C
      exact ⟨by rw [u3 7 12 (by decide) (by decide)]; exact b1, fun i hi => by rw [u3 15 i (by decide) (by decide)]; exact b2 i hi, fun t ht => by rw [u3 16 t (by decide) (by decide)]; exact b3 t ht⟩) u2 (by omega)
    rw [L_X_tellChosen_2, X.2.1, if_neg (by rw [le32_iff] <;> omega), if_pos (by omega), Int.toNat_natCast, C.2.2 k (by omega), show (.inl ((own G (hT G) k : Nat) : Int) : pV) = .inl ((oOf G k : Nat) : Int) from rfl, c_numberAt_38n hD (by omega), pbI_rI, u1, pbN_rV, show ((k : Int) + 1) = ((k + 1 : Nat) : Int) by omega]
    exact ⟨M', e, fun o i h1 h2 => by rw [f o i h1 h2, u3 o i h1 h2]⟩
theorem x_tellChosen (hd : 2 ≤ d) (W : WF G) (X : XH M G) (C : CL M G) {s : Nat} (h5 : M 5 1 = (s : Int)) (hs : s ≤ 2) : ∃ M', xF d 58 [.inr 2] M = rV M' ∧ ∀ o i, o ≠ 5 → o ≠ 6 → M' o i = M o i := by
  obtain ⟨D, rfl, hD⟩ := dsucc hd
  have w2 := W.2.1
  rw [T_X_tellChosen]
  exact x_tch2 hD W (hT G) 0 s M (by omega) X C h5 (by omega)
theorem SR_Fr {a : Nat} {w : List (Nat × Nat)} (f : Fr w M M') (g : gM gAll M') (k : w.all (fun q => decide (q.1 < 60 ∨ 73 < q.1 ∨ (q.1 = 60 ∧ (q.2 = 16 ∨ q.2 = 17)))) = true) (S : SR M G a) : SR M' G a := by
  have no : ∀ o i, (60 ≤ o ∧ o ≤ 73) → ¬ (o = 60 ∧ (i = 16 ∨ i = 17)) → M' o i = M o i := fun o i h1 h2 => f o i (by
    cases z : wOK w o i with
    | false => rfl
    | true =>
      obtain ⟨r, hr, h3⟩ := List.any_eq_true.mp z
      rw [Bool.and_eq_true, Bool.or_eq_true] at h3
      have e := Nat.eq_of_beq_eq_true h3.1
      have k := of_decide_eq_true (List.all_eq_true.mp k r hr)
      rw [e] at k
      rcases k with k | k | ⟨k1, k2⟩
      · omega
      · omega
      · rcases h3.2 with y | y
        · have := Nat.eq_of_beq_eq_true y
          omega
        · have := Nat.eq_of_beq_eq_true y
          omega)
  obtain ⟨-, s2, s3, s4, s5, s6, s7, s8⟩ := S
  exact ⟨g, MH_c (fun o i h1 h2 => no o i (by omega) (by omega)) s2, by rw [no 60 38 (by omega) (by omega)]; exact s3, by rw [no 60 30 (by omega) (by omega)]; exact s4, by rw [no 60 39 (by omega) (by omega)]; exact s5, by rw [no 60 40 (by omega) (by omega)]; exact s6, fun t ht => by rw [no 72 t (by omega) (by omega)]; exact s7 t ht, fun i hi => by rw [no 73 i (by omega) (by omega)]; exact s8 i hi⟩
end FTS
/-! together, may: what they answer, on both sides -/
section TGS
variable {D d R n : Nat} {M M' M1 M2 G h : pM} {w1 : List (Nat × Nat)} {v y : Int} {sz bk : Nat → Int}
theorem fnG_f : fnW (hR G) (nC G) (G 1) (bkG G) = fnG G := funext fnG_bk
end TGS
/-! may: what it answers, on both sides -/
section MAY
variable {D d R n : Nat} {M M' M1 M2 G h : pM} {w1 : List (Nat × Nat)} {v y : Int} {sz bk : Nat → Int}
end MAY
/-! the class chooses by the bulk in a room -/
section BBK
variable {D d R n : Nat} {M M' M1 M2 G h : pM} {w1 : List (Nat × Nat)} {v y : Int} {sz bk : Nat → Int}
def szB (G : pM) (b : Nat) (m : Int) (r : Nat) : Int := if r = b then G 1 b + m else G 1 r
end BBK
/-! fullest: what it answers, on both sides -/
section FUL
variable {D d R n : Nat} {M M' M1 M2 G h : pM} {w1 : List (Nat × Nat)} {v y : Int} {sz bk : Nat → Int} {fine : Nat → Bool} {val : Nat → Int}
/-- the load of a room by a code -/
def ldG (G : pM) (b c : Nat) : Int := wlq (fun i => blk G (cOf G i)) (dg (hR G) (nC G) c) b (nC G)
theorem ldG_range (W : WF G) (b c : Nat) : 0 ≤ ldG G b c ∧ ldG G b c ≤ 9900 := by
  have n10 := nC_le W
  have s := sumTo_range (f := fun i => if dg (hR G) (nC G) c i = b then blk G (cOf G i) else 0) (lo := 0) (hi := 990) (n := nC G) (fun i _ => by
    have := blk_range W (cOf G i)
    show 0 ≤ (if dg (hR G) (nC G) c i = b then blk G (cOf G i) else 0) ∧ (if dg (hR G) (nC G) c i = b then blk G (cOf G i) else 0) ≤ 990
    split <;> omega)
  have s2 : ((nC G : Nat) : Int) * 0 ≤ wlq (fun i => blk G (cOf G i)) (dg (hR G) (nC G) c) b (nC G) ∧ wlq (fun i => blk G (cOf G i)) (dg (hR G) (nC G) c) b (nC G) ≤ (nC G : Int) * 990 := s
  unfold ldG
  omega
theorem m_freeG (hd : 1 ≤ d) (W : WF G) {a c : Nat} (S : SR M G a) (h78 : ∀ t, t < hT G → M 78 t = (plG G c t : Int)) {b : Nat} (hb : b < hR G) : xF d 198 [.inr 62, .inr 80, .inl (b : Int)] M = rI (G 1 b - ldG G b c) M := by
  have w1 := W.1
  have w2 := W.2.1
  have X := S.2.1
  have hp : ∀ t, t < hT G → 0 ≤ M 78 t ∧ M 78 t < hR G := fun t ht => by
    have := dg_lt (R := hR G) (C := nC G) (code := c) (by omega) (oOf G t)
    rw [h78 t ht]
    unfold plG
    omega
  have e : blk G (inR G (M 78) (b : Int)) = ldG G b c := by
    unfold ldG
    rw [blk_inR, ← blk_parts W]
    refine sumTo_congr fun t ht => ?_
    rw [h78 t ht]
    unfold plG
    by_cases z : dg (hR G) (nC G) c (oOf G t) = b
    · rw [if_pos z, if_pos (by omega)]
    · rw [if_neg z, if_neg (by omega)]
  rw [m_freeIn_78 hd X.2.1 w2 (by omega), free_same W X hp hb, e]
end FUL
/-! space: what it answers, on both sides -/
section SPC
variable {D d R n : Nat} {M M' M1 M2 G h : pM} {w1 : List (Nat × Nat)} {v y : Int} {fine : Nat → Bool} {val : Nat → Int}
theorem chF_max : ∀ a, ((chF fine val a).1 = 0 → ∀ c, c < a → fine c = false) ∧ ((chF fine val a).1 ≠ 0 → (∃ c, c < a ∧ fine c = true ∧ val c = (chF fine val a).2.1) ∧ ∀ c, c < a → fine c = true → val c ≤ (chF fine val a).2.1)
  | 0 => ⟨fun _ c hc => absurd hc (Nat.not_lt_zero c), fun h => absurd rfl h⟩
  | a + 1 => by
    obtain ⟨i1, i2⟩ := chF_max a
    have e : chF fine val (a + 1) = if fine a then (if (chF fine val a).1 = 0 ∨ (chF fine val a).2.1 < val a then ((chF fine val a).1 + 1, val a, a) else ((chF fine val a).1 + 1, (chF fine val a).2)) else chF fine val a := rfl
    rw [e]
    cases q : fine a with
    | false =>
      rw [if_neg (by decide)]
      refine ⟨fun h c hc => ?_, fun h => ⟨?_, fun c hc hf => ?_⟩⟩
      · rcases Nat.lt_or_ge c a with u | u
        · exact i1 h c u
        · rw [show c = a by omega]; exact q
      · obtain ⟨⟨c, c1, c2, c3⟩, -⟩ := i2 h
        exact ⟨c, by omega, c2, c3⟩
      · rcases Nat.lt_or_ge c a with u | u
        · exact (i2 h).2 c u hf
        · rw [show c = a by omega, q] at hf; cases hf
    | true =>
      rw [if_pos rfl]
      by_cases q2 : (chF fine val a).1 = 0 ∨ (chF fine val a).2.1 < val a
      · rw [if_pos q2]
        refine ⟨fun h => absurd h (Nat.succ_ne_zero _), fun _ => ⟨⟨a, Nat.lt_succ_self a, q, rfl⟩, fun c hc hf => ?_⟩⟩
        show val c ≤ val a
        rcases Nat.lt_or_ge c a with u | u
        · rcases q2 with q2 | q2
          · rw [i1 q2 c u] at hf; cases hf
          · by_cases q3 : (chF fine val a).1 = 0
            · rw [i1 q3 c u] at hf; cases hf
            · have := (i2 q3).2 c u hf
              omega
        · rw [show c = a by omega]; exact Int.le_refl _
      · rw [if_neg q2]
        have q3 : (chF fine val a).1 ≠ 0 := fun z => q2 (Or.inl z)
        obtain ⟨⟨c0, c1, c2, c3⟩, i4⟩ := i2 q3
        refine ⟨fun h => absurd h (Nat.succ_ne_zero _), fun _ => ⟨⟨c0, by omega, c2, c3⟩, fun c hc hf => ?_⟩⟩
        show val c ≤ (chF fine val a).2.1
        rcases Nat.lt_or_ge c a with u | u
        · exact i4 c u hf
        · rw [show c = a by omega]
          exact Int.not_lt.mp (fun z => q2 (Or.inr z))
def frG (G : pM) (r c : Nat) : Int := G 1 r - ldG G r c
theorem frG_range (W : WF G) {r c : Nat} (hr : r < hR G) (hf : fnG G c = true) : 0 ≤ frG G r c ∧ frG G r c ≤ 99 := by
  have s := W.2.2.2.1 r hr
  have l := ldG_range W r c
  have := fnW_iff.mp hf r hr
  have : ldG G r c ≤ G 1 r := this
  unfold frG
  omega
end SPC
/-! near, guest: the least to be carried, on both sides -/
section NEA
variable {D d R n : Nat} {M M' M1 M2 N G h : pM} {w1 : List (Nat × Nat)} {v y : Int} {sz : Nat → Int} {fine : Nat → Bool} {val : Nat → Int}
theorem sumTo_neg {f : Nat → Int} : ∀ k, sumTo (fun i => -f i) k = -sumTo f k
  | 0 => rfl
  | k + 1 => by
    show sumTo (fun i => -f i) k + -f k = -(sumTo f k + f k)
    rw [sumTo_neg k, Int.neg_add]
/-- what it costs, less than nothing, to have a thing in a room -/
def ccG (G : pM) (t r : Nat) : Int := if r < hR G then (if cst G t (G 6 t).toNat r < 0 then -1000000 else -cst G t (G 6 t).toNat r) else 0
def tbN (G : pM) (k i : Nat) : Int := sumTo (fun t => if oOf G t = i / 6 then ccG G t (i % 6) else 0) k
theorem ccG_range (W : WF G) {t : Nat} (ht : t < hT G) (r : Nat) : -1000000 ≤ ccG G t r ∧ ccG G t r ≤ 0 := by
  have := cst_range W ht (G 6 t).toNat r
  unfold ccG
  split
  · split <;> omega
  · omega
theorem svT_N (W : WF G) (c : Nat) : svT (hR G) (nC G) (tbN G (hT G)) c = sumTo (fun t => ccG G t (plG G c t)) (hT G) := by
  rcases Nat.eq_zero_or_pos (hR G) with z | z
  · have t0 := R0_T0 W z
    have c0 : nC G = 0 := by have := nC_T G; omega
    unfold svT
    rw [c0, t0]; rfl
  · have w1 := W.1
    have e1 : svT (hR G) (nC G) (tbN G (hT G)) c = sumTo (fun j => sumTo (fun t => if oOf G t = j then ccG G t (dg (hR G) (nC G) c j) else 0) (hT G)) (nC G) := sumTo_congr fun j hj => by
      have dl := dg_lt (R := hR G) (C := nC G) (code := c) z j
      unfold tbN
      rw [show (6 * j + dg (hR G) (nC G) c j) / 6 = j by omega, show (6 * j + dg (hR G) (nC G) c j) % 6 = dg (hR G) (nC G) c j by omega]
    rw [e1, sumTo_swap]
    refine sumTo_congr fun t ht => ?_
    obtain ⟨a, -⟩ := oOf_in W ht
    have : sumTo (fun j => if oOf G t = j then ccG G t (dg (hR G) (nC G) c j) else 0) (nC G) = sumTo (fun j => if oOf G t = j then ccG G t (plG G c t) else 0) (nC G) := sumTo_congr fun j _ => by
      by_cases z : oOf G t = j
      · rw [if_pos z, if_pos z, ← z]; rfl
      · rw [if_neg z, if_neg z]
    rw [this, sumTo_one, if_pos a]
/-- what it costs to come to a code's arrangement, -1 if some thing does not get there -/
def ctG (G : pM) (c : Nat) : Int := cto G (fun t => (plG G c t : Int))
def cvG (G : pM) (c : Nat) : Int := if ctG G c < 0 then 1000000 else ctG G c
theorem nr_val (W : WF G) (c : Nat) : (0 ≤ ctG G c → svT (hR G) (nC G) (tbN G (hT G)) c = -ctG G c) ∧ (ctG G c < 0 → svT (hR G) (nC G) (tbN G (hT G)) c ≤ -1000000) ∧ (-10000000 ≤ svT (hR G) (nC G) (tbN G (hT G)) c ∧ svT (hR G) (nC G) (tbN G (hT G)) c ≤ 0) := by
  have w2 := W.2.1
  rw [svT_N W]
  have pl : ∀ t, t < hT G → plG G c t < hR G := fun t ht => dg_lt (by have := (W.2.2.2.2.2.2.2.1 t ht).2.2.2; omega) _
  have cc : ∀ t, t < hT G → ccG G t (plG G c t) = if csp G (fun t => (plG G c t : Int)) t < 0 then -1000000 else -csp G (fun t => (plG G c t : Int)) t := fun t ht => by
    unfold ccG
    rw [if_pos (pl t ht)]
    rfl
  have rg := sumTo_range (f := fun t => ccG G t (plG G c t)) (lo := -1000000) (hi := 0) (n := hT G) (fun t ht => ccG_range W ht _)
  unfold ctG cto
  refine ⟨fun h => ?_, fun h => ?_, by omega⟩
  · by_cases z : allTo (fun t => decide (0 ≤ csp G (fun t => (plG G c t : Int)) t)) (hT G) = true
    · rw [if_pos z, ← sumTo_neg]
      refine sumTo_congr fun t ht => ?_
      have := of_decide_eq_true (allTo_iff.mp z t ht)
      rw [cc t ht, if_neg (by omega)]
    · rw [if_neg z] at h; omega
  · by_cases z : allTo (fun t => decide (0 ≤ csp G (fun t => (plG G c t : Int)) t)) (hT G) = true
    · rw [if_pos z] at h
      have := sumTo_range (f := csp G (fun t => (plG G c t : Int))) (lo := 0) (hi := 45) (n := hT G) (fun t ht => ⟨of_decide_eq_true (allTo_iff.mp z t ht), (cst_range W ht _ _).2⟩)
      omega
    · obtain ⟨t, ht⟩ := Classical.not_forall.mp (fun w => z (allTo_iff.mpr w))
      obtain ⟨ht1, ht2⟩ := Classical.not_imp.mp ht
      have c1 : csp G (fun t => (plG G c t : Int)) t < 0 := Int.not_le.mp (fun w => ht2 (decide_eq_true w))
      have le := sumTo_le (f := fun i => ccG G i (plG G c i)) (g := fun i => if t = i then (-1000000 : Int) else 0) (hT G) (fun i hi => by
        show ccG G i (plG G c i) ≤ if t = i then (-1000000 : Int) else 0
        by_cases y : t = i
        · subst y
          rw [if_pos rfl, cc t hi, if_pos c1]
          exact Int.le_refl _
        · rw [if_neg y]
          exact (ccG_range W hi _).2)
      rw [sumTo_one, if_pos ht1] at le
      exact le
theorem x_nr22 (hD : 3 ≤ D) (W : WF G) {k : Nat} (hk : k < hT G) (x1 x2 : Int) : ∀ m r (y5 : pV) (M : pM), r + m = hR G → XH M G → CL M G → (∀ i, i < 60 → M 37 i = tbN G k i + if oOf G k = i / 6 ∧ i % 6 < r then ccG G k (i % 6) else 0) → ∃ (y' : pV) (M' : pM), xE (D + 1) 59 22 [.inr 2, .inl x1, .inl x2, .inl (k : Int), .inl (r : Int), y5] [] M = xE (D + 1) 59 15 [.inr 2, .inl x1, .inl x2, .inl ((k + 1 : Nat) : Int), .inl (hR G : Int), y'] [] M' ∧ (∀ i, i < 60 → M' 37 i = tbN G (k + 1) i) ∧ ∀ o i, o ≠ 37 → M' o i = M o i
  | 0, r, y5, M, hr, X, C, t => by
    have w1 := W.1
    have w2 := W.2.1
    have er : r = hR G := by omega
    rw [er] at t ⊢
    have e0 : xE (D + 1) 59 22 [.inr 2, .inl x1, .inl x2, .inl (k : Int), .inl (hR G : Int), y5] [] M = xE (D + 1) 59 15 [.inr 2, .inl x1, .inl x2, .inl ((k + 1 : Nat) : Int), .inl (hR G : Int), y5] [] M := by
      rw [L_X_nearest_22, X.1, if_pos (by rw [le32_iff] <;> omega), show ((k : Int) + 1) = ((k + 1 : Nat) : Int) by omega]
    refine ⟨y5, M, e0, fun i hi => ?_, fun _ _ _ => rfl⟩
    rw [t i hi]
    show tbN G k i + _ = tbN G k i + (if oOf G k = i / 6 then ccG G k (i % 6) else 0)
    congr 1
    by_cases z : oOf G k = i / 6
    · rw [if_pos z]
      by_cases z2 : i % 6 < hR G
      · rw [if_pos ⟨z, z2⟩]
      · rw [if_neg (fun w => z2 w.2)]
        unfold ccG
        rw [if_neg z2]
    · rw [if_neg z, if_neg (fun w => z w.1)]
  | m + 1, r, y5, M, hr, X, C, t => by
    have w1 := W.1
    have w2 := W.2.1
    have n10 := nC_le W
    have hkt := W.2.2.2.2.2.2.2.1 k hk
    obtain ⟨a, ha⟩ : ∃ a : Nat, G 6 k = a := natI hkt.2.2.2.1
    have ec : cst G k (G 6 k).toNat r = cst G k a r := by rw [ha, Int.toNat_natCast]
    have cr := cst_range W hk a r
    have ok := (oOf_in W hk).1
    have m13 : M 13 k = (a : Int) := by rw [← ha]; exact (X.2.2.2.2.2.1 k hk).2.2.2
    have c16 : M 16 k = (oOf G k : Int) := C.2.2 k hk
    have fin : ∀ (z : Int) (y5' : pV), z = ccG G k r → ∃ (y' : pV) (M' : pM), xE (D + 1) 59 22 [.inr 2, .inl x1, .inl x2, .inl (k : Int), .inl ((r + 1 : Nat) : Int), y5'] [] (pset M 37 (6 * oOf G k + r) (M 37 (6 * oOf G k + r) + z)) = xE (D + 1) 59 15 [.inr 2, .inl x1, .inl x2, .inl ((k + 1 : Nat) : Int), .inl (hR G : Int), y'] [] M' ∧ (∀ i, i < 60 → M' 37 i = tbN G (k + 1) i) ∧ ∀ o i, o ≠ 37 → M' o i = M o i := fun z y5' hz => by
      obtain ⟨y', M', e, t', f⟩ := x_nr22 hD W hk x1 x2 m (r + 1) y5' (pset M 37 (6 * oOf G k + r) (M 37 (6 * oOf G k + r) + z)) (by omega) (XH_hi (fun o i ho => pset_ne (by omega)) X) (CL_hi (fun o i ho => pset_ne (by omega)) C) (fun i hi => by
        by_cases z1 : i = 6 * oOf G k + r
        · subst z1
          rw [pset_eq, t _ hi, hz, show (6 * oOf G k + r) / 6 = oOf G k by omega, show (6 * oOf G k + r) % 6 = r by omega, if_neg (fun w => Nat.lt_irrefl r w.2), if_pos ⟨rfl, Nat.lt_succ_self r⟩, Int.add_zero]
        · rw [pset_ne2 z1, t i hi]
          congr 1
          by_cases z2 : oOf G k = i / 6 ∧ i % 6 < r
          · rw [if_pos z2, if_pos ⟨z2.1, by omega⟩]
          · rw [if_neg z2, if_neg (fun w => z2 ⟨w.1, by
              have := w.1
              have := w.2
              omega⟩)])
      exact ⟨y', M', e, t', fun o i ho => by rw [f o i ho, pset_ne ho]⟩
    rw [L_X_nearest_22, X.1, if_neg (by rw [le32_iff] <;> omega), if_pos (by omega), Int.toNat_natCast, m13, c_cost (by omega) W X hk (by omega) (by omega), pbI_rI, if_pos (by omega), c16]
    by_cases z : 0 ≤ cst G k a r
    · rw [if_pos (by rw [le32_iff] <;> omega), T_Walk_add, if_neg (by rw [lt32_iff] <;> omega), if_neg (by rw [le32_iff] <;> omega), if_neg (by rw [lt32_iff] <;> omega), if_neg (by rw [le32_iff] <;> omega), if_pos (by omega), if_pos (by omega), show ((oOf G k : Int) * 6 + (r : Int)).toNat = 6 * oOf G k + r by omega, pbN_rV, show ((r : Int) + 1) = ((r + 1 : Nat) : Int) by omega]
      exact fin _ _ (by unfold ccG; rw [if_pos (by omega), ec, if_neg (by omega)])
    · rw [if_neg (by rw [le32_iff] <;> omega), T_Walk_add, if_neg (by rw [lt32_iff] <;> omega), if_neg (by rw [le32_iff] <;> omega), if_neg (by rw [lt32_iff] <;> omega), if_neg (by rw [le32_iff] <;> omega), if_pos (by omega), if_pos (by omega), show ((oOf G k : Int) * 6 + (r : Int)).toNat = 6 * oOf G k + r by omega, pbN_rV, show ((r : Int) + 1) = ((r + 1 : Nat) : Int) by omega]
      exact fin _ _ (by unfold ccG; rw [if_pos (by omega), ec, if_pos (by omega)])
theorem x_nr15 (hD : 3 ≤ D) (W : WF G) (x1 x2 : Int) : ∀ m k (y4 y5 : pV) (M : pM), k + m = hT G → XH M G → CL M G → (∀ i, i < 60 → M 37 i = tbN G k i) → ∃ (y4' y5' : pV) (M' : pM), xE (D + 1) 59 15 [.inr 2, .inl x1, .inl x2, .inl (k : Int), y4, y5] [] M = xE (D + 1) 59 15 [.inr 2, .inl x1, .inl x2, .inl (hT G : Int), y4', y5'] [] M' ∧ (∀ i, i < 60 → M' 37 i = tbN G (hT G) i) ∧ ∀ o i, o ≠ 37 → M' o i = M o i
  | 0, k, y4, y5, M, hk, X, C, t => by
    have ek : k = hT G := by omega
    rw [ek] at t ⊢
    exact ⟨y4, y5, M, rfl, t, fun _ _ _ => rfl⟩
  | m + 1, k, y4, y5, M, hk, X, C, t => by
    have w1 := W.1
    have w2 := W.2.1
    obtain ⟨y', M1, e1, t1, f1⟩ := x_nr22 hD W (show k < hT G by omega) x1 x2 (hR G) 0 y5 M (by omega) X C (fun i hi => by rw [t i hi, if_neg (fun w => Nat.not_lt_zero _ w.2), Int.add_zero])
    obtain ⟨y4', y5', M', e2, t2, f2⟩ := x_nr15 hD W x1 x2 m (k + 1) (.inl (hR G : Int)) y' M1 (by omega) (XH_hi (fun o i ho => f1 o i (by omega)) X) (CL_hi (fun o i ho => f1 o i (by omega)) C) t1
    have e0 : xE (D + 1) 59 15 [.inr 2, .inl x1, .inl x2, .inl (k : Int), y4, y5] [] M = xE (D + 1) 59 22 [.inr 2, .inl x1, .inl x2, .inl (k : Int), .inl ((0 : Nat) : Int), y5] [] M := by
      rw [L_X_nearest_15, X.2.1, if_neg (by rw [le32_iff] <;> omega)]; rfl
    exact ⟨y4', y5', M', e0.trans (e1.trans e2), t2, fun o i ho => by rw [f2 o i ho, f1 o i ho]⟩
/-- what one side answers -/
def nrV (G : pM) (fine : Nat → Bool) : Int := if (chF fine (svT (hR G) (nC G) (tbN G (hT G))) (hR G ^ nC G)).1 = 0 ∨ (chF fine (svT (hR G) (nC G) (tbN G (hT G))) (hR G ^ nC G)).2.1 ≤ -1000000 then -2 else -(chF fine (svT (hR G) (nC G) (tbN G (hT G))) (hR G ^ nC G)).2.1
theorem x_near1 (hD : 3 ≤ D) (W : WF G) (B : WB0 (hR G) (nC G) sz (bkG G)) (X : XH N G) (C : CL N G) (K : WK N (hR G) (nC G) sz (bkG G)) (F : WF0 N (hR G) (nC G)) (t0 : ∀ i, i < 60 → N 37 i = 0) (x1 x2 : Int) (y4 y5 : pV) (e : xE (D + 1) 59 15 [.inr 2, .inl x1, .inl x2, .inl ((0 : Nat) : Int), y4, y5] [] N = rI v M') : v = nrV G (fnW (hR G) (nC G) sz (bkG G)) := by
  have w1 := W.1
  have w2 := W.2.1
  obtain ⟨y4', y5', N2, e1, t2, f2⟩ := x_nr15 hD W x1 x2 (hT G) 0 y4 y5 N (by omega) X C (fun i hi => by rw [t0 i hi]; rfl)
  rw [e1] at e
  have K2 : WK N2 (hR G) (nC G) sz (bkG G) := by
    obtain ⟨k1, k2, k3, k4⟩ := K
    exact ⟨by rw [f2 32 6 (by decide)]; exact k1, by rw [f2 32 7 (by decide)]; exact k2, fun r hr => by rw [f2 33 r (by decide)]; exact k3 r hr, fun j hj => by rw [f2 35 j (by decide)]; exact k4 j hj⟩
  have F2 : WF0 N2 (hR G) (nC G) := by
    obtain ⟨k1, k2, k3, k4⟩ := F
    exact ⟨by rw [f2 32 8 (by decide)]; exact k1, by rw [f2 32 9 (by decide)]; exact k2, fun j hj => by rw [f2 36 j (by decide)]; exact k3 j hj, fun r hr => by rw [f2 34 r (by decide)]; exact k4 r hr⟩
  have X2 := XH_hi (fun o i ho => f2 o i (by omega)) X
  have C2 := CL_hi (fun o i ho => f2 o i (by omega)) C
  have hv : ∀ c, -100000000 ≤ svT (hR G) (nC G) (tbN G (hT G)) c ∧ svT (hR G) (nC G) (tbN G (hT G)) c ≤ 100000000 := fun c => by
    have := (nr_val W c).2.2
    omega
  obtain ⟨N3, c1, c2, c3⟩ := x_choose (d := D + 1) (by omega) B hv K2 F2 t2
  obtain ⟨c21, c22⟩ := c2
  obtain ⟨i1, i2⟩ := chF_max (fine := fnW (hR G) (nC G) sz (bkG G)) (val := svT (hR G) (nC G) (tbN G (hT G))) (hR G ^ nC G)
  rw [L_X_nearest_15, X2.2.1, if_pos (by rw [le32_iff] <;> omega), c1, pbI_rI] at e
  unfold nrV
  by_cases z : (chF (fnW (hR G) (nC G) sz (bkG G)) (svT (hR G) (nC G) (tbN G (hT G))) (hR G ^ nC G)).1 = 0
  · rw [if_pos z, if_pos (by decide)] at e
    rw [if_pos (Or.inl z)]
    exact (rI_inj e).1.symm
  · obtain ⟨⟨c0, d1, d2, d3⟩, i4⟩ := i2 z
    have v10 := (c22 z).1
    have rg := (nr_val W c0).2.2
    rw [d3] at rg
    rw [if_neg z, if_neg (by decide), v10] at e
    by_cases z2 : (chF (fnW (hR G) (nC G) sz (bkG G)) (svT (hR G) (nC G) (tbN G (hT G))) (hR G ^ nC G)).2.1 ≤ -1000000
    · rw [if_neg (by rw [lt32_iff] <;> omega)] at e
      rw [if_pos (Or.inr z2)]
      exact (rI_inj e).1.symm
    · have lo3 : ∀ o i, o < 32 → N3 o i = N2 o i := fun o i ho => c3 o i (by omega) (by omega) (by omega) (by omega)
      have X3 : XH (pset N3 5 1 0) G := XH_eq X2 (fun o i o1 o2 _ => by rw [pset_ne (by omega), lo3 o i (by omega)])
      have C3 : CL (pset N3 5 1 0) G := by
        obtain ⟨b1, b2, b3⟩ := C2
        exact ⟨by rw [pset_ne (by decide), lo3 7 12 (by decide)]; exact b1, fun i hi => by rw [pset_ne (by decide), lo3 15 i (by decide)]; exact b2 i hi, fun t ht => by rw [pset_ne (by decide), lo3 16 t (by decide)]; exact b3 t ht⟩
      obtain ⟨N4, u1, u2⟩ := x_tellChosen (d := D + 1) (s := 0) (by omega) W X3 C3 pset_eq (by decide)
      rw [if_pos (by rw [lt32_iff] <;> omega), T_Numbers_start, pbN_rV, u1, pbN_rV, u2 32 10 (by decide) (by decide), pset_ne (by decide), v10] at e
      rw [if_neg (fun w => w.elim z z2)]
      exact (rI_inj e).1.symm
/-- what fits, and has so much free in that room -/
def fnN (G : pM) (b f : Int) (c : Nat) : Bool := fnG G c && decide (b < 0 ∨ f ≤ frG G b.toNat c)
theorem fnN_none (f : Int) : fnN G (-1) f = fnG G := funext fun c => by
  unfold fnN
  rw [decide_eq_true (Or.inl (by decide)), Bool.and_true]
theorem fnN_szB {b : Nat} (hb : b < hR G) {f : Int} (hf : 0 ≤ f) : fnW (hR G) (nC G) (szB G b (-f)) (bkG G) = fnN G (b : Int) f := funext fun c => by
  have e : ∀ r, wlq (bkG G) (dg (hR G) (nC G) c) r (nC G) = ldG G r c := fun r => sumTo_congr fun i hi => by
    unfold bkG
    rw [bkL_all (nC G) (Nat.le_refl _) hi]
  refine Bool.eq_iff_iff.mpr ?_
  unfold fnN
  rw [fnW_iff, Bool.and_eq_true, decide_eq_true_eq, ← fnG_bk, fnW_iff, Int.toNat_natCast]
  unfold szB frG
  constructor
  · intro p
    refine ⟨fun r hr => ?_, Or.inr ?_⟩
    · have := p r hr
      by_cases z : r = b
      · rw [if_pos z] at this
        rw [z] at this ⊢
        omega
      · rw [if_neg z] at this; exact this
    · have := p b hb
      rw [if_pos rfl, e] at this
      omega
  · intro p r hr
    by_cases z : r = b
    · rw [if_pos z, z, e]
      rcases p.2 with u | u
      · omega
      · omega
    · rw [if_neg z]; exact p.1 r hr
theorem x_nearest (hd : 5 ≤ d) (W : WF G) (q : ¬ tmG G) (X : XH M G) (C : CL M G) {b f : Int} (hb : b = -1 ∨ (0 ≤ b ∧ b < hR G)) (hf : 0 ≤ f ∧ f ≤ 99) (e : xF d 59 [.inr 2, .inl b, .inl f] M = rI v M') : v = nrV G (fnN G b f) := by
  obtain ⟨D, rfl, hD⟩ := dsucc hd
  obtain ⟨D', rfl, hD'⟩ := dsucc (show 1 ≤ D by omega)
  have w1 := W.1
  have B := WB_G W q
  obtain ⟨N1, s1, s2, s3, s4, s5⟩ := x_startG (d := D' + 1) (by omega) W X C
  obtain ⟨v4, M3, z1, z2⟩ := pbI_inv s1
  rw [T_X_nearest, z1, pbI_rI, z2, pbN_rV, T_Walk_lessen, s2.1] at e
  rcases hb with rfl | hb
  · rw [if_pos (by decide), pbN_rV, show (.inl 0 : pV) = .inl ((0 : Nat) : Int) from rfl] at e
    have := x_near1 (by omega) W B (XH_hi (fun o i ho => s5 o i (by omega)) X) (CL_hi (fun o i ho => s5 o i (by omega)) C) s2 s3 s4 _ _ _ _ e
    rw [fnG_f] at this
    rw [fnN_none]
    exact this
  · obtain ⟨b, rfl⟩ := natI hb.1
    have hb : b < hR G := by omega
    have sb := W.2.2.2.1 b hb
    have k33 : N1 33 b = G 1 b := s2.2.2.1 b hb
    have lo1 : ∀ o i, o < 32 → pset N1 33 b (G 1 b - f) o i = M o i := fun o i ho => by rw [pset_ne (by omega), s5 o i (by omega)]
    rw [if_neg (by rw [lt32_iff] <;> omega), if_neg (by rw [le32_iff] <;> omega), if_pos (by omega), if_pos (by omega), Int.toNat_natCast, k33, pbN_rV, show (.inl 0 : pV) = .inl ((0 : Nat) : Int) from rfl] at e
    have K2 : WK (pset N1 33 b (G 1 b - f)) (hR G) (nC G) (szB G b (-f)) (bkG G) := by
      obtain ⟨k1, k2, k3, k4⟩ := s2
      refine ⟨by rw [pset_ne (by decide)]; exact k1, by rw [pset_ne (by decide)]; exact k2, fun r hr => ?_, fun j hj => by rw [pset_ne (by decide)]; exact k4 j hj⟩
      unfold szB
      by_cases z : r = b
      · rw [z, pset_eq, if_pos rfl]; omega
      · rw [pset_ne2 z, if_neg z]; exact k3 r hr
    have F2 : WF0 (pset N1 33 b (G 1 b - f)) (hR G) (nC G) := by
      obtain ⟨k1, k2, k3, k4⟩ := s3
      exact ⟨by rw [pset_ne (by decide)]; exact k1, by rw [pset_ne (by decide)]; exact k2, fun j hj => by rw [pset_ne (by decide)]; exact k3 j hj, fun r hr => by rw [pset_ne (by decide)]; exact k4 r hr⟩
    have B2 : WB0 (hR G) (nC G) (szB G b (-f)) (bkG G) := by
      obtain ⟨b1, b2, b3, b4, b5, b6⟩ := B
      refine ⟨b1, b2, b3, fun r hr => ?_, b5, b6⟩
      have := W.2.2.2.1 r hr
      unfold szB
      split <;> omega
    have := x_near1 (by omega) W B2 (XH_hi lo1 X) (CL_hi lo1 C) K2 F2 (fun i hi => by rw [pset_ne (by decide)]; exact s4 i hi) _ _ _ _ e
    rw [fnN_szB hb hf.1] at this
    exact this
/-- V is the least of what f says, over what P lets in; 1000000 if nothing is less -/
def MN (P : Nat → Prop) (f : Nat → Int) (V : Int) : Prop := (∀ c, P c → V ≤ f c) ∧ V ≤ 1000000 ∧ (V = 1000000 ∨ ∃ c, P c ∧ f c = V)
theorem MN_cg {P Q : Nat → Prop} {f : Nat → Int} {V : Int} (e : ∀ c, P c ↔ Q c) (a : MN P f V) : MN Q f V := by
  obtain ⟨a1, a2, a3⟩ := a
  exact ⟨fun c q => a1 c ((e c).mpr q), a2, a3.imp id (fun ⟨c, a4, a5⟩ => ⟨c, (e c).mp a4, a5⟩)⟩
theorem nr_end (W : WF G) {V : Int} (g : MN (fun c => c < hR G ^ nC G ∧ fine c = true) (cvG G) V) : nrV G fine = if V = 1000000 then -2 else V := by
  obtain ⟨g1, g2, g3⟩ := g
  obtain ⟨i1, i2⟩ := chF_max (fine := fine) (val := svT (hR G) (nC G) (tbN G (hT G))) (hR G ^ nC G)
  have up : ∀ c, ctG G c ≤ 450 := fun c => (cto_range W _).2
  unfold nrV
  by_cases z : (chF fine (svT (hR G) (nC G) (tbN G (hT G))) (hR G ^ nC G)).1 = 0
  · rw [if_pos (Or.inl z)]
    rcases g3 with g3 | ⟨c, ⟨g4, g5⟩, -⟩
    · rw [if_pos g3]
    · rw [i1 z c g4] at g5; cases g5
  · obtain ⟨⟨c0, d1, d2, d3⟩, i4⟩ := i2 z
    obtain ⟨n1, n2, n3⟩ := nr_val W c0
    have l0 := g1 c0 ⟨d1, d2⟩
    have u0 := up c0
    unfold cvG at l0
    by_cases y0 : ctG G c0 < 0
    · have a1 := n2 y0
      rw [if_pos (Or.inr (by omega))]
      rcases g3 with g3 | ⟨c, ⟨g4, g5⟩, g6⟩
      · rw [if_pos g3]
      · obtain ⟨m1, m2, -⟩ := nr_val W c
        have m4 := i4 c g4 g5
        have uc := up c
        unfold cvG at g6
        by_cases yc : ctG G c < 0
        · rw [if_pos yc] at g6
          rw [if_pos g6.symm]
        · have := m1 (by omega)
          omega
    · rw [if_neg y0] at l0
      have a1 := n1 (by omega)
      rw [if_neg (fun w => w.elim z (fun w => by omega)), if_neg (by omega)]
      rcases g3 with g3 | ⟨c, ⟨g4, g5⟩, g6⟩
      · omega
      · obtain ⟨m1, m2, -⟩ := nr_val W c
        have m4 := i4 c g4 g5
        unfold cvG at g6
        by_cases yc : ctG G c < 0
        · rw [if_pos yc] at g6
          omega
        · rw [if_neg yc] at g6
          have := m1 (by omega)
          omega
theorem m_costG (hd : 5 ≤ d) (W : WF G) {a c : Nat} (S : SR M G a) (h78 : ∀ t, t < hT G → M 78 t = (plG G c t : Int)) : ∃ M', xF d 209 [.inr 62, .inr 68, .inl 0, .inr 80, .inl 0] M = rI (cvG G c) M' ∧ SR M' G a ∧ ∀ t, t < hT G → M' 78 t = (plG G c t : Int) := by
  obtain ⟨M', e, f⟩ := m_cost78 (p := fun t => (plG G c t : Int)) hd W S.2.1 (fun t ht => ⟨h78 t ht, (by
    show (0 : Int) ≤ (plG G c t : Int)
    omega), by
    have := dg_lt (R := hR G) (C := nC G) (code := c) (by have := (W.2.2.2.2.2.2.2.1 t ht).2.2.2; omega) (oOf G t)
    show ((dg (hR G) (nC G) c (oOf G t) : Nat) : Int) < hR G
    omega⟩)
  obtain ⟨z, M'', e', g, fr, -⟩ := v_cost (d := d) (by omega) S.1 (a2 := 0) (a4 := 0) (by omega) (by omega)
  rw [e] at e'
  obtain ⟨-, rfl⟩ := rI_inj e'
  exact ⟨M', e, SR_Fr fr g (by decide) S, fun t ht => by rw [f 78 t (by decide)]; exact h78 t ht⟩
def mnP (G : pM) (b f : Int) (a c : Nat) : Prop := c < a ∧ fnN G b f c = true
theorem m_nr9 (hD : 5 ≤ D) (W : WF G) (hW : hR G ^ nC G ≤ 20000) {b f : Int} (hb : b = -1 ∨ (0 ≤ b ∧ b < hR G)) (hf : 0 ≤ f ∧ f ≤ 99) : ∀ m a (V : Int) (y4 : pV) (M : pM), hR G ^ nC G - a + 1 ≤ m → a ≤ hR G ^ nC G → SR M G a → MN (mnP G b f a) (cvG G) V → -1 ≤ V → xE D 237 9 [.inr 62, .inl b, .inl f, .inl V, y4] [] M = rI y M2 → ∃ V', MN (mnP G b f (hR G ^ nC G)) (cvG G) V' ∧ y = if V' = 1000000 then -2 else V' := by
  have w1 := W.1
  intro m
  induction m with
  | zero => intro a V y4 M hm; omega
  | succ m ih =>
    intro a V y4 M hm ha S g hV e
    obtain ⟨N, n1, g1, r⟩ := m_nextG (d := D) (by omega) W hW ha S
    rw [L_M_nearest_9] at e
    rcases r with ⟨r1, c, c1, c2, c3, c4, c5, c6⟩ | ⟨r1, nf⟩
    · have cr : -1 ≤ ctG G c ∧ ctG G c ≤ 450 := cto_range W _
      have cv : 0 ≤ cvG G c ∧ cvG G c ≤ 1000000 := by
        unfold cvG
        split <;> omega
      have V1 := g.2.1
      rw [r1, pbI_rI, if_neg (by decide)] at e
      -- a code that does not count
      have skip : fnN G b f c = false → MN (mnP G b f (c + 1)) (cvG G) V := fun h => by
        refine MN_cg (fun c' => ⟨fun p => ⟨by have := p.1; omega, p.2⟩, fun p => ?_⟩) g
        refine ⟨?_, p.2⟩
        rcases Nat.lt_or_ge c' a with u | u
        · exact u
        · have h0 := p.2
          rcases Nat.lt_or_ge c' c with u2 | u2
          · unfold fnN at h0
            rw [c4 c' u u2] at h0; cases h0
          · have e : c' = c := by have := p.1; omega
            rw [e, h] at h0; cases h0
      have take : fnN G b f c = true → ∀ V', (V' = V ∧ V ≤ cvG G c) ∨ (V' = cvG G c ∧ cvG G c ≤ V) → MN (mnP G b f (c + 1)) (cvG G) V' := fun h V' hV' => by
        obtain ⟨g1, g2, g3⟩ := g
        refine ⟨fun c' p => ?_, by omega, ?_⟩
        · rcases Nat.lt_or_ge c' a with u | u
          · have := g1 c' ⟨u, p.2⟩
            omega
          · rcases Nat.lt_or_ge c' c with u2 | u2
            · have h0 := p.2
              unfold fnN at h0
              rw [c4 c' u u2] at h0; cases h0
            · have : c' = c := by have := p.1; omega
              rw [this]
              omega
        · rcases hV' with ⟨e1, e2⟩ | ⟨e1, e2⟩
          · rcases g3 with g3 | ⟨c', g4, g5⟩
            · exact Or.inl (by omega)
            · exact Or.inr ⟨c', ⟨by have := g4.1; omega, g4.2⟩, by omega⟩
          · exact Or.inr ⟨c, ⟨Nat.lt_succ_self c, h⟩, e1.symm⟩
      obtain ⟨M3, k1, k2, k3⟩ := m_costG (d := D) (by omega) W c5 c6
      have tk : ∃ M4, xF D 233 [.inr 62] M3 = rV M4 ∧ SR M4 G (c + 1) := by
        obtain ⟨N2, u1, u2, u3⟩ := u_take (d := D) (by omega) k2.1
        exact ⟨N2, u1, SR_Fr u3 u2 (by decide) k2⟩
      obtain ⟨M4, t1, t2⟩ := tk
      rcases hb with rfl | hb
      · have fn : fnN G (-1) f c = true := by rw [fnN_none]; exact c3
        rw [if_pos (by decide), k1, pbI_rI] at e
        by_cases z : cvG G c < V
        · rw [if_pos (by rw [lt32_iff] <;> omega), t1, pbN_rV] at e
          exact ih (c + 1) (cvG G c) _ M4 (by omega) (by omega) t2 (take fn _ (Or.inr ⟨rfl, by omega⟩)) (by omega) e
        · rw [if_neg (by rw [lt32_iff] <;> omega)] at e
          exact ih (c + 1) V _ M3 (by omega) (by omega) k2 (take fn _ (Or.inl ⟨rfl, by omega⟩)) hV e
      · obtain ⟨b, rfl⟩ := natI hb.1
        have hb' : b < hR G := by omega
        have fr := frG_range W hb' c3
        rw [if_neg (by rw [eq32_iff] <;> omega), m_freeG (by omega) W c5 c6 hb', pbI_rI, show G 1 b - ldG G b c = frG G b c from rfl] at e
        by_cases y : f ≤ frG G b c
        · have fn : fnN G (b : Int) f c = true := by
            unfold fnN
            rw [c3, Int.toNat_natCast, decide_eq_true (Or.inr y), Bool.and_true]
          rw [if_pos (by rw [le32_iff] <;> omega), k1, pbI_rI] at e
          by_cases z : cvG G c < V
          · rw [if_pos (by rw [lt32_iff] <;> omega), t1, pbN_rV] at e
            exact ih (c + 1) (cvG G c) _ M4 (by omega) (by omega) t2 (take fn _ (Or.inr ⟨rfl, by omega⟩)) (by omega) e
          · rw [if_neg (by rw [lt32_iff] <;> omega)] at e
            exact ih (c + 1) V _ M3 (by omega) (by omega) k2 (take fn _ (Or.inl ⟨rfl, by omega⟩)) hV e
        · have fn : fnN G (b : Int) f c = false := by
            unfold fnN
            rw [c3, Int.toNat_natCast, decide_eq_false (fun w => w.elim (by omega) y), Bool.and_false]
          rw [if_neg (by rw [le32_iff] <;> omega)] at e
          exact ih (c + 1) V _ N (by omega) (by omega) c5 (skip fn) hV e
    · rw [r1, pbI_rI, if_pos (by decide)] at e
      have V1 := g.2.1
      refine ⟨V, MN_cg (fun c' => ⟨fun p => ⟨by have := p.1; omega, p.2⟩, fun p => ⟨?_, p.2⟩⟩) g, ?_⟩
      · by_cases z : V = 1000000
        · rw [if_neg (fun w => w (by rw [z]))] at e
          rw [if_pos z]; exact (rI_inj e).1.symm
        · rw [if_pos (by rw [eq32_iff] <;> omega)] at e
          obtain ⟨_, -, e⟩ := pbN_inv e
          rw [if_neg z]; exact (rI_inj e).1.symm
      · rcases Nat.lt_or_ge c' a with u | u
        · exact u
        · have h0 := p.2
          unfold fnN at h0
          rw [nf c' u p.1] at h0; cases h0
theorem nr_both (W : WF G) (X : XH M G) (C : CL M G) (hM : gM gAll N) (Y : MH N G) (h38 : N 60 38 = 0) {b f : Int} (hb : b = -1 ∨ (0 ≤ b ∧ b < hR G)) (hf : 0 ≤ f ∧ f ≤ 99) (e1 : (pbI (xF (998 + 1) 92 [.inr 9] M) fun v2 M1 => if eq32 v2 0 then (pbI (xF (998 + 1) 59 [.inr 2, .inl b, .inl f] M1) fun v4 M3 => some (some (.inl v4), M3)) else some (some (.inl (-3)), M1)) = rI v M1) (e2 : xF (998 + 1) 237 [.inr 62, .inl b, .inl f] N = rI y M2) : v = y := by
  obtain ⟨qx1, qx2⟩ := x_tooMany (d := 998 + 1) (by omega) W X C
  obtain ⟨N1, g2, fN, p1, p2⟩ := m_tooMG (d := 998) (by omega) hM W Y h38
  rw [T_M_nearest] at e2
  rcases Classical.em (tmG G) with q | q
  · rw [qx1 q, pbI_rI, if_neg (by decide)] at e1
    rw [p1 q, pbI_rI, if_neg (by decide)] at e2
    rw [← (rI_inj e1).1, ← (rI_inj e2).1]
  · have hW : hR G ^ nC G ≤ 20000 := by unfold tmG at q; omega
    obtain ⟨p3, p4⟩ := p2 q
    rw [qx2 q, pbI_rI, if_pos (by decide)] at e1
    obtain ⟨v4, M3, z1, z2⟩ := pbI_inv e1
    have a := x_nearest (d := 998 + 1) (by omega) W q X C hb hf z1
    obtain ⟨V, gb, eb⟩ := m_nr9 (D := 998) (by omega) W hW hb hf (hR G ^ nC G + 1) 0 1000000 _ _ (by omega) (Nat.zero_le _) p4 ⟨fun c p => absurd p.1 (Nat.not_lt_zero c), Int.le_refl _, Or.inl rfl⟩ (by omega) (by
      rw [p3, pbI_rI, if_pos (by decide), T_M_beginRows, pbN_rV] at e2
      exact e2)
    rw [← (rI_inj z2).1, a, eb]
    exact nr_end W gb
theorem kc_guest (R : RI0 M) (C : CI M) (K : CK M) (R1 : RI0 M1) {a1 a2 : Int} (h1 : -2147483648 ≤ a1 ∧ a1 ≤ 2147483647) (h2 : -2147483648 ≤ a2 ∧ a2 ≤ 2147483647) (e1 : xF 1000 25 [.inr 2, .inl a1, .inl a2] M = rI v M1) (f1 : Fr w1 M M1) (k1 : okW cm cmo w1 = true) (e2 : xF 1000 239 [.inr 62, .inl a1, .inl a2] M1 = rI y M2) : v = y := by
  obtain ⟨G, X, Y⟩ := C
  obtain ⟨W, -⟩ := ci_facts R X Y
  have hw1 := W.1
  have C := CK_G K X.1
  have t1 : xF (998 + 1 + 1) 25 [.inr 2, .inl a1, .inl a2] M = rI v M1 := e1
  have t2 : xF (998 + 1 + 1) 239 [.inr 62, .inl a1, .inl a2] M1 = rI y M2 := e2
  have Y1 := MG_thr (MG_Fr f1 k1 Y)
  have gT := gM_thr R1.1
  rw [T_X_guest, c_isRoom7 (by omega) W X.1 (by omega) (by omega), pbI_rI, ite01p] at t1
  rw [T_M_guest, m_isRoom (by omega) Y1.1.1 hw1 (by omega) (by omega), pbI_rI, ite01p] at t2
  by_cases q1 : 0 ≤ a1 ∧ a1 < (hR G : Int)
  · rw [if_pos q1] at t1 t2
    rw [m_in (by omega), pbI_rI] at t2
    by_cases q2 : 0 ≤ a2 ∧ a2 ≤ 99
    · have hin : ¬ (lt32 a2 0 ∨ lt32 99 a2) := fun w => by
        rcases w with w | w
        · rw [lt32_iff] at w <;> omega
        · rw [lt32_iff] at w <;> omega
      rw [if_neg (by rw [lt32_iff] <;> omega), if_pos (by rw [le32_iff] <;> omega)] at t1
      rw [if_neg hin, if_neg (by decide)] at t2
      obtain ⟨v2, M3, z1, z2⟩ := pbI_inv t2
      rw [← (rI_inj z2).1]
      exact nr_both W X.1 C gT Y1.1 (by rw [pset_ne2 (by decide)]; exact R1.2.1) (Or.inr q1) q2 t1 z1
    · have hin : lt32 a2 0 ∨ lt32 99 a2 := by
        by_cases z : a2 < 0
        · exact Or.inl (by rw [lt32_iff] <;> omega)
        · exact Or.inr (by rw [lt32_iff] <;> omega)
      have y0 : y = -1 := by
        rw [if_pos hin, if_pos (by decide)] at t2
        exact (rI_inj t2).1.symm
      by_cases q3 : a2 < 0
      · rw [if_pos (by rw [lt32_iff] <;> omega)] at t1
        rw [y0, ← (rI_inj t1).1]
      · rw [if_neg (by rw [lt32_iff] <;> omega), if_neg (by rw [le32_iff] <;> omega)] at t1
        rw [y0, ← (rI_inj t1).1]
  · rw [if_neg q1] at t1 t2
    rw [← (rI_inj t1).1, ← (rI_inj t2).1]
end NEA
/-! is there an arrangement at all: of some clumps, with other sizes -/
section EXA
variable {D d R n : Nat} {M M' M1 M2 G h N : pM} {w1 : List (Nat × Nat)} {v y : Int} {sz bk : Nat → Int} {q : Nat → Nat}
end EXA
/-! could: what it answers, on both sides -/
section COU
variable {D d R n : Nat} {M M' M1 M2 G h N : pM} {w1 : List (Nat × Nat)} {v y : Int} {sz bk : Nat → Int}
end COU
/-! build: what it answers, on both sides -/
section BLD
variable {D d R n : Nat} {M M' M1 M2 G h N : pM} {w1 : List (Nat × Nat)} {v y : Int} {sz bk : Nat → Int}
end BLD
/-! sell: the reference's rows when some clumps are sold -/
section SLD
variable {D d R n T C s code W : Nat} {M M' M1 M2 G h N : pM}
end SLD
/-! sell: what it answers, on both sides -/
section SEL
variable {D d : Nat} {M M' M1 M2 G h N : pM} {w1 : List (Nat × Nat)} {v y : Int}
end SEL
end
section
/-! which letter a sign is -/
section SIX
variable {D d : Nat} {M : pM}
end SIX
/-! a rule is read -/
section XRU
variable {tx : Nat → Int} {st d D : Nat} {M M' : pM} {lv : Int → Int}
end XRU
/-! rule: what it answers and what it keeps, on both sides -/
section RUL
variable {tx : Nat → Int} {st d D L : Nat} {M M' M1 M2 N : pM} {lv lv' : Int → Int} {w1 : List (Nat × Nat)} {v y : Int}
def X3 (M M' : pM) : Prop := ∀ o i, ¬ (o = 3 ∧ (i = 1 ∨ i = 2 ∨ i = 3)) → M' o i = M o i
end RUL
/-! the reader of the rule that is kept: as 78a and 85b (by program) -/
section YR
variable {tx : Nat → Int} {st d : Nat} {M : pM}
end YR
section YRU
variable {tx : Nat → Int} {st d D : Nat} {M M' : pM} {lv : Int → Int}
end YRU
/-! what a thing is worth in a room, on both sides -/
section WOR
variable {tx : Nat → Int} {d D L : Nat} {M M' M1 M2 N G : pM} {w1 w2 : List (Nat × Nat)} {v y : Int} {lv : Int → Int}
end WOR
/-! thing: what it answers, on both sides -/
section THI
variable {tx : Nat → Int} {d D L : Nat} {M M' M1 M2 N G : pM} {w1 : List (Nat × Nat)} {v y : Int}
end THI
/-! best: what it answers, on both sides -/
section BES
variable {tx : Nat → Int} {d D L : Nat} {M M' M1 M2 N G : pM} {w1 : List (Nat × Nat)} {v y : Int}
end BES
end
section
/-! queue: how many clumps are carried, on both sides -/
section QUA
variable {G : pM} {p q : Nat → Int}
end QUA
section QUM
variable {D d S T R C x1 : Nat} {sv : Nat → Nat} {M M' N G : pM} {p : Nat → Int} {v y : Int}
end QUM
/-! queue: one side's search -/
section QUX
variable {D d : Nat} {M M' M1 N G : pM} {p : Nat → Int} {v y : Int}
end QUX
section QUK
variable {D d : Nat} {M M' M1 M2 N G : pM} {p : Nat → Int} {w1 : List (Nat × Nat)} {v y : Int}
end QUK
/-! the list of the arrangements that are lawful, and what it costs between them -/
section LST
variable {D d : Nat} {M M' N G : pM} {p : Nat → Int} {f g : Nat → Nat} {v y : Int}
end LST
/-! what it costs from one of the list to another, on both sides -/
section CST
variable {D d : Nat} {M M' N G : pM} {p : Nat → Int} {f g : Nat → Nat} {v y : Int}
def c6 (G : pM) (t a b : Nat) : Int := if cst G t a b < 0 then 1000000 else cst G t a b
end CST
/-! the fewest evenings, on one side -/
section FEW
variable {D d : Nat} {M M' M1 N G : pM} {p : Nat → Int} {v y w : Int}
end FEW
/-! the list and its costs on the other side -/
section AIF
variable {D d : Nat} {M M' M1 N G : pM} {p : Nat → Int} {f g : Nat → Nat} {v y w : Int}
end AIF
/-! the fewest evenings on the other side; evenings joined -/
section EVF
variable {D d : Nat} {M M' M1 M2 N G : pM} {p : Nat → Int} {w1 : List (Nat × Nat)} {v y w : Int}
end EVF
/-! evenings: what it answers, on both sides -/
section EVJ
variable {D d : Nat} {M M' M1 M2 N G : pM} {p : Nat → Int} {w1 : List (Nat × Nat)} {v y w : Int}
end EVJ
/-! the least strength, on one side -/
section WEK
variable {D d : Nat} {M M' M1 N G : pM} {p : Nat → Int} {v y w : Int}
end WEK
/-! the least strength, on one side: the search -/
section WEL
variable {D d : Nat} {M M' M1 N N0 G : pM} {p : Nat → Int} {v y w : Int}
end WEL
/-! the least strength, on one side: to its end; what is answered -/
section WEM
variable {D d : Nat} {M M' M1 N N0 G : pM} {p : Nat → Int} {v y w : Int}
end WEM
/-! the least strength on the other side; weakest joined -/
section WEO
variable {D d : Nat} {M M' M1 M2 N G : pM} {p : Nat → Int} {w1 : List (Nat × Nat)} {v y w : Int}
end WEO
end
