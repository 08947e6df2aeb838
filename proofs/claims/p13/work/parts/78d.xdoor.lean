/-! the class reads a door's line, a thing's line -/
section XD
variable {tx : Nat → Int} {st d D : Nat} {M M' h : pM}
theorem x_isR17 (hd : 1 ≤ d) (y : YH M h) (hR6 : hR h ≤ 6) {b : Int} (h1 : -2147483648 ≤ b) (h2 : b < 2147483648) : xF d 63 [.inr 19, .inl b] M = rI (if 0 ≤ b ∧ b < (hR h : Int) then 1 else 0) M := by
  obtain ⟨D, rfl, -⟩ := dsucc hd
  rw [T_House_isRoom_17, y.1]
  by_cases q : b < 0
  · rw [if_pos (by rw [lt32_iff] <;> omega), if_neg (by omega)]
  · rw [if_neg (by rw [lt32_iff] <;> omega)]
    by_cases q2 : (hR h : Int) ≤ b
    · rw [if_pos (by rw [le32_iff] <;> omega), if_neg (by omega)]
    · rw [if_neg (by rw [le32_iff] <;> omega), if_pos (by omega)]
theorem x_makeDoor (hd : 3 ≤ d) {s : rgs} (x : XSt tx st M s) (y : YH M h) (hR6 : hR h ≤ 6) {a b : Nat} (ha : a < hR h) (hb : b < hR h) (hab : a ≠ b) (w : Int) : ∃ M', xF d 73 [.inr 19, .inl (a : Int), .inl (b : Int), .inl w] M = rV M' ∧ XSt tx st M' s ∧ YH M' (addD h a b w) ∧ AGl M M' := by
  obtain ⟨D, rfl, hD⟩ := dsucc hd
  obtain ⟨D', rfl, hD'⟩ := dsucc (show 1 ≤ D by omega)
  have qa : 0 ≤ (a : Int) ∧ (a : Int) < (hR h : Int) := by omega
  have qb : 0 ≤ (b : Int) ∧ (b : Int) < (hR h : Int) := by omega
  rw [T_House_makeDoor_17, T_House_areUnlikeRooms_17, x_isR17 (by omega) y hR6 (by omega) (by omega), pbI_rI, if_pos qa, if_neg (by decide), x_isR17 (by omega) y hR6 (by omega) (by omega), pbI_rI, if_pos qb, if_neg (by decide), if_neg (by rw [eq32_iff] <;> omega), pbI_rI, if_neg (by decide), if_pos (by omega), if_pos (by omega), show ((a : Int) * 6 + (b : Int)).toNat = 6 * a + b by omega, show ((b : Int) * 6 + (a : Int)).toNat = 6 * b + a by omega]
  obtain ⟨y1, y2, y3, y4, y5, y6, y7⟩ := y
  have e : ∀ o i, o ≠ 19 → pset (pset M 19 (6 * a + b) w) 19 (6 * b + a) w o i = M o i := fun o i ho => by rw [pset_ne ho, pset_ne ho]
  have eh : ∀ o i, o ≠ 2 → addD h a b w o i = h o i := fun o i ho => by
    unfold addD; rw [pset_ne ho, pset_ne ho]
  have eR : hR (addD h a b w) = hR h := by unfold hR; rw [eh 0 0 (by decide)]
  have eT : hT (addD h a b w) = hT h := by unfold hT; rw [eh 0 1 (by decide)]
  have eS : hS (addD h a b w) = hS h := by unfold hS; rw [eh 0 2 (by decide)]
  refine ⟨_, rfl, XSt_ne (XSt_ne x (by decide) (by decide)) (by decide) (by decide), ⟨by rw [e 17 9 (by decide), eR]; exact y1, by rw [e 17 10 (by decide), eT]; exact y2, by rw [e 17 11 (by decide), eS]; exact y3, fun r hr => ?_, fun p hp => ?_, fun t ht => ?_, fun s hs => ?_⟩, AGl_set (AGl_set (fun _ _ _ _ => rfl) (by decide) (by decide)) (by decide) (by decide)⟩
  · rw [eR] at hr; rw [e 18 r (by decide), eh 1 r (by decide)]; exact y4 r hr
  · unfold addD
    by_cases q : p = 6 * b + a
    · rw [q, pset_eq, pset_eq]
    · rw [pset_ne2 q, pset_ne2 q]
      by_cases q2 : p = 6 * a + b
      · rw [q2, pset_eq, pset_eq]
      · rw [pset_ne2 q2, pset_ne2 q2]; exact y5 p hp
  · rw [eT] at ht
    rw [e 20 t (by decide), e 21 t (by decide), e 22 t (by decide), e 23 t (by decide), eh 3 t (by decide), eh 4 t (by decide), eh 5 t (by decide), eh 6 t (by decide)]; exact y6 t ht
  · rw [eS] at hs
    unfold me
    rw [e 24 s (by decide), eh 7 s (by decide)]; exact y7 s hs
theorem x_doorT (hD : 3 ≤ D) {s : rgs} (x : XSt tx st M s) (y : YH M h) (hR6 : hR h ≤ 6) {v1 v2 : Int} {a b : Nat} (hv : ∀ c, s = .inr c → v1 = (a : Int) ∧ v2 = (b : Int) ∧ a < hR h ∧ b < hR h ∧ a ≠ b) : ∃ M', (pbN (xF D 137 [.inr 5, .inl 61] M) fun M6 =>
 pbI (xF D 139 [.inr 5, .inl 1, .inl 10] M6) fun v8 M7 =>
 if ¬ eq32 (M7 3 3) (-1) then
 some (none, M7)
 else
 (pbN (xF D 73 [.inr 19, .inl v1, .inl v2, .inl v8] M7) fun M9 =>
 some (none, M9))) = rV M' ∧ XSt tx st M' (sgD tx st 1 9 (sgN tx st 61 s)) ∧ AGl M M' ∧ ∀ c, sgD tx st 1 9 (sgN tx st 61 s) = .inr c → YH M' (addD h a b (sgV tx st 1 9 (sgN tx st 61 s))) := by
  obtain ⟨M1, e1, r1, a1⟩ := x_take (d := D) (by omega) x (c := 61) (by decide) (by decide)
  obtain ⟨w, M2, e2, r2, a2, b2, i2, j2⟩ := x_digit (d := D) (by omega) r1 (lo := 1) (hi := 9) (by decide) (by decide) (by decide) (by decide)
  have e2' : xF D 139 [.inr 5, .inl 1, .inl 10] M1 = rI w M2 := e2
  have A : AGx M M2 := AGx_tr a1 a2
  rw [e1, pbN_rV, e2', pbI_rI]
  generalize hs : sgD tx st 1 9 (sgN tx st 61 s) = s6 at r2 i2 j2 ⊢
  cases s6 with
  | inl p =>
    have h8 := r2.2.2.2.2.2.2.1
    have h9 := r2.2.2.2.2.2.2.2
    rw [h8, if_pos (by rw [eq32_iff] <;> omega)]
    exact ⟨M2, rfl, r2, AGl_x A, fun c hc => (by cases hc)⟩
  | inr c =>
    have h10 := r2.2.2.2.2.2.2.2.2
    obtain ⟨c1, hc1, -⟩ := sgD_inr hs
    obtain ⟨c0, hc0, -⟩ := sgN_inr hc1
    obtain ⟨rfl, rfl, q1, q2, q3⟩ := hv c0 hc0
    obtain ⟨M3, e3, r3, y3, a3⟩ := x_makeDoor (d := D) (by omega) r2 (YH_x y A) hR6 q1 q2 q3 w
    rw [h10, if_neg (fun z => z rfl), e3, pbN_rV]
    have hw := i2 c rfl
    exact ⟨M3, rfl, r3, AGl_tr (AGl_x A) a3, fun _ _ => by rw [← hw]; exact y3⟩
theorem x_doorLine (hd : 4 ≤ d) {a : Nat} (x : XSt tx st M (.inr (a + 1))) (y : YH M h) (hR6 : hR h ≤ 6) : ∃ M', xF d 109 [.inr 6, .inr 19] M = rV M' ∧ XSt tx st M' (sgD tx st 1 9 (d3S tx st (hR h) a)) ∧ AGl M M' ∧ ∀ c, sgD tx st 1 9 (d3S tx st (hR h) a) = .inr c → YH M' (addD h (d1V tx st (hR h) a).toNat (d2V tx st (hR h) a).toNat (d3V tx st (hR h) a)) := by
  obtain ⟨D, rfl, hD⟩ := dsucc hd
  have eR : (hR h : Int) = ((hR h : Int) - 1) + 1 := by omega
  obtain ⟨v1, M1, e1, r1, a1, b1, i1, j1⟩ := x_digit (d := D) (by omega) x (lo := 0) (hi := (hR h : Int) - 1) (by decide) (by decide) (by omega) (by omega)
  rw [← eR] at e1
  obtain ⟨M2, e2, r2, a2⟩ := x_take (d := D) (by omega) r1 (c := 45) (by decide) (by decide)
  have r2 : XSt tx st M2 (d2S tx st (hR h) a) := r2
  obtain ⟨v2, M3, e3, r3, a3, b3, i3, j3⟩ := x_digit (d := D) (by omega) r2 (lo := 0) (hi := (hR h : Int) - 1) (by decide) (by decide) (by omega) (by omega)
  rw [← eR] at e3
  have y2 := YH_x y (AGx_tr a1 a2)
  have y3 := YH_x y2 a3
  have A3 := AGx_tr (AGx_tr a1 a2) a3
  rw [T_HouseReader_doorLine, y.1, e1, pbI_rI, e2, pbN_rV, y2.1, e3, pbI_rI]
  generalize hs : sgD tx st 0 ((hR h : Int) - 1) (d2S tx st (hR h) a) = s3 at r3 i3 j3
  have e6 : d3S tx st (hR h) a = sgN tx st 61 (sgE (d1V tx st (hR h) a) (d2V tx st (hR h) a) s3) := by
    unfold d3S; rw [hs]
  have ed3 : d3V tx st (hR h) a = sgV tx st 1 9 (sgN tx st 61 (sgE (d1V tx st (hR h) a) (d2V tx st (hR h) a) s3)) := by
    unfold d3V; rw [e6]
  -- the told values, when all is good
  have good : ∀ c, s3 = .inr c → v1 = d1V tx st (hR h) a ∧ v2 = d2V tx st (hR h) a ∧ 0 ≤ v1 ∧ v1 < (hR h : Int) ∧ 0 ≤ v2 ∧ v2 < (hR h : Int) ∧ 1 ≤ c ∧ M2 3 1 = ((c - 1 : Nat) : Int) := fun c hc => by
    rw [hc] at hs
    obtain ⟨c1, g1, g2, g3, g4, -⟩ := sgD_inr hs
    have g1' : sgN tx st 45 (sgD tx st 0 ((hR h : Int) - 1) (.inr (a + 1))) = .inr c1 := g1
    obtain ⟨c0, f1, -⟩ := sgN_inr g1'
    obtain ⟨-, -, -, k3, k4, -⟩ := sgD_inr f1
    have q1 := i1 c0 f1
    have q2 := i3 c hc
    have r2' := r2
    rw [g1] at r2'
    have := XSt_at r2'
    refine ⟨q1, q2, ?_, ?_, ?_, ?_, by omega, by rw [this]; omega⟩
    · rw [q1]; exact k3
    · rw [q1]; omega
    · rw [q2]; exact g3
    · rw [q2]; omega
  by_cases q : v1 = v2
  · rw [if_neg (fun z => z (by rw [q]))]
    have fl : ∃ M4, xF D 135 [.inr 5, .inl (M2 3 1)] M3 = rV M4 ∧ XSt tx st M4 (sgE (d1V tx st (hR h) a) (d2V tx st (hR h) a) s3) ∧ AGx M3 M4 ∧ ∀ c, sgE (d1V tx st (hR h) a) (d2V tx st (hR h) a) s3 ≠ .inr c := by
      cases s3 with
      | inl p =>
        rw [x_failB (by omega) r3]
        exact ⟨M3, rfl, r3, AGx_rfl, fun c hc => (by cases hc)⟩
      | inr c =>
        obtain ⟨g1, g2, -, -, -, -, g5, g6⟩ := good c rfl
        have hcs := r3.2.2.2.2.2.2.2.1
        have hst := r3.2.1
        obtain ⟨e, r⟩ := x_failG (d := D) (by omega) r3 (p := c - 1) (by omega)
        have es : sgE (d1V tx st (hR h) a) (d2V tx st (hR h) a) (.inr c) = .inl (c - 1) := if_pos (by rw [← g1, ← g2]; exact q)
        rw [g6, e, es]
        exact ⟨_, rfl, r, AGx_set AGx_rfl (Or.inr rfl), fun c hc => (by cases hc)⟩
    obtain ⟨M4, e4, r4, a4, n4⟩ := fl
    obtain ⟨M', t1, t2, t3, t4⟩ := x_doorT (D := D) (by omega) r4 (YH_x y3 a4) hR6 (v1 := v1) (v2 := v2) (a := (d1V tx st (hR h) a).toNat) (b := (d2V tx st (hR h) a).toNat) (fun c hc => absurd hc (n4 c))
    rw [e4, pbN_rV, t1, e6, ed3]
    exact ⟨M', rfl, t2, AGl_tr (AGl_x (AGx_tr A3 a4)) t3, t4⟩
  · rw [if_pos (by rw [eq32_iff] <;> omega)]
    have es : sgE (d1V tx st (hR h) a) (d2V tx st (hR h) a) s3 = s3 := by
      cases s3 with
      | inl p => rfl
      | inr c =>
        obtain ⟨g1, g2, -⟩ := good c rfl
        exact if_neg (by rw [← g1, ← g2]; exact q)
    rw [es] at e6 ed3
    obtain ⟨M', t1, t2, t3, t4⟩ := x_doorT (D := D) (by omega) r3 y3 hR6 (v1 := v1) (v2 := v2) (a := (d1V tx st (hR h) a).toNat) (b := (d2V tx st (hR h) a).toNat) (fun c hc => by
      obtain ⟨g1, g2, g3, g4, g5, g6, -⟩ := good c hc
      refine ⟨?_, ?_, ?_, ?_, ?_⟩ <;> omega)
    rw [t1, e6, ed3]
    exact ⟨M', rfl, t2, AGl_tr (AGl_x A3) t3, t4⟩
theorem x_thingLine (hd : 5 ≤ d) {s : rgs} (x : XSt tx st M s) (y : YH M h) (hR6 : hR h ≤ 6) (hT10 : hT h < 10) : ∃ M', xF d 110 [.inr 6, .inr 19] M = rV M' ∧ XSt tx st M' (sgT tx st (hR h) s) ∧ AGl M M' ∧ ∀ c, sgT tx st (hR h) s = .inr c → YH M' (addT h (sgIv tx st s) (tvW tx st s) (tvG tx st s) (tvR tx st (hR h) s)) := by
  obtain ⟨D, rfl, hD⟩ := dsucc hd
  have eR : (hR h : Int) = ((hR h : Int) - 1) + 1 := by omega
  obtain ⟨v1, M1, e1, r1, a1, b1, i1⟩ := x_inches (d := D) (by omega) x
  obtain ⟨M2, e2, r2, a2⟩ := x_take (d := D) (by omega) r1 (c := 44) (by decide) (by decide)
  obtain ⟨v3, M3, e3, r3, a3, b3, i3, j3⟩ := x_digit (d := D) (by omega) r2 (lo := 1) (hi := 9) (by decide) (by decide) (by decide) (by decide)
  obtain ⟨M4, e4, r4, a4⟩ := x_take (d := D) (by omega) r3 (c := 44) (by decide) (by decide)
  obtain ⟨v5, M5, e5, r5, a5, b5, i5, j5⟩ := x_digit (d := D) (by omega) r4 (lo := 1) (hi := 9) (by decide) (by decide) (by decide) (by decide)
  obtain ⟨M6, e6, r6, a6⟩ := x_take (d := D) (by omega) r5 (c := 64) (by decide) (by decide)
  obtain ⟨v7, M7, e7, r7, a7, b7, i7, j7⟩ := x_digit (d := D) (by omega) r6 (lo := 0) (hi := (hR h : Int) - 1) (by decide) (by decide) (by omega) (by omega)
  have e3' : xF D 139 [.inr 5, .inl 1, .inl 10] M2 = rI v3 M3 := e3
  have e5' : xF D 139 [.inr 5, .inl 1, .inl 10] M4 = rI v5 M5 := e5
  rw [← eR] at e7
  have A6 : AGx M M6 := AGx_tr (AGx_tr (AGx_tr (AGx_tr (AGx_tr a1 a2) a3) a4) a5) a6
  have A7 := AGx_tr A6 a7
  have r7 : XSt tx st M7 (sgT tx st (hR h) s) := r7
  rw [T_HouseReader_thingLine, e1, pbI_rI, e2, pbN_rV, e3', pbI_rI, e4, pbN_rV, e5', pbI_rI, e6, pbN_rV, (YH_x y A6).1, e7, pbI_rI]
  cases hs : sgT tx st (hR h) s with
  | inl p =>
    rw [hs] at r7
    have h8 := r7.2.2.2.2.2.2.1
    have h9 := r7.2.2.2.2.2.2.2
    rw [h8, if_pos (by rw [eq32_iff] <;> omega)]
    exact ⟨M7, rfl, r7, AGl_x A7, fun c hc => (by cases hc)⟩
  | inr c =>
    have q7 := i7 c hs
    obtain ⟨c6, k6, -⟩ := sgD_inr (show sgD tx st 0 ((hR h : Int) - 1) _ = .inr c from hs)
    obtain ⟨c5, k5, -⟩ := sgN_inr k6
    have q5 := i5 c5 k5
    obtain ⟨c4, k4, -⟩ := sgD_inr k5
    obtain ⟨c3, k3, -⟩ := sgN_inr k4
    have q3 := i3 c3 k3
    obtain ⟨c2, k2, -⟩ := sgD_inr k3
    obtain ⟨c1, k1, -⟩ := sgN_inr k2
    have q1 := i1 c1 k1
    rw [hs] at r7
    have h10 := r7.2.2.2.2.2.2.2.2
    obtain ⟨M8, e8, r8, y8, a8⟩ := x_addThing (d := D) (by omega) r7 (YH_x y A7) hT10 v1 v3 v5 v7
    rw [h10, if_neg (fun z => z rfl), e8, pbN_rV]
    refine ⟨M8, rfl, r8, AGl_tr (AGl_x A7) a8, fun _ _ => ?_⟩
    rw [q1, q3, q5, q7] at y8
    exact y8
end XD
