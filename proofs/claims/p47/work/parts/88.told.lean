/-! count: what it answers, on both sides -/
section CNT
variable {D d : Nat} {M M' M1 M2 G h : pM} {w1 : List (Nat × Nat)} {v y : Int}
/-- doors -/
def drs (h : pM) : Int := sumTo (fun a => (popc (nxt h 1 a) : Int)) (hR h)
theorem c_doors (hd : 5 ≤ d) (W : WF h) (X : XH M h) : xF d 75 [.inr 9] M = rI (drs h / 2) M := by
  obtain ⟨D, rfl, hD⟩ := dsucc hd
  have w1 := W.1
  rw [T_House_doors]
  have key := sum_loop (fun s k => xE D 75 4 [.inr 9, .inl s, .inl k] [] M) (hR h) (fun a => (popc (nxt h 1 a) : Int)) (fun k s hk => by
    rw [L_House_doors_4, X.1, if_neg (by rw [le32_iff] <;> omega), c_nextTo hD W X (by omega) (by decide) (by decide), pbI_rI, j_bitCount (by omega) (nxt_1024 W 1 k), pbI_rI])
  have hs := sumTo_range (f := fun a => (popc (nxt h 1 a) : Int)) (lo := 0) (hi := 10) (n := hR h) (fun i _ => ⟨by omega, by have := popc_le (nxt h 1 i); omega⟩)
  rw [key, L_House_doors_4, X.1, if_pos (by rw [le32_iff] <;> omega)]
  have e : jdiv (sumTo (fun a => (popc (nxt h 1 a) : Int)) (hR h)) 2 = drs h / 2 := by
    obtain ⟨n, hn⟩ := Int.eq_ofNat_of_zero_le (a := sumTo (fun a => (popc (nxt h 1 a) : Int)) (hR h)) (by omega)
    unfold drs
    rw [hn]
    exact jdiv_nat (by omega) (by decide) (by decide)
  rw [e]
theorem cnt_n8 {c : Nat → Bool} : ∀ n, (∀ b, b < n → c b = false) → cntTo c n = 0
  | 0, _ => rfl
  | n + 1, hc => by
    have e : cntTo c (n + 1) = if c n then cntTo c n + 1 else cntTo c n := rfl
    rw [e, hc n (Nat.lt_succ_self n), if_neg (by decide)]
    exact cnt_n8 n (fun b hb => hc b (by omega))
theorem cnt_g8 {c c' : Nat → Bool} : ∀ n, (∀ b, b < n → c b = c' b) → cntTo c n = cntTo c' n
  | 0, _ => rfl
  | n + 1, hc => by
    have e : cntTo c (n + 1) = if c n then cntTo c n + 1 else cntTo c n := rfl
    have e' : cntTo c' (n + 1) = if c' n then cntTo c' n + 1 else cntTo c' n := rfl
    rw [e, e', hc n (Nat.lt_succ_self n), cnt_g8 n (fun b hb => hc b (by omega))]
theorem cnt_s8 (c : Nat → Bool) (n : Nat) : ((cntTo c (n + 1) : Nat) : Int) = ((cntTo c n : Nat) : Int) + (if c n = true then (1 : Int) else 0) := by
  have e : cntTo c (n + 1) = if c n then cntTo c n + 1 else cntTo c n := rfl
  rw [e]
  cases hc : c n with
  | true => rw [if_pos rfl, if_pos rfl]; omega
  | false => rw [if_neg (by decide), if_neg (by decide)]; omega
theorem sum_i8 (c : Nat → Bool) : ∀ n, sumTo (fun a => if c a = true then (1 : Int) else 0) n = ((cntTo c n : Nat) : Int)
  | 0 => rfl
  | n + 1 => by
    rw [cnt_s8, ← sum_i8 c n]
    rfl
theorem cnt_c8 {f g : Nat → Bool} {n : Nat} (e : ∀ i, f i = (decide (i < n) && g i)) : ∀ k, cntTo f (n + k) = cntTo g n
  | 0 => cnt_g8 n (fun b hb => by rw [e, decide_eq_true hb, Bool.true_and])
  | k + 1 => by
    have r : cntTo f (n + (k + 1)) = if f (n + k) then cntTo f (n + k) + 1 else cntTo f (n + k) := rfl
    rw [r, e, decide_eq_false (show ¬ n + k < n by omega), Bool.false_and, if_neg (by decide)]
    exact cnt_c8 e k
theorem cnt_h8 (f : Nat → Bool) (a : Nat) : ∀ m, cntTo (fun i => f (a + i)) m = cntTo (fun b => decide (a ≤ b) && f b) (a + m)
  | 0 => (cnt_n8 a (fun b hb => by rw [decide_eq_false (show ¬ a ≤ b by omega), Bool.false_and])).symm
  | m + 1 => by
    have r : cntTo (fun i => f (a + i)) (m + 1) = if f (a + m) then cntTo (fun i => f (a + i)) m + 1 else cntTo (fun i => f (a + i)) m := rfl
    have r' : cntTo (fun b => decide (a ≤ b) && f b) (a + (m + 1)) = if (decide (a ≤ a + m) && f (a + m)) then cntTo (fun b => decide (a ≤ b) && f b) (a + m) + 1 else cntTo (fun b => decide (a ≤ b) && f b) (a + m) := rfl
    rw [r, r', decide_eq_true (show a ≤ a + m by omega), Bool.true_and, cnt_h8 f a m]
def adB (G : pM) (a b : Nat) : Bool := decide (1 ≤ G 2 (6 * a + b))
theorem drs_B (W : WF G) : ∀ n, n ≤ hR G → sumTo (fun a => ((cntTo (adB G a) n : Nat) : Int)) n = 2 * sumTo (fun a => ((cntTo (fun b => decide (a ≤ b) && adB G a b) n : Nat) : Int)) n
  | 0, _ => rfl
  | n + 1, hn => by
    have w1 := W.1
    have ih := drs_B W n (by omega)
    have nn : adB G n n = false := decide_eq_false (by rw [W.2.2.2.2.2.2.1 n n (by omega) (by omega) (Or.inr (Or.inr rfl))]; decide)
    have sy : cntTo (adB G n) n = cntTo (fun a => adB G a n) n := cnt_g8 n (fun a ha => by
      unfold adB
      rw [W.2.2.2.2.2.1 n a (by omega) (by omega)])
    have a1 : sumTo (fun a => ((cntTo (adB G a) (n + 1) : Nat) : Int)) n = sumTo (fun a => ((cntTo (adB G a) n : Nat) : Int)) n + ((cntTo (fun a => adB G a n) n : Nat) : Int) := by
      rw [← sum_i8, ← sumTo_add]
      exact sumTo_congr fun a ha => cnt_s8 (adB G a) n
    have a2 : sumTo (fun a => ((cntTo (fun b => decide (a ≤ b) && adB G a b) (n + 1) : Nat) : Int)) n = sumTo (fun a => ((cntTo (fun b => decide (a ≤ b) && adB G a b) n : Nat) : Int)) n + ((cntTo (fun a => adB G a n) n : Nat) : Int) := by
      rw [← sum_i8, ← sumTo_add]
      refine sumTo_congr fun a ha => ?_
      have e := cnt_s8 (fun b => decide (a ≤ b) && adB G a b) n
      rw [decide_eq_true (show a ≤ n by omega), Bool.true_and] at e
      exact e
    have b1 : cntTo (adB G n) (n + 1) = cntTo (fun a => adB G a n) n := by
      have e : cntTo (adB G n) (n + 1) = if adB G n n then cntTo (adB G n) n + 1 else cntTo (adB G n) n := rfl
      rw [e, nn, if_neg (by decide), sy]
    have b2 : cntTo (fun b => decide (n ≤ b) && adB G n b) (n + 1) = 0 := cnt_n8 (n + 1) (fun b hb => by
      by_cases q : b = n
      · rw [q, nn, Bool.and_false]
      · rw [decide_eq_false (show ¬ n ≤ b by omega), Bool.false_and])
    show sumTo (fun a => ((cntTo (adB G a) (n + 1) : Nat) : Int)) n + ((cntTo (adB G n) (n + 1) : Nat) : Int) = 2 * (sumTo (fun a => ((cntTo (fun b => decide (a ≤ b) && adB G a b) (n + 1) : Nat) : Int)) n + ((cntTo (fun b => decide (n ≤ b) && adB G n b) (n + 1) : Nat) : Int))
    rw [a1, a2, b1, b2, ih]
    generalize sumTo (fun a => ((cntTo (fun b => decide (a ≤ b) && adB G a b) n : Nat) : Int)) n = s
    generalize cntTo (fun a => adB G a n) n = c
    omega
theorem nxt_b8 (a i : Nat) : (nxt G 1 a).testBit i = (decide (i < hR G) && adB G a i) := bitsOf_bit _ _ _
theorem drs_p1 (W : WF G) (a : Nat) : popc (nxt G 1 a) = cntTo (adB G a) (hR G) := by
  have w1 := W.1
  have e := cnt_c8 (f := (nxt G 1 a).testBit) (g := adB G a) (n := hR G) (nxt_b8 a) (10 - hR G)
  rw [show hR G + (10 - hR G) = 10 by omega] at e
  exact e
theorem drs_p2 (W : WF G) {a : Nat} (ha : a < hR G) : popc (nxt G 1 a >>> a) = cntTo (fun b => decide (a ≤ b) && adB G a b) (hR G) := by
  have w1 := W.1
  have e0 : popc (nxt G 1 a >>> a) = cntTo (fun i => (nxt G 1 a).testBit (a + i)) 10 := cnt_g8 10 (fun i _ => Nat.testBit_shiftRight ..)
  have e1 := cnt_h8 (nxt G 1 a).testBit a 10
  have e2 := cnt_c8 (f := fun b => decide (a ≤ b) && (nxt G 1 a).testBit b) (g := fun b => decide (a ≤ b) && adB G a b) (n := hR G) (fun i => by
    rw [nxt_b8, Bool.and_left_comm]) (a + 10 - hR G)
  rw [show hR G + (a + 10 - hR G) = a + 10 by omega] at e2
  rw [e0, e1, e2]
/-- doors, told once each -/
def dr2 (G : pM) : Int := sumTo (fun a => ((popc (nxt G 1 a >>> a) : Nat) : Int)) (hR G)
theorem drs_2 (W : WF G) : drs G / 2 = dr2 G := by
  have e := drs_B W (hR G) (Nat.le_refl _)
  have e1 : drs G = sumTo (fun a => ((cntTo (adB G a) (hR G) : Nat) : Int)) (hR G) := sumTo_congr fun a _ => by rw [drs_p1 W a]
  have e2 : dr2 G = sumTo (fun a => ((cntTo (fun b => decide (a ≤ b) && adB G a b) (hR G) : Nat) : Int)) (hR G) := sumTo_congr fun a ha => by rw [drs_p2 W ha]
  rw [e1, e2, e]
  generalize sumTo (fun a => ((cntTo (fun b => decide (a ≤ b) && adB G a b) (hR G) : Nat) : Int)) (hR G) = s
  omega
theorem m_ct18 (hD : 1 ≤ D) (W : WF G) (X : MG M G) (x1 : Int) : ∀ m k, k + m = hR G → xE D 268 18 [.inr 62, .inl x1, .inl (sumTo (fun a => ((popc (nxt G 1 a >>> a) : Nat) : Int)) k), .inl (k : Int)] [] M = rI (dr2 G) M
  | 0, k, hk => by
    have w1 := W.1
    rw [L_M_count_18, X.1.1, if_pos (by rw [le32_iff] <;> omega), show k = hR G by omega]
    rfl
  | m + 1, k, hk => by
    have w1 := W.1
    have b := nxt_1024 W 1 k
    have b2 := Nat.shiftRight_le (nxt G 1 k) k
    rw [L_M_count_18, X.1.1, if_neg (by rw [le32_iff] <;> omega), m_bes hD W X (by omega), pbI_rI, jshr_nat (by omega) (by omega), j_bitCount hD (by omega), pbI_rI, show ((k : Int) + 1) = ((k + 1 : Nat) : Int) by omega]
    exact m_ct18 hD W X x1 m (k + 1) (by omega)
theorem kc_count (R : RI0 M) (C : CI M) (T : TI M) (Q : M 5 1 = M 60 16) {a1 : Int} (h1 : -2147483648 ≤ a1 ∧ a1 ≤ 2147483647) (e1 : xF 1000 45 [.inr 2, .inl a1] M = rI v M1) (f1 : Fr w1 M M1) (k1 : okW cm cmo w1 = true) (k5 : wOK w1 60 14 = false) (k6 : wOK w1 60 16 = false) (e2 : xF 1000 268 [.inr 62, .inl a1] M1 = rI y M2) : v = y := by
  obtain ⟨G, X, Y⟩ := C
  obtain ⟨W, -⟩ := ci_facts R X Y
  have w1 := W.1
  have w2 := W.2.1
  have Y1 := MG_thr (MG_Fr f1 k1 Y)
  have t1 : xF (999 + 1) 45 [.inr 2, .inl a1] M = rI v M1 := e1
  have t2 : xF (999 + 1) 268 [.inr 62, .inl a1] M1 = rI y M2 := e2
  rw [T_X_count] at t1
  rw [T_M_count] at t2
  have n16 : pset M1 60 17 0 60 16 = M 60 16 := by rw [pset_ne2 (by decide)]; exact f1 60 16 k6
  have n14 : pset M1 60 17 0 60 14 = M 60 14 := by rw [pset_ne2 (by decide)]; exact f1 60 14 k5
  generalize pset M1 60 17 0 = N at Y1 t2 n16 n14
  by_cases q0 : a1 = 0
  · rw [if_pos (by rw [q0])] at t1 t2
    rw [← (rI_inj t1).1, ← (rI_inj t2).1, X.1.1, Y1.1.1]
  rw [if_neg (by rw [eq32_iff] <;> omega)] at t1 t2
  by_cases q1 : a1 = 1
  · rw [if_pos (by rw [q1])] at t1 t2
    rw [← (rI_inj t1).1, ← (rI_inj t2).1, X.1.2.1, Y1.1.2.1]
  rw [if_neg (by rw [eq32_iff] <;> omega)] at t1 t2
  by_cases q2 : a1 = 2
  · rw [if_pos (by rw [q2])] at t1 t2
    rw [← (rI_inj t1).1, ← (rI_inj t2).1, X.1.2.2.1, Y1.1.2.2.1]
  rw [if_neg (by rw [eq32_iff] <;> omega)] at t1 t2
  by_cases q3 : a1 = 3
  · rw [if_pos (by rw [q3]), c_doors (by omega) W X.1, pbI_rI] at t1
    have z : xE 999 268 18 [.inr 62, .inl a1, .inl 0, .inl 0] [] N = rI (dr2 G) N := m_ct18 (D := 999) (by decide) W Y1 a1 (hR G) 0 (by omega)
    rw [if_pos (by rw [q3]), z] at t2
    rw [← (rI_inj t1).1, ← (rI_inj t2).1, drs_2 W]
  rw [if_neg (by rw [eq32_iff] <;> omega)] at t1 t2
  by_cases q4 : a1 = 4
  · rw [if_pos (by rw [q4])] at t1 t2
    rw [← (rI_inj t1).1, ← (rI_inj t2).1, X.2.1.1, Y1.2.1.1]
  rw [if_neg (by rw [eq32_iff] <;> omega)] at t1 t2
  by_cases q5 : a1 = 5
  · rw [if_pos (by rw [q5])] at t1 t2
    rw [← (rI_inj t1).1, ← (rI_inj t2).1, X.2.1.2.1, Y1.2.1.2.1]
  rw [if_neg (by rw [eq32_iff] <;> omega)] at t1 t2
  have e66 : ∀ t, t < hT G → N 66 t = G 6 t := fun t ht => (Y1.1.2.2.2.2.2.1 t ht).2.2.2
  by_cases q6 : a1 = 6
  · rw [if_pos (by rw [q6]), c_parted_13 (by omega) W X.1 (PL13 W X), pbI_rI] at t1
    rw [if_pos (by rw [q6]), m_parted_66 (by omega) (MH_fc W Y1.1), pbI_rI, ptd_same W (hp66 W Y1), ptd_cg e66] at t2
    rw [← (rI_inj t1).1, ← (rI_inj t2).1]
  rw [if_neg (by rw [eq32_iff] <;> omega)] at t1 t2
  by_cases q7 : a1 = 7
  · rw [if_pos (by rw [q7]), c_overfull_13 (by omega) W X.1 (PL13 W X), pbI_rI] at t1
    rw [if_pos (by rw [q7]), m_full_66 (by omega) Y1.1.2.1 w2 Y1.1.1 w1, pbI_rI, ovf_same W Y1.1 (hp66 W Y1), ovf_cg e66] at t2
    rw [← (rI_inj t1).1, ← (rI_inj t2).1]
  rw [if_neg (by rw [eq32_iff] <;> omega)] at t1 t2
  by_cases q8 : a1 = 8
  · rw [if_pos (by rw [q8])] at t1 t2
    rw [← (rI_inj t1).1, ← (rI_inj t2).1, X.2.2.1.1, Y1.2.2.1.1]
  rw [if_neg (by rw [eq32_iff] <;> omega)] at t1 t2
  by_cases q9 : a1 = 9
  · rw [if_pos (by rw [q9])] at t1 t2
    rw [← (rI_inj t1).1, ← (rI_inj t2).1, n16, Q]
  rw [if_neg (by rw [eq32_iff] <;> omega)] at t1 t2
  by_cases q10 : a1 = 10
  · rw [if_pos (by rw [q10])] at t1 t2
    rw [← (rI_inj t1).1, ← (rI_inj t2).1, n14, T.1]
  rw [if_neg (by rw [eq32_iff] <;> omega)] at t1 t2
  by_cases q11 : a1 = 11
  · rw [if_pos (by rw [q11])] at t1 t2
    rw [← (rI_inj t1).1, ← (rI_inj t2).1, X.2.1.2.2, Y1.2.1.2.2]
  rw [if_neg (by rw [eq32_iff] <;> omega)] at t1 t2
  rw [← (rI_inj t1).1, ← (rI_inj t2).1]
end CNT
/-! how many numbers are told: what is told by a call that tells none (by program, out of 81 to 86) -/
section RWA
variable {D d R n : Nat} {M M' M1 M2 N G h : pM} {p : Nat → Int} {w1 w2 : List (Nat × Nat)} {v y w : Int} {sz bk : Nat → Int} {fine : Nat → Bool} {val : Nat → Int} {tx : Nat → Int} {L : Nat}
theorem x_near1n (hD : 3 ≤ D) (W : WF G) (B : WB0 (hR G) (nC G) sz (bkG G)) (X : XH N G) (C : CL N G) (K : WK N (hR G) (nC G) sz (bkG G)) (F : WF0 N (hR G) (nC G)) (t0 : ∀ i, i < 60 → N 37 i = 0) (x1 x2 : Int) (y4 y5 : pV) (e : xE (D + 1) 59 15 [.inr 2, .inl x1, .inl x2, .inl ((0 : Nat) : Int), y4, y5] [] N = rI v M') : v < 0 → M' 5 1 = N 5 1 := by
  have w1 := W.1
  have w2 := W.2.1
  obtain ⟨y4', y5', N2, e1, t2, f2⟩ := x_nr15 hD W x1 x2 (hT G) 0 y4 y5 N (by omega) X C (fun i hi => by rw [t0 i hi]; rfl)
  rw [e1] at e
  have K2 : WK N2 (hR G) (nC G) sz (bkG G) := by
    obtain ⟨k1, k2, k3, k4⟩ := K
    exact ⟨by rw [f2 32 6 (by decide)]; exact k1, by rw [f2 32 7 (by decide)]; exact k2, fun r hr => by rw [f2 33 r (by decide)]; exact k3 r hr, fun j hj => by rw [f2 35 j (by decide)]; exact k4 j hj⟩
  have F2 : WF0 N2 (hR G) (nC G) := by
    obtain ⟨k1, k2, k3, k4⟩ := F
    exact ⟨by rw [f2 32 8 (by decide)]; exact k1, by rw [f2 32 9 (by decide)]; exact k2, fun j hj => by rw [f2 36 j (by decide)]; exact k3 j hj, fun r hr => by rw [f2 34 r (by decide)]; exact k4 r hr⟩
  have X2 := XH_hi (fun o i ho => f2 o i (by omega)) X
  have C2 := CL_hi (fun o i ho => f2 o i (by omega)) C
  have hv : ∀ c, -100000000 ≤ svT (hR G) (nC G) (tbN G (hT G)) c ∧ svT (hR G) (nC G) (tbN G (hT G)) c ≤ 100000000 := fun c => by
    have := (nr_val W c).2.2
    omega
  obtain ⟨N3, c1, c2, c3⟩ := x_choose (d := D + 1) (by omega) B hv K2 F2 t2
  obtain ⟨c21, c22⟩ := c2
  obtain ⟨i1, i2⟩ := chF_max (fine := fnW (hR G) (nC G) sz (bkG G)) (val := svT (hR G) (nC G) (tbN G (hT G))) (hR G ^ nC G)
  rw [L_X_nearest_15, X2.2.1, if_pos (by rw [le32_iff] <;> omega), c1, pbI_rI] at e
  by_cases z : (chF (fnW (hR G) (nC G) sz (bkG G)) (svT (hR G) (nC G) (tbN G (hT G))) (hR G ^ nC G)).1 = 0
  · rw [if_pos z, if_pos (by decide)] at e
    intro _
    rw [← (rI_inj e).2, c3 5 1 (by omega) (by omega) (by omega) (by omega), f2 5 1 (by decide)]
  · obtain ⟨⟨c0, d1, d2, d3⟩, i4⟩ := i2 z
    have v10 := (c22 z).1
    have rg := (nr_val W c0).2.2
    rw [d3] at rg
    rw [if_neg z, if_neg (by decide), v10] at e
    by_cases z2 : (chF (fnW (hR G) (nC G) sz (bkG G)) (svT (hR G) (nC G) (tbN G (hT G))) (hR G ^ nC G)).2.1 ≤ -1000000
    · rw [if_neg (by rw [lt32_iff] <;> omega)] at e
      intro _
      rw [← (rI_inj e).2, c3 5 1 (by omega) (by omega) (by omega) (by omega), f2 5 1 (by decide)]
    · have lo3 : ∀ o i, o < 32 → N3 o i = N2 o i := fun o i ho => c3 o i (by omega) (by omega) (by omega) (by omega)
      have X3 : XH (pset N3 5 1 0) G := XH_eq X2 (fun o i o1 o2 _ => by rw [pset_ne (by omega), lo3 o i (by omega)])
      have C3 : CL (pset N3 5 1 0) G := by
        obtain ⟨b1, b2, b3⟩ := C2
        exact ⟨by rw [pset_ne (by decide), lo3 7 12 (by decide)]; exact b1, fun i hi => by rw [pset_ne (by decide), lo3 15 i (by decide)]; exact b2 i hi, fun t ht => by rw [pset_ne (by decide), lo3 16 t (by decide)]; exact b3 t ht⟩
      obtain ⟨N4, u1, u2⟩ := x_tellChosen (d := D + 1) (s := 0) (by omega) W X3 C3 pset_eq (by decide)
      rw [if_pos (by rw [lt32_iff] <;> omega), T_Numbers_start, pbN_rV, u1, pbN_rV, u2 32 10 (by decide) (by decide), pset_ne (by decide), v10] at e
      have e0 := (rI_inj e).1
      intro hv
      omega
theorem x_nearestn (hd : 5 ≤ d) (W : WF G) (q : ¬ tmG G) (X : XH M G) (C : CL M G) {b f : Int} (hb : b = -1 ∨ (0 ≤ b ∧ b < hR G)) (hf : 0 ≤ f ∧ f ≤ 99) (e : xF d 59 [.inr 2, .inl b, .inl f] M = rI v M') : v < 0 → M' 5 1 = M 5 1 := by
  obtain ⟨D, rfl, hD⟩ := dsucc hd
  obtain ⟨D', rfl, hD'⟩ := dsucc (show 1 ≤ D by omega)
  have w1 := W.1
  have B := WB_G W q
  obtain ⟨N1, s1, s2, s3, s4, s5⟩ := x_startG (d := D' + 1) (by omega) W X C
  obtain ⟨v4, M3, z1, z2⟩ := pbI_inv s1
  rw [T_X_nearest, z1, pbI_rI, z2, pbN_rV, T_Walk_lessen, s2.1] at e
  rcases hb with rfl | hb
  · rw [if_pos (by decide), pbN_rV, show (.inl 0 : pV) = .inl ((0 : Nat) : Int) from rfl] at e
    intro hv
    rw [x_near1n (by omega) W B (XH_hi (fun o i ho => s5 o i (by omega)) X) (CL_hi (fun o i ho => s5 o i (by omega)) C) s2 s3 s4 _ _ _ _ e hv, s5 5 1 (by omega)]
  · obtain ⟨b, rfl⟩ := natI hb.1
    have hb : b < hR G := by omega
    have sb := W.2.2.2.1 b hb
    have k33 : N1 33 b = G 1 b := s2.2.2.1 b hb
    have lo1 : ∀ o i, o < 32 → pset N1 33 b (G 1 b - f) o i = M o i := fun o i ho => by rw [pset_ne (by omega), s5 o i (by omega)]
    rw [if_neg (by rw [lt32_iff] <;> omega), if_neg (by rw [le32_iff] <;> omega), if_pos (by omega), if_pos (by omega), Int.toNat_natCast, k33, pbN_rV, show (.inl 0 : pV) = .inl ((0 : Nat) : Int) from rfl] at e
    have K2 : WK (pset N1 33 b (G 1 b - f)) (hR G) (nC G) (szB G b (-f)) (bkG G) := by
      obtain ⟨k1, k2, k3, k4⟩ := s2
      refine ⟨by rw [pset_ne (by decide)]; exact k1, by rw [pset_ne (by decide)]; exact k2, fun r hr => ?_, fun j hj => by rw [pset_ne (by decide)]; exact k4 j hj⟩
      unfold szB
      by_cases z : r = b
      · rw [z, pset_eq, if_pos rfl]; omega
      · rw [pset_ne2 z, if_neg z]; exact k3 r hr
    have F2 : WF0 (pset N1 33 b (G 1 b - f)) (hR G) (nC G) := by
      obtain ⟨k1, k2, k3, k4⟩ := s3
      exact ⟨by rw [pset_ne (by decide)]; exact k1, by rw [pset_ne (by decide)]; exact k2, fun j hj => by rw [pset_ne (by decide)]; exact k3 j hj, fun r hr => by rw [pset_ne (by decide)]; exact k4 r hr⟩
    have B2 : WB0 (hR G) (nC G) (szB G b (-f)) (bkG G) := by
      obtain ⟨b1, b2, b3, b4, b5, b6⟩ := B
      refine ⟨b1, b2, b3, fun r hr => ?_, b5, b6⟩
      have := W.2.2.2.1 r hr
      unfold szB
      split <;> omega
    intro hv
    have := x_near1n (by omega) W B2 (XH_hi lo1 X) (CL_hi lo1 C) K2 F2 (fun i hi => by rw [pset_ne (by decide)]; exact s4 i hi) _ _ _ _ e
    rw [this hv, lo1 5 1 (by decide)]
theorem x_nrU (W : WF G) (X : XH M G) (C : CL M G) {b f : Int} (hb : b = -1 ∨ (0 ≤ b ∧ b < hR G)) (hf : 0 ≤ f ∧ f ≤ 99) (e1 : (pbI (xF (998 + 1) 92 [.inr 9] M) fun v2 M1 => if eq32 v2 0 then (pbI (xF (998 + 1) 59 [.inr 2, .inl b, .inl f] M1) fun v4 M3 => some (some (.inl v4), M3)) else some (some (.inl (-3)), M1)) = rI v M1) (hv : v < 0) : M1 5 1 = M 5 1 := by
  obtain ⟨qx1, qx2⟩ := x_tooMany (d := 998 + 1) (by omega) W X C
  rcases Classical.em (tmG G) with q | q
  · rw [qx1 q, pbI_rI, if_neg (by decide)] at e1
    rw [← (rI_inj e1).2]
  · rw [qx2 q, pbI_rI, if_pos (by decide)] at e1
    obtain ⟨v4, M3, z1, z2⟩ := pbI_inv e1
    obtain ⟨y1, y2⟩ := rI_inj z2
    rw [← y2]
    exact x_nearestn (d := 998 + 1) (by omega) W q X C hb hf z1 (by omega)
theorem xu_near (W : WF G) (X : XG M G) (C : CL M G) (e1 : xF 1000 24 [.inr 2] M = rI v M1) (hv : v < 0) : M1 5 1 = M 5 1 := by
  have t1 : xF (998 + 1 + 1) 24 [.inr 2] M = rI v M1 := e1
  rw [T_X_near] at t1
  exact x_nrU W X.1 C (Or.inl rfl) (by omega) t1 hv
theorem xu_guest (W : WF G) (X : XG M G) (C : CL M G) {a1 a2 : Int} (h1 : -2147483648 ≤ a1 ∧ a1 ≤ 2147483647) (h2 : -2147483648 ≤ a2 ∧ a2 ≤ 2147483647) (e1 : xF 1000 25 [.inr 2, .inl a1, .inl a2] M = rI v M1) (hv : v < 0) : M1 5 1 = M 5 1 := by
  have t1 : xF (998 + 1 + 1) 25 [.inr 2, .inl a1, .inl a2] M = rI v M1 := e1
  rw [T_X_guest, c_isRoom7 (by omega) W X.1 (by omega) (by omega), pbI_rI, ite01p] at t1
  by_cases q1 : 0 ≤ a1 ∧ a1 < (hR G : Int)
  · rw [if_pos q1] at t1
    by_cases q2 : 0 ≤ a2 ∧ a2 ≤ 99
    · rw [if_neg (by rw [lt32_iff] <;> omega), if_pos (by rw [le32_iff] <;> omega)] at t1
      exact x_nrU W X.1 C (Or.inr q1) q2 t1 hv
    · by_cases q3 : a2 < 0
      · rw [if_pos (by rw [lt32_iff] <;> omega)] at t1
        rw [← (rI_inj t1).2]
      · rw [if_neg (by rw [lt32_iff] <;> omega), if_neg (by rw [le32_iff] <;> omega)] at t1
        rw [← (rI_inj t1).2]
  · rw [if_neg q1] at t1
    rw [← (rI_inj t1).2]
theorem x_tch2n (hD : 1 ≤ D) (W : WF G) : ∀ (m k s : Nat) (M : pM), k + m = hT G → XH M G → CL M G → M 5 1 = (s : Int) → s + m ≤ 12 → ∃ M', xE D 58 2 [.inr 2, .inl (k : Int)] [] M = rV M' ∧ M' 5 1 = ((s + m : Nat) : Int) ∧ ∀ o i, o ≠ 5 → o ≠ 6 → M' o i = M o i
  | 0, k, s, M, hk, X, C, h5, hs => by
    have w2 := W.2.1
    rw [L_X_tellChosen_2, X.2.1, if_pos (by rw [le32_iff] <;> omega)]
    exact ⟨M, rfl, h5, fun _ _ _ _ => rfl⟩
  | m + 1, k, s, M, hk, X, C, h5, hs => by
    have w2 := W.2.1
    have n10 := nC_le W
    have ow := (oOf_in W (show k < hT G by omega)).1
    obtain ⟨N, u1, u2, u3⟩ := x_tell (d := D) (M := M) (n := s) hD (by omega) h5 (M 38 (oOf G k))
    obtain ⟨M', e, g, f⟩ := x_tch2n hD W m (k + 1) (s + 1) N (by omega) (XH_eq X (fun o i _ _ _ => u3 o i (by omega) (by omega))) (by
      obtain ⟨b1, b2, b3⟩ := C
      exact ⟨by rw [u3 7 12 (by decide) (by decide)]; exact b1, fun i hi => by rw [u3 15 i (by decide) (by decide)]; exact b2 i hi, fun t ht => by rw [u3 16 t (by decide) (by decide)]; exact b3 t ht⟩) u2 (by omega)
    rw [L_X_tellChosen_2, X.2.1, if_neg (by rw [le32_iff] <;> omega), if_pos (by omega), Int.toNat_natCast, C.2.2 k (by omega), show (.inl ((own G (hT G) k : Nat) : Int) : pV) = .inl ((oOf G k : Nat) : Int) from rfl, c_numberAt_38n hD (by omega), pbI_rI, u1, pbN_rV, show ((k : Int) + 1) = ((k + 1 : Nat) : Int) by omega]
    exact ⟨M', e, by rw [g]; omega, fun o i h1 h2 => by rw [f o i h1 h2, u3 o i h1 h2]⟩
theorem x_tellCn (hd : 2 ≤ d) (W : WF G) (X : XH M G) (C : CL M G) {s : Nat} (h5 : M 5 1 = (s : Int)) (hs : s ≤ 2) : ∃ M', xF d 58 [.inr 2] M = rV M' ∧ M' 5 1 = ((s + hT G : Nat) : Int) ∧ ∀ o i, o ≠ 5 → o ≠ 6 → M' o i = M o i := by
  obtain ⟨D, rfl, hD⟩ := dsucc hd
  have w2 := W.2.1
  rw [T_X_tellChosen]
  exact x_tch2n hD W (hT G) 0 s M (by omega) X C h5 (by omega)
theorem x_sp10n (hD : 6 ≤ D) (W : WF G) (q : ¬ tmG G) : ∀ m k (V : Int) (M : pM), k + m = hR G → XH M G → CL M G → -1 ≤ V ∧ V ≤ 99 → (V ≠ -1 → M 5 1 = 1 + (hT G : Int)) → xE D 26 10 [.inr 2, .inl V, .inl (k : Int)] [] M = rI v M' → (v < 0 → V = -1 ∧ M' 5 1 = M 5 1) ∧ (0 ≤ v → M' 5 1 = 1 + (hT G : Int))
  | 0, k, V, M, hk, X, C, gr, hV, e => by
    have w1 := W.1
    rw [L_X_space_10, X.1, if_pos (by rw [le32_iff] <;> omega)] at e
    by_cases z : V = -1
    · rw [if_neg (fun w => w (by rw [z]))] at e
      obtain ⟨y1, y2⟩ := rI_inj e
      rw [← y2]
      exact ⟨fun _ => ⟨z, rfl⟩, fun hv => by omega⟩
    · rw [if_pos (by rw [eq32_iff] <;> omega)] at e
      obtain ⟨y1, y2⟩ := rI_inj e
      rw [← y2]
      exact ⟨fun hv => by omega, fun _ => hV z⟩
  | m + 1, k, V, M, hk, X, C, gr, hV, e => by
    have w1 := W.1
    have w2 := W.2.1
    have hkR : k < hR G := by omega
    have sb := W.2.2.2.1 k hkR
    obtain ⟨N, c1, c2, c3⟩ := x_byBulk (d := D) hD W q X C hkR (m := 0) (e := -1) (by omega) (Or.inr rfl)
    have ev : svT (hR G) (nC G) (tbK G k (-1) (nC G)) = fun c => -ldG G k c := funext fun c => by
      rw [svT_bb w1 (by omega), Int.neg_mul, Int.one_mul]; rfl
    unfold CHr at c2
    rw [szB_0, fnG_f, ev] at c1 c2
    obtain ⟨c21, c22⟩ := c2
    obtain ⟨i1, i2⟩ := chF_max (fine := fnG G) (val := fun c => -ldG G k c) (hR G ^ nC G)
    have XN := XH_hi c3 X
    have CN := CL_hi c3 C
    have n5 : N 5 1 = M 5 1 := c3 5 1 (by decide)
    have same : xE D 26 10 [.inr 2, .inl V, .inl ((k + 1 : Nat) : Int)] [] N = rI v M' → (v < 0 → V = -1 ∧ M' 5 1 = M 5 1) ∧ (0 ≤ v → M' 5 1 = 1 + (hT G : Int)) := fun e => by
      have r := x_sp10n hD W q m (k + 1) V N (by omega) XN CN gr (fun z => by rw [n5]; exact hV z) e
      rw [n5] at r
      exact r
    rw [L_X_space_10, X.1, if_neg (by rw [le32_iff] <;> omega), c1, pbI_rI] at e
    by_cases z : (chF (fnG G) (fun c => -ldG G k c) (hR G ^ nC G)).1 = 0
    · rw [if_pos z, if_pos (by decide), show ((k : Int) + 1) = ((k + 1 : Nat) : Int) by omega] at e
      exact same e
    · obtain ⟨⟨c0, d1, d2, d3⟩, i4⟩ := i2 z
      have v10 := (c22 z).1
      have fr0 := frG_range W hkR d2
      have k8 : N 8 k = G 1 k := XN.2.2.2.1 k hkR
      have fe : G 1 k + (chF (fnG G) (fun c => -ldG G k c) (hR G ^ nC G)).2.1 = frG G k c0 := by
        rw [← d3]
        unfold frG
        omega
      rw [if_neg z, if_neg (by decide), if_pos (by omega), Int.toNat_natCast, k8, v10, fe] at e
      by_cases z2 : frG G k c0 ≤ V
      · rw [if_pos (by rw [le32_iff] <;> omega), show ((k : Int) + 1) = ((k + 1 : Nat) : Int) by omega] at e
        exact same e
      · obtain ⟨D', hD'⟩ : ∃ D', D = D' + 1 := ⟨D - 1, by omega⟩
        obtain ⟨N5, u1, u2, u3⟩ := x_tell (d := D) (M := pset N 5 1 0) (n := 0) (by omega) (by decide) pset_eq (k : Int)
        have X5 : XH N5 G := XH_eq XN (fun o i o1 o2 _ => by rw [u3 o i (by omega) (by omega), pset_ne (by omega)])
        have C5 : CL N5 G := by
          obtain ⟨b1, b2, b3⟩ := CN
          exact ⟨by rw [u3 7 12 (by decide) (by decide), pset_ne (by decide)]; exact b1, fun i hi => by rw [u3 15 i (by decide) (by decide), pset_ne (by decide)]; exact b2 i hi, fun t ht => by rw [u3 16 t (by decide) (by decide), pset_ne (by decide)]; exact b3 t ht⟩
        obtain ⟨N6, u4, u6, u5⟩ := x_tellCn (d := D) (s := 1) (by omega) W X5 C5 u2 (by decide)
        have X6 : XH N6 G := XH_eq X5 (fun o i o1 o2 _ => u5 o i (by omega) (by omega))
        have C6 : CL N6 G := by
          obtain ⟨b1, b2, b3⟩ := C5
          exact ⟨by rw [u5 7 12 (by decide) (by decide)]; exact b1, fun i hi => by rw [u5 15 i (by decide) (by decide)]; exact b2 i hi, fun t ht => by rw [u5 16 t (by decide) (by decide)]; exact b3 t ht⟩
        have us : xF D 127 [.inr 7] N = rV (pset N 5 1 0) := by rw [hD']; exact T_Numbers_start D' N
        rw [if_neg (by rw [le32_iff] <;> omega), if_pos (by omega), us, pbN_rV, u1, pbN_rV, u4, pbN_rV, show ((k : Int) + 1) = ((k + 1 : Nat) : Int) by omega] at e
        obtain ⟨r1, r2⟩ := x_sp10n hD W q m (k + 1) (frG G k c0) N6 (by omega) X6 C6 (by omega) (fun _ => by rw [u6]; omega) e
        exact ⟨fun hv => by
          have := (r1 hv).1
          omega, r2⟩
theorem xr_space (W : WF G) (X : XG M G) (C : CL M G) (e1 : xF 1000 26 [.inr 2] M = rI v M1) : (v < 0 → M1 5 1 = M 5 1) ∧ (0 ≤ v → M1 5 1 = 1 + (hT G : Int)) := by
  have t1 : xF (998 + 1 + 1) 26 [.inr 2] M = rI v M1 := e1
  obtain ⟨qx1, qx2⟩ := x_tooMany (d := 998 + 1) (by omega) W X.1 C
  rw [T_X_space] at t1
  rcases Classical.em (tmG G) with q | q
  · rw [qx1 q, pbI_rI, if_neg (by decide)] at t1
    obtain ⟨y1, y2⟩ := rI_inj t1
    rw [← y2]
    exact ⟨fun _ => rfl, fun hv => by omega⟩
  · rw [qx2 q, pbI_rI, if_pos (by decide)] at t1
    obtain ⟨r1, r2⟩ := x_sp10n (D := 998 + 1) (by omega) W q (hR G) 0 (-1) M (by omega) X.1 C (by omega) (fun z => absurd rfl z) t1
    exact ⟨fun hv => (r1 hv).2, r2⟩
theorem xu_fullest (W : WF G) (X : XG M G) (C : CL M G) {a1 : Int} (h1 : -2147483648 ≤ a1 ∧ a1 ≤ 2147483647) (e1 : xF 1000 30 [.inr 2, .inl a1] M = rI v M1) : (v < 0 → M1 5 1 = M 5 1) ∧ (0 ≤ v → M1 5 1 = (hT G : Int)) := by
  have hw1 := W.1
  have t1 : xF (998 + 1 + 1) 30 [.inr 2, .inl a1] M = rI v M1 := e1
  rw [T_X_fullest, c_isRoom7 (by omega) W X.1 (by omega) (by omega), pbI_rI, ite01pn] at t1
  by_cases q1 : 0 ≤ a1 ∧ a1 < (hR G : Int)
  · rw [if_pos q1] at t1
    obtain ⟨b, rfl⟩ := natI q1.1
    have hb : b < hR G := by omega
    obtain ⟨qx1, qx2⟩ := x_tooMany (d := 998 + 1) (by omega) W X.1 C
    rcases Classical.em (tmG G) with q | q
    · rw [qx1 q, pbI_rI, if_neg (by decide)] at t1
      obtain ⟨y1, y2⟩ := rI_inj t1
      rw [← y2]
      exact ⟨fun _ => rfl, fun hv => by omega⟩
    · obtain ⟨N3, c1, c2, c3⟩ := x_byBulk (d := 998 + 1) (by omega) W q X.1 C hb (m := 0) (e := 1) (by omega) (Or.inl rfl)
      have ev : svT (hR G) (nC G) (tbK G b 1 (nC G)) = ldG G b := funext fun c => by
        rw [svT_bb hw1 (by omega), Int.one_mul]; rfl
      unfold CHr at c2
      rw [szB_0, fnG_f, ev] at c1 c2
      obtain ⟨c21, c22⟩ := c2
      rw [qx2 q, pbI_rI, if_pos (by decide), c1, pbI_rI] at t1
      by_cases z : (chF (fnG G) (ldG G b) (hR G ^ nC G)).1 = 0
      · rw [if_pos z, if_neg (fun w => w (by decide))] at t1
        obtain ⟨y1, y2⟩ := rI_inj t1
        rw [← y2]
        exact ⟨fun _ => c3 5 1 (by decide), fun hv => by omega⟩
      · have mv : mxV (fnG G) (ldG G b) (-1) (hR G ^ nC G) = (chF (fnG G) (ldG G b) (hR G ^ nC G)).2.1 := if_neg z
        have nn : 0 ≤ (chF (fnG G) (ldG G b) (hR G ^ nC G)).2.1 := by
          rw [← mv]
          have := mxV_range (fine := fnG G) (z := 0) (fun c => (show 0 ≤ ldG G b c ∧ ldG G b c ≤ 9900 by have := ldG_range W b c; omega)) (by omega) (hR G ^ nC G)
          unfold mxV at this ⊢
          rw [if_neg z] at this ⊢
          exact this.1
        have X2 : XH (pset N3 5 1 0) G := XH_eq X.1 (fun o i o1 o2 _ => by rw [pset_ne (by omega), c3 o i (by omega)])
        have C2 : CL (pset N3 5 1 0) G := by
          obtain ⟨b1, b2, b3⟩ := C
          exact ⟨by rw [pset_ne (by decide), c3 7 12 (by decide)]; exact b1, fun i hi => by rw [pset_ne (by decide), c3 15 i (by decide)]; exact b2 i hi, fun t ht => by rw [pset_ne (by decide), c3 16 t (by decide)]; exact b3 t ht⟩
        obtain ⟨N4, u1, u3, u2⟩ := x_tellCn (d := 998 + 1) (s := 0) (by omega) W X2 C2 pset_eq (by decide)
        rw [if_neg z, if_pos (by decide), T_Numbers_start, pbN_rV, u1, pbN_rV, u2 32 10 (by decide) (by decide), pset_ne (by decide), (c22 z).1] at t1
        obtain ⟨y1, y2⟩ := rI_inj t1
        rw [← y2]
        exact ⟨fun hv => by omega, fun _ => by rw [u3]; omega⟩
  · rw [if_neg q1] at t1
    obtain ⟨y1, y2⟩ := rI_inj t1
    rw [← y2]
    exact ⟨fun _ => rfl, fun hv => by omega⟩
theorem xr_fits (W : WF G) (X : XG M G) (C : CL M G) (e1 : xF 1000 21 [.inr 2] M = rI v M1) : (v < 0 → M1 5 1 = M 5 1) ∧ (v = 0 → M1 5 1 = 0) ∧ (0 < v → M1 5 1 = (hT G : Int)) := by
  have t1 : xF (998 + 1 + 1) 21 [.inr 2] M = rI v M1 := e1
  obtain ⟨q1, q2⟩ := x_tooMany (d := 998 + 1) (by omega) W X.1 C
  rw [T_X_fits] at t1
  rcases Classical.em (tmG G) with q | q
  · rw [q1 q, pbI_rI, if_neg (by decide)] at t1
    obtain ⟨y1, y2⟩ := rI_inj t1
    rw [← y2]
    exact ⟨fun _ => rfl, fun hv => by omega, fun hv => by omega⟩
  · have hW : hR G ^ nC G ≤ 20000 := by unfold tmG at q; omega
    obtain ⟨N1, s1, s2, s3, s4, s5⟩ := x_startG (d := 998 + 1) (by omega) W X.1 C
    have B := WB_G W q
    obtain ⟨N2, c1, c2, c3⟩ := x_choose (d := 998 + 1) (tb := fun _ => 0) (by omega) B (fun c => by rw [svT_0]; omega) s2 s3 s4
    have lo : ∀ o i, o < 32 → N2 o i = M o i := fun o i ho => by rw [c3 o i (by omega) (by omega) (by omega) (by omega), s5 o i (by omega)]
    have cn : (chF (fnW (hR G) (nC G) (G 1) (bkG G)) (svT (hR G) (nC G) fun _ => 0) (hR G ^ nC G)).1 = cntTo (fnG G) (hR G ^ nC G) := by
      rw [chF_cnt, show fnW (hR G) (nC G) (G 1) (bkG G) = fnG G from funext fnG_bk]
    have c11 := c2.1
    rw [cn] at c11
    have cl := cntTo_le (c := fnG G) (hR G ^ nC G)
    obtain ⟨v4, M3, z1, z2⟩ := pbI_inv s1
    rw [q2 q, pbI_rI, if_pos (by decide), z1, pbI_rI, z2, pbN_rV, c1, pbI_rI, T_Numbers_start, pbN_rV, show pset N2 5 1 0 32 11 = N2 32 11 from pset_ne (by decide), c11] at t1
    by_cases z : cntTo (fnG G) (hR G ^ nC G) = 0
    · rw [if_pos (by rw [z]; decide)] at t1
      obtain ⟨y1, y2⟩ := rI_inj t1
      rw [← y2]
      exact ⟨fun hv => by omega, fun _ => pset_eq, fun hv => by omega⟩
    · have X2 : XH (pset N2 5 1 0) G := XH_eq X.1 (fun o i o1 o2 _ => by rw [pset_ne (by omega), lo o i (by omega)])
      have C2 : CL (pset N2 5 1 0) G := by
        obtain ⟨b1, b2, b3⟩ := C
        exact ⟨by rw [pset_ne (by decide), lo 7 12 (by decide)]; exact b1, fun i hi => by rw [pset_ne (by decide), lo 15 i (by decide)]; exact b2 i hi, fun t ht => by rw [pset_ne (by decide), lo 16 t (by decide)]; exact b3 t ht⟩
      obtain ⟨N3, u1, u3, u2⟩ := x_tellCn (d := 998 + 1) (s := 0) (by omega) W X2 C2 pset_eq (by decide)
      rw [if_neg (by rw [le32_iff] <;> omega), u1, pbN_rV, u2 32 11 (by decide) (by decide), pset_ne (by decide), c11] at t1
      obtain ⟨y1, y2⟩ := rI_inj t1
      rw [← y2]
      exact ⟨fun hv => by omega, fun hv => by omega, fun _ => by rw [u3]; omega⟩
theorem x_bs32n (hD : 6 ≤ D) (W : WF G) (q : ¬ tmG G) (no : ∀ r, ¬ ndW G r 0) : ∀ m k (x1 : Int) (V : Nat) (M : pM), k + m = hR G → LBd G k V → 1 ≤ V → XH M G → CL M G → xE D 33 32 [.inr 2, .inl x1, .inl (if V = 100 then 1000000 else (V : Int)), .inl (k : Int)] [] M = rI v M' → v < 0 → M' 5 1 = M 5 1
  | 0, k, x1, V, M, hk, L, h1, X, C, e => by
    have w1 := W.1
    have hV := L.1
    rw [L_X_build_32, X.1, if_pos (by rw [le32_iff] <;> omega)] at e
    by_cases z : V = 100
    · rw [if_pos z, if_neg (fun w => w (by decide))] at e
      exact fun _ => by rw [← (rI_inj e).2]
    · rw [if_neg z, if_pos (by rw [eq32_iff] <;> omega)] at e
      obtain ⟨_, -, e⟩ := pbN_inv e
      obtain ⟨_, -, e⟩ := pbN_inv e
      have e0 := (rI_inj e).1
      intro hv
      omega
  | m + 1, k, x1, V, M, hk, L, h1, X, C, e => by
    have w1 := W.1
    have hV := L.1
    have hkR : k < hR G := by omega
    have sb := W.2.2.2.1 k hkR
    have fr : (1 : Int) ≤ (if V = 100 then 1000000 else (V : Int)) ∧ (if V = 100 then 1000000 else (V : Int)) ≤ 1000000 := by split <;> omega
    obtain ⟨N, c1, c2, c3⟩ := x_byBulk (d := D) hD W q X C hkR (m := 99) (e := -1) (by omega) (Or.inr rfl)
    have ev : svT (hR G) (nC G) (tbK G k (-1) (nC G)) = fun c => -ldG G k c := funext fun c => by
      rw [svT_bb w1 (by omega), Int.neg_mul, Int.one_mul]; rfl
    unfold CHr at c2
    rw [fnW_bk, ev] at c1 c2
    obtain ⟨c21, c22⟩ := c2
    obtain ⟨i1, i2⟩ := chF_max (fine := fnW (hR G) (nC G) (szB G k 99) (fun i => blk G (cOf G i))) (val := fun c => -ldG G k c) (hR G ^ nC G)
    have XN := XH_hi c3 X
    have CN := CL_hi c3 C
    rw [L_X_build_32, X.1, if_neg (by rw [le32_iff] <;> omega), if_neg (by rw [le32_iff] <;> omega), c1, pbI_rI, show ((k : Int) + 1) = ((k + 1 : Nat) : Int) by omega] at e
    by_cases z : (chF (fnW (hR G) (nC G) (szB G k 99) (fun i => blk G (cOf G i))) (fun c => -ldG G k c) (hR G ^ nC G)).1 = 0
    · rw [if_pos z, if_pos (by decide)] at e
      intro hv
      rw [x_bs32n hD W q no m (k + 1) x1 V N (by omega) (LB_step L (Nat.le_refl V) (fun m hm hn => by
        obtain ⟨c, d1, d2⟩ := nd_mono (m' := 99) (by omega) hn
        rw [i1 z c d1] at d2; cases d2) (Or.inl rfl)) h1 XN CN e hv]
      exact c3 5 1 (by decide)
    · obtain ⟨⟨c0, d1, d2, d3⟩, i4⟩ := i2 z
      have v10 := (c22 z).1
      have k8 : N 8 k = G 1 k := XN.2.2.2.1 k hkR
      rw [← d3] at v10 i4
      have l0 := ldG_range W k c0
      -- what room k has to be greater by
      have nd : ∀ m : Nat, m < 100 → (ndW G k (m : Int) ↔ ldG G k c0 - G 1 k ≤ (m : Int)) := fun m hm => by
        constructor
        · intro ⟨c, e1, e2⟩
          have a := i4 c e1 (fn_mono (by omega) e2)
          have a : -ldG G k c ≤ -ldG G k c0 := a
          have b := fnW_iff.mp e2 k hkR
          have b : ldG G k c ≤ szB G k (m : Int) k := b
          unfold szB at b
          rw [if_pos rfl] at b
          omega
        · intro hl
          refine ⟨c0, d1, fnW_iff.mpr fun r' hr' => ?_⟩
          have b := fnW_iff.mp d2 r' hr'
          unfold szB at b ⊢
          by_cases y : r' = k
          · rw [if_pos y, y]
            show ldG G k c0 ≤ _
            omega
          · rw [if_neg y] at b ⊢; exact b
      have g1 : 1 ≤ ldG G k c0 - G 1 k := by
        rcases (show ldG G k c0 - G 1 k < 1 ∨ 1 ≤ ldG G k c0 - G 1 k by omega) with u | u
        · exact absurd ((nd 0 (by decide)).mpr (by omega)) (no k)
        · exact u
      have g2 : ldG G k c0 - G 1 k ≤ 99 := by
        have b := fnW_iff.mp d2 k hkR
        have b : ldG G k c0 ≤ szB G k 99 k := b
        unfold szB at b
        rw [if_pos rfl] at b
        omega
      obtain ⟨w, hw⟩ : ∃ w : Nat, ldG G k c0 - G 1 k = (w : Int) := natI (by omega)
      have e10 : -(-ldG G k c0) - G 1 k = (w : Int) := by omega
      rw [if_neg z, if_neg (by decide), if_pos (by omega), Int.toNat_natCast, k8, v10, e10] at e
      by_cases y : V ≤ w
      · rw [if_pos (by rw [le32_iff] <;> first | omega | (split <;> omega))] at e
        intro hv
        rw [x_bs32n hD W q no m (k + 1) x1 V N (by omega) (LB_step L (Nat.le_refl V) (fun m hm hn => by
          have := (nd m (by omega)).mp hn
          omega) (Or.inl rfl)) h1 XN CN e hv]
        exact c3 5 1 (by decide)
      · rw [if_neg (by rw [le32_iff] <;> first | omega | (split <;> omega)), if_pos (by omega)] at e
        intro hv
        rw [x_bs32n hD W q no m (k + 1) (k : Int) w N (by omega) (LB_step L (by omega) (fun m hm hn => by
          have := (nd m (by omega)).mp hn
          omega) (Or.inr ((nd w (by omega)).mpr (by omega)))) (by omega) XN CN (by
          rw [if_neg (by omega)]
          exact e) hv]
        exact c3 5 1 (by decide)
theorem xu_build (W : WF G) (X : XG M G) (C : CL M G) (e1 : xF 1000 33 [.inr 2] M = rI v M1) (hv : v < 0) : M1 5 1 = M 5 1 := by
  have hw1 := W.1
  have t1 : xF (998 + 1 + 1) 33 [.inr 2] M = rI v M1 := e1
  rw [T_X_build, X.1.1] at t1
  by_cases q0 : hR G = 0
  · rw [if_neg (fun z => z (by rw [q0]; decide))] at t1
    rw [← (rI_inj t1).2]
  · rw [if_pos (by rw [eq32_iff] <;> omega)] at t1
    obtain ⟨qx1, qx2⟩ := x_tooMany (d := 998 + 1) (by omega) W X.1 C
    rcases Classical.em (tmG G) with q | q
    · rw [qx1 q, pbI_rI, if_neg (by decide)] at t1
      rw [← (rI_inj t1).2]
    · obtain ⟨N1, s1, s2, s3, s4, s5⟩ := x_startG (d := 998 + 1) (by omega) W X.1 C
      obtain ⟨N2, n1, n2, n3⟩ := x_nextE (d := 998 + 1) (by omega) s2 (WB_G W q) s3
      have lo : ∀ o i, o < 32 → N2 o i = M o i := fun o i ho => by rw [n3 o i ho, s5 o i (by omega)]
      have XN := XH_hi lo X.1
      have CN := CL_hi lo C
      have ex : ∀ r, EX (hR G) (nC G) (G 1) (bkG G) ↔ ndW G r 0 := fun r => by
        rw [EX_iff (Or.inl (by omega)), fnW_bk]
        unfold ndW
        rw [szB_0]
      obtain ⟨v4, M3, z1, z2⟩ := pbI_inv s1
      rw [qx2 q, pbI_rI, if_pos (by decide), z1, pbI_rI, z2, pbN_rV] at t1
      rcases Classical.em (ndW G 0 0) with u | u
      · rw [n1 ((ex 0).mpr u), pbI_rI, if_neg (by decide), L_X_build_32, XN.1, if_neg (by rw [le32_iff] <;> omega), if_pos (by decide), if_pos (by decide)] at t1
        obtain ⟨_, -, t1⟩ := pbN_inv t1
        obtain ⟨_, -, t1⟩ := pbN_inv t1
        have e0 := (rI_inj t1).1
        omega
      · rw [n2 (fun w => u ((ex 0).mp w)), pbI_rI, if_pos (by decide)] at t1
        rw [x_bs32n (D := 998 + 1) (by omega) W q (fun r w => u ((ex 0).mp ((ex r).mpr w))) (hR G) 0 (-1) 100 N2 (by omega) ⟨Nat.le_refl _, fun r m hr => absurd hr (Nat.not_lt_zero r), Or.inl rfl⟩ (by decide) XN CN t1 hv]
        exact lo 5 1 (by decide)
theorem xu_together (W : WF G) (X : XG M G) (C : CL M G) {a1 a2 : Int} (h1 : -2147483648 ≤ a1 ∧ a1 ≤ 2147483647) (h2 : -2147483648 ≤ a2 ∧ a2 ≤ 2147483647) (e1 : xF 1000 29 [.inr 2, .inl a1, .inl a2] M = rI v M1) (hv : v < 0) : M1 5 1 = M 5 1 := by
  have w2 := W.2.1
  have t1 : xF (998 + 1 + 1) 29 [.inr 2, .inl a1, .inl a2] M = rI v M1 := e1
  rw [T_X_together, c_isThing7 (by omega) W X.1 (by omega) (by omega), pbI_rI, ite01p] at t1
  by_cases b1 : 0 ≤ a1 ∧ a1 < (hT G : Int)
  · rw [if_pos b1, c_isThing7 (by omega) W X.1 (by omega) (by omega), pbI_rI, ite01p] at t1
    by_cases b2 : 0 ≤ a2 ∧ a2 < (hT G : Int)
    · rw [if_pos b2] at t1
      by_cases b3 : a1 = a2
      · rw [if_neg (fun w => w (by rw [b3]))] at t1
        rw [← (rI_inj t1).2]
      · obtain ⟨s, rfl⟩ := natI b1.1
        obtain ⟨t, rfl⟩ := natI b2.1
        have ne : ¬ eq32 (s : Int) (t : Int) := by rw [eq32_iff] <;> omega
        rw [if_pos ne] at t1
        obtain ⟨q1, q2⟩ := x_tooMany (d := 998 + 1) (by omega) W X.1 C
        rcases Classical.em (tmG G) with q | q
        · rw [q1 q, pbI_rI, if_neg (by decide)] at t1
          rw [← (rI_inj t1).2]
        · have hW : hR G ^ nC G ≤ 20000 := by unfold tmG at q; omega
          obtain ⟨N1, s1, s2, s3, s4, s5⟩ := x_startG (d := 998 + 1) (by omega) W X.1 C
          have os := (oOf_in W (show s < hT G by omega)).1
          have ot := (oOf_in W (show t < hT G by omega)).1
          obtain ⟨v4, M3, z1, z2⟩ := pbI_inv s1
          rw [q2 q, pbI_rI, if_pos (by decide), if_pos (by omega), if_pos (by omega), z1, pbI_rI, z2, pbN_rV, Int.toNat_natCast, Int.toNat_natCast, C.2.2 s (by omega), C.2.2 t (by omega)] at t1
          have a := x_tog47 (D := 998 + 1) (by omega) (WB_G W q) os ot _ _ (hR G ^ nC G + 1) 0 0 0 N1 (by omega) (by omega) (Nat.zero_le _) s2 (Or.inl ⟨rfl, s3⟩) t1
          omega
    · rw [if_neg b2] at t1
      rw [← (rI_inj t1).2]
  · rw [if_neg b1] at t1
    rw [← (rI_inj t1).2]
theorem xu_may (W : WF G) (X : XG M G) (C : CL M G) {a1 : Int} (h1 : -2147483648 ≤ a1 ∧ a1 ≤ 2147483647) (e1 : xF 1000 28 [.inr 2, .inl a1] M = rI v M1) (hv : v < 0) : M1 5 1 = M 5 1 := by
  have w2 := W.2.1
  have n10 := nC_le W
  have t1 : xF (998 + 1 + 1) 28 [.inr 2, .inl a1] M = rI v M1 := e1
  rw [T_X_may, C.1] at t1
  by_cases b0 : a1 < 0
  · rw [if_pos (by rw [lt32_iff] <;> omega)] at t1
    rw [← (rI_inj t1).2]
  · by_cases b1 : a1 < (nC G : Int)
    · obtain ⟨i, rfl⟩ : ∃ i : Nat, a1 = i := natI (by omega)
      have hi : i < nC G := by omega
      obtain ⟨t, ht, en, eo⟩ := ntz_cOf W hi
      rw [if_neg (by rw [lt32_iff] <;> omega), if_pos (by rw [lt32_iff] <;> omega)] at t1
      obtain ⟨q1, q2⟩ := x_tooMany (d := 998 + 1) (by omega) W X.1 C
      rcases Classical.em (tmG G) with q | q
      · rw [q1 q, pbI_rI, if_neg (by decide)] at t1
        rw [← (rI_inj t1).2]
      · have hW : hR G ^ nC G ≤ 20000 := by unfold tmG at q; omega
        obtain ⟨N1, s1, s2, s3, s4, s5⟩ := x_startG (d := 998 + 1) (by omega) W X.1 C
        obtain ⟨v4, M3, z1, z2⟩ := pbI_inv s1
        rw [q2 q, pbI_rI, if_pos (by decide), c_leastOf (by omega) W C hi, pbI_rI, en, c_numberAt_13n (by omega) (by omega), pbI_rI, z1, pbI_rI, z2, pbN_rV] at t1
        have a := x_may38 (D := 998 + 1) (by omega) (WB_G W q) hi _ (hR G ^ nC G + 1) 0 0 0 _ N1 (by omega) (by omega) (Nat.zero_le _) s2 (Or.inl ⟨rfl, s3⟩) t1
        omega
    · rw [if_neg (by rw [lt32_iff] <;> omega), if_neg (by rw [lt32_iff] <;> omega)] at t1
      rw [← (rI_inj t1).2]
theorem xu_day (hd : 9 ≤ d) (W : WF G) (X : XG M G) (hn : 0 ≤ G 9 0 ∧ G 9 0 ≤ 20) (hL : L ≤ 80) (h1 : M 1 1 = (L : Int)) (ht : ∀ i, i < 80 → M 2 i = ux (tx i)) (hx : ∀ i, i < 80 → -128 ≤ tx i ∧ tx i ≤ 127) (ee : xF d 13 [.inr 2] M = rI v M') (hv : v < 0) : M' 5 1 = M 5 1 := by
  have e0 := ee
  obtain ⟨D, rfl, hD⟩ := dsucc hd
  obtain ⟨M1, e1, f1⟩ := x_dayFault (tx := tx) (d := D) (by omega) hL h1 ht hx
  have k1 : M1 1 1 = (L : Int) := by rw [f1 1 1 (by decide)]; exact h1
  have fr := dyF_range (tx := tx) hL
  rw [T_X_day, e1, pbI_rI] at ee
  by_cases q : dyF tx L = -1
  · have := ((xg_day hd W X hn hL h1 ht hx e0).2 q).1
    omega
  · rw [if_neg (by rw [eq32_iff] <;> omega), x_cutL (by omega) k1 hL, pbI_rI] at ee
    rw [← (rI_inj ee).2, pset_ne (by decide), f1 5 1 (by decide)]
theorem xu_judge {a1 a2 : Int} (h1 : -2147483648 ≤ a1 ∧ a1 ≤ 2147483647) (q : ¬ (0 ≤ a1 ∧ a1 ≤ 4)) (e1 : xF 1000 15 [.inr 2, .inl a1, .inl a2] M = rI v M1) : M1 = M := by
  have t1 : xF (999 + 1) 15 [.inr 2, .inl a1, .inl a2] M = rI v M1 := e1
  rw [T_X_judge] at t1
  by_cases z : a1 < 0
  · rw [if_pos (by rw [lt32_iff] <;> omega)] at t1
    exact (rI_inj t1).2.symm
  · rw [if_neg (by rw [lt32_iff] <;> omega), if_neg (by rw [le32_iff] <;> omega)] at t1
    exact (rI_inj t1).2.symm
theorem x_cl5n {n : Nat} (hn : n ≤ 10) : ∀ (m k : Nat) (M : pM), k + m = n → M 7 12 = (n : Int) → M 5 1 = (k : Int) → xE (D + 1) 16 5 [.inr 2, .inl (k : Int)] [] M = rI v M' → v = n ∧ M' 5 1 = n
  | 0, k, M, hk, h12, h5, e => by
    rw [L_X_clumps_5, h12, if_pos (by rw [le32_iff] <;> omega)] at e
    obtain ⟨y1, y2⟩ := rI_inj e
    rw [← y2]
    exact ⟨y1.symm, by omega⟩
  | m + 1, k, M, hk, h12, h5, e => by
    obtain ⟨N, u1, u2, u3⟩ := x_tell (d := D + 1) (M := M) (n := k) (by omega) (by omega) h5 (M 15 (k : Int).toNat)
    rw [L_X_clumps_5, h12, if_neg (by rw [le32_iff] <;> omega), if_pos (by omega), u1, pbN_rV, show ((k : Int) + 1) = ((k + 1 : Nat) : Int) by omega] at e
    exact x_cl5n hn m (k + 1) N (by omega) (by rw [u3 7 12 (by decide) (by decide)]; exact h12) u2 e
theorem xr_clumps (W : WF G) (C : CL M G) (e1 : xF 1000 16 [.inr 2] M = rI v M1) : 0 ≤ v ∧ v ≤ 10 ∧ M1 5 1 = v := by
  have n10 := nC_le W
  have t1 : xF (998 + 1 + 1) 16 [.inr 2] M = rI v M1 := e1
  rw [T_X_clumps, T_Numbers_start, pbN_rV] at t1
  have a := x_cl5n n10 (nC G) 0 _ (by omega) (by rw [pset_ne (by decide)]; exact C.1) pset_eq t1
  omega
end RWA
/-! how many numbers are told on the other side (by program, out of 81 to 86) -/
section RWB
variable {D d R n T S C x1 : Nat} {M M' M0 M1 M2 N G h : pM} {p : Nat → Int} {w1 w2 : List (Nat × Nat)} {v y w : Int} {sz bk : Nat → Int} {fine : Nat → Bool} {val : Nat → Int} {tx : Nat → Int} {L : Nat} {sv : Nat → Nat}
theorem m_trn (hD : 1 ≤ D) {H : Nat} (hH : H ≤ 10) : ∀ (m k s : Nat) (M : pM), k + m = H → M 60 3 = (H : Int) → M 60 16 = (s : Int) → s + m ≤ 15 → xE D 232 2 [.inr 62, .inr 82, .inl (k : Int)] [] M = rV M' → M' 60 16 = ((s + m : Nat) : Int)
  | 0, k, s, M, hk, h3, h16, hs, e => by
    rw [L_M_tellRow_2, h3, if_pos (by rw [le32_iff] <;> omega)] at e
    rw [← rV_inj e, h16]; rfl
  | m + 1, k, s, M, hk, h3, h16, hs, e => by
    obtain ⟨N, u1, u2, u3⟩ := m_tellX (d := D) (M := M) (n := s) hD (by omega) h16 (M 80 k)
    rw [L_M_tellRow_2, h3, if_neg (by rw [le32_iff] <;> omega), if_pos (by omega), Int.toNat_natCast, u1, pbN_rV, show ((k : Int) + 1) = ((k + 1 : Nat) : Int) by omega] at e
    rw [m_trn hD hH m (k + 1) (s + 1) N (by omega) (by rw [u3 60 3 (by decide) (by decide)]; exact h3) u2 (by omega) e]
    omega
theorem m_tellRn (hd : 2 ≤ d) {H : Nat} (hH : H ≤ 10) (h3 : M 60 3 = (H : Int)) {s : Nat} (h16 : M 60 16 = (s : Int)) (hs : s ≤ 2) (e : xF d 232 [.inr 62, .inr 82] M = rV M') : M' 60 16 = ((s + H : Nat) : Int) := by
  obtain ⟨D, rfl, hD⟩ := dsucc hd
  rw [T_M_tellRow] at e
  exact m_trn hD hH H 0 s M (by omega) h3 h16 (by omega) e
theorem m_cl12n {n : Nat} (hn : n ≤ 10) : ∀ (m k : Nat) (M : pM), k + m = n → M 60 30 = (n : Int) → M 60 16 = (k : Int) → xE (D + 1) 222 12 [.inr 62, .inl (k : Int)] [] M = rI v M' → v = n ∧ M' 60 16 = n
  | 0, k, M, hk, h12, h5, e => by
    rw [L_M_clumps_12, h12, if_pos (by rw [le32_iff] <;> omega)] at e
    obtain ⟨y1, y2⟩ := rI_inj e
    rw [← y2]
    exact ⟨y1.symm, by omega⟩
  | m + 1, k, M, hk, h12, h5, e => by
    obtain ⟨N, u1, u2, u3⟩ := m_tellX (d := D + 1) (M := M) (n := k) (by omega) (by omega) h5 (M 73 (k : Int).toNat)
    rw [L_M_clumps_12, h12, if_neg (by rw [le32_iff] <;> omega), if_pos (by omega), u1, pbN_rV, show ((k : Int) + 1) = ((k + 1 : Nat) : Int) by omega] at e
    exact m_cl12n hn m (k + 1) N (by omega) (by rw [u3 60 30 (by decide) (by decide)]; exact h12) u2 e
theorem mr_clumps (W : WF G) (hM : gM gAll M) (Y : MG M G) (e2 : xF 1000 222 [.inr 62] M = rI y M2) : M2 60 16 = y := by
  have n10 := nC_le W
  have t2 : xF (998 + 1 + 1) 222 [.inr 62] M = rI y M2 := e2
  have Y1 := MG_thr Y
  obtain ⟨N, u1, -, u2, u3, -⟩ := m_fcF (d := 998 + 1) (by omega) (gM_thr hM) W Y1.1
  rw [T_M_clumps, u1, pbN_rV] at t2
  have b := m_cl12n n10 (nC G) 0 _ (by omega) (by rw [pset_ne2 (by decide)]; exact u3) pset_eq t2
  rw [b.1, b.2]
/-- what comes before the search: too many, or the first of the rows -/
theorem mr_begin (W : WF G) (hM : gM gAll M) (h38 : M 60 38 = 0) (Y : MG M G) : ∃ N, gM gAll N ∧ N 60 16 = M 60 16 ∧ N 60 3 = (hT G : Int) ∧ (tmG G → xF (998 + 1) 228 [.inr 62] (pset M 60 17 0) = rI 1 N) ∧ (¬ tmG G → xF (998 + 1) 228 [.inr 62] (pset M 60 17 0) = rI 0 N ∧ SR (pset N 60 40 (-1)) G 0) := by
  have Y1 := MG_thr Y
  obtain ⟨N, g2, fN, p1, p2⟩ := m_tooMG (d := 998 + 1) (by omega) (gM_thr hM) W Y1.1 (by rw [pset_ne2 (by decide)]; exact h38)
  exact ⟨N, g2, by rw [fN 60 16 (by decide), pset_ne2 (by decide)], by rw [fN 60 3 (by decide)]; exact Y1.1.2.1, p1, p2⟩
theorem m_fit12n (hD : 3 ≤ D) (W : WF G) (hW : hR G ^ nC G ≤ 20000) : ∀ m a (M : pM), hR G ^ nC G - a + 1 ≤ m → a ≤ hR G ^ nC G → SR M G a → xE D 234 12 [.inr 62, .inl (cntTo (fnG G) a : Nat)] [] M = rI y M2 → 0 ≤ y ∧ (y = 0 → M2 60 16 = 0) ∧ (0 < y → M2 60 16 = (hT G : Int)) := by
  have w2 := W.2.1
  intro m
  induction m with
  | zero => intro a M hm; omega
  | succ m ih =>
    intro a M hm ha S e
    obtain ⟨N, n1, g1, r⟩ := m_nextG (d := D) (by omega) W hW ha S
    rw [L_M_fits_12] at e
    rcases r with ⟨r1, c, c1, c2, c3, c4, c5, c6⟩ | ⟨r1, nf⟩
    · have cc : cntTo (fnG G) (c + 1) = cntTo (fnG G) a + 1 := by
        have e1 : cntTo (fnG G) (c + 1) = if fnG G c then cntTo (fnG G) c + 1 else cntTo (fnG G) c := rfl
        rw [e1, c3, if_pos rfl, cnt_to c1 c4]
      have cl := cntTo_le (c := fnG G) a
      rw [r1, pbI_rI, if_neg (by decide), show (((cntTo (fnG G) a : Nat) : Int) + 1) = ((cntTo (fnG G) (c + 1) : Nat) : Int) by omega] at e
      split at e
      · exact ih (c + 1) N (by omega) (by omega) c5 e
      · obtain ⟨N2, u1, u2, u3⟩ := u_take (d := D) (by omega) g1
        rw [u1, pbN_rV] at e
        exact ih (c + 1) N2 (by omega) (by omega) (SR_Fr u3 u2 (by decide) c5) e
    · have to := cnt_to (fine := fnG G) ha nf
      rw [r1, pbI_rI, if_pos (by decide)] at e
      have cl := cntTo_le (c := fnG G) a
      have k3 : N 60 3 = (hT G : Int) := by rw [n1 60 3 (by decide) (by decide) (by omega)]; exact S.2.1.2.1
      by_cases z : cntTo (fnG G) a = 0
      · rw [if_pos (by rw [z]; decide)] at e
        obtain ⟨y1, y2⟩ := rI_inj e
        rw [← y2]
        exact ⟨by omega, fun _ => pset_eq, fun hy => by omega⟩
      · rw [if_neg (by rw [le32_iff] <;> omega)] at e
        obtain ⟨N3, u1, e⟩ := pbN_inv e
        obtain ⟨y1, y2⟩ := rI_inj e
        have r16 := m_tellRn (d := D) (M := pset N 60 16 0) (by omega) w2 (by rw [pset_ne2 (by decide)]; exact k3) (s := 0) pset_eq (by decide) u1
        rw [← y2]
        exact ⟨by omega, fun hy => by omega, fun _ => by rw [r16]; omega⟩
theorem mr_fits (W : WF G) (hM : gM gAll M) (h38 : M 60 38 = 0) (Y : MG M G) (e2 : xF 1000 234 [.inr 62] M = rI y M2) : (y < 0 → M2 60 16 = M 60 16) ∧ (y = 0 → M2 60 16 = 0) ∧ (0 < y → M2 60 16 = (hT G : Int)) := by
  have t2 : xF (998 + 1 + 1) 234 [.inr 62] M = rI y M2 := e2
  obtain ⟨N, g2, k16, k3, p1, p2⟩ := mr_begin W hM h38 Y
  rw [T_M_fits] at t2
  rcases Classical.em (tmG G) with q | q
  · rw [p1 q, pbI_rI, if_neg (by decide)] at t2
    obtain ⟨y1, y2⟩ := rI_inj t2
    rw [← y2]
    exact ⟨fun _ => k16, fun hy => by omega, fun hy => by omega⟩
  · have hW : hR G ^ nC G ≤ 20000 := by unfold tmG at q; omega
    obtain ⟨p3, p4⟩ := p2 q
    rw [p3, pbI_rI, if_pos (by decide), T_M_beginRows, pbN_rV, show (.inl 0 : pV) = .inl ((cntTo (fnG G) 0 : Nat) : Int) from rfl] at t2
    obtain ⟨r1, r2, r3⟩ := m_fit12n (D := 998 + 1) (by omega) W hW (hR G ^ nC G + 1) 0 _ (by omega) (Nat.zero_le _) p4 t2
    exact ⟨fun hy => by omega, r2, r3⟩
theorem mu_together (W : WF G) (hM : gM gAll M) (h38 : M 60 38 = 0) (Y : MG M G) {a1 a2 : Int} (h1 : -2147483648 ≤ a1 ∧ a1 ≤ 2147483647) (h2 : -2147483648 ≤ a2 ∧ a2 ≤ 2147483647) (e2 : xF 1000 243 [.inr 62, .inl a1, .inl a2] M = rI y M2) (hy : y < 0) : M2 60 16 = M 60 16 := by
  have w2 := W.2.1
  have t2 : xF (998 + 1 + 1) 243 [.inr 62, .inl a1, .inl a2] M = rI y M2 := e2
  have Y1 := MG_thr Y
  have k0 : pset M 60 17 0 60 16 = M 60 16 := pset_ne2 (by decide)
  rw [T_M_together, m_isThing (by omega) Y1.1.2.1 (by omega) (by omega) (by omega), pbI_rI, ite01p] at t2
  by_cases b1 : 0 ≤ a1 ∧ a1 < (hT G : Int)
  · rw [if_pos b1, m_isThing (by omega) Y1.1.2.1 (by omega) (by omega) (by omega), pbI_rI, ite01p] at t2
    by_cases b2 : 0 ≤ a2 ∧ a2 < (hT G : Int)
    · rw [if_pos b2] at t2
      by_cases b3 : a1 = a2
      · rw [if_neg (fun w => w (by rw [b3]))] at t2
        rw [← (rI_inj t2).2, k0]
      · obtain ⟨s, rfl⟩ := natI b1.1
        obtain ⟨t, rfl⟩ := natI b2.1
        have ne : ¬ eq32 (s : Int) (t : Int) := by rw [eq32_iff] <;> omega
        rw [if_pos ne] at t2
        obtain ⟨N, g2, k16, k3, p1, p2⟩ := mr_begin W hM h38 Y
        rcases Classical.em (tmG G) with q | q
        · rw [p1 q, pbI_rI, if_neg (by decide)] at t2
          rw [← (rI_inj t2).2, k16]
        · have hW : hR G ^ nC G ≤ 20000 := by unfold tmG at q; omega
          obtain ⟨p3, p4⟩ := p2 q
          rw [p3, pbI_rI, if_pos (by decide), T_M_beginRows, pbN_rV] at t2
          have b := m_tog27 (D := 998 + 1) (by omega) W hW (s := s) (t := t) (by omega) (by omega) (hR G ^ nC G + 1) 0 0 _ (by omega) (Nat.zero_le _) p4 t2
          omega
    · rw [if_neg b2] at t2
      rw [← (rI_inj t2).2, k0]
  · rw [if_neg b1] at t2
    rw [← (rI_inj t2).2, k0]
theorem m_may34n (hD : 3 ≤ D) (W : WF G) (hW : hR G ^ nC G ≤ 20000) {t : Nat} (ht : t < hT G) (x1 : Int) : ∀ m a (x4 : Int) (M : pM), hR G ^ nC G - a + 1 ≤ m → a ≤ hR G ^ nC G → SR M G a → xE D 242 34 [.inr 62, .inl x1, .inl (t : Int), .inl (orB (fnG G) (fun c => dg (hR G) (nC G) c (oOf G t)) a : Nat), .inl x4] [] M = rI y M2 → 0 ≤ y ∧ M2 60 16 = 1 := by
  have w1 := W.1
  have w2 := W.2.1
  have h1 : 1 ≤ hR G := by
    have := (W.2.2.2.2.2.2.2.1 t ht).2.2.2
    omega
  intro m
  induction m with
  | zero => intro a x4 M hm; omega
  | succ m ih =>
    intro a x4 M hm ha S e
    have ol := orB_lt (fine := fnG G) (g := fun c => dg (hR G) (nC G) c (oOf G t)) (fun c => Nat.lt_of_lt_of_le (dg_lt h1 _) w1) a
    obtain ⟨N, n1, g1, r⟩ := m_nextG (d := D) (by omega) W hW ha S
    rw [L_M_may_34] at e
    rcases r with ⟨r1, c, c1, c2, c3, c4, c5, c6⟩ | ⟨r1, nf⟩
    · have s := orB_next (g := fun c => dg (hR G) (nC G) c (oOf G t)) c1 c4 c3
      have dt := dg_lt (R := hR G) (C := nC G) (code := c) h1 (oOf G t)
      rw [r1, pbI_rI, if_neg (by decide), if_pos (by omega), if_pos (by omega), if_pos (by omega), Int.toNat_natCast, c6 t ht] at e
      unfold plG at e
      rw [jor_one ol (by omega), ← s] at e
      split at e
      · exact ih (c + 1) (x4 + 0) N (by omega) (by omega) c5 e
      · exact ih (c + 1) (x4 + 1) N (by omega) (by omega) c5 e
    · rw [r1, pbI_rI, if_pos (by decide)] at e
      obtain ⟨N3, u0, e⟩ := pbN_inv e
      obtain ⟨N4, u1, u2, -⟩ := m_tellX (d := D) (M := pset N 60 16 0) (n := 0) (by omega) (by decide) pset_eq x4
      have k := rV_inj (u1.symm.trans u0)
      obtain ⟨y1, y2⟩ := rI_inj e
      rw [← y2, ← k]
      exact ⟨by omega, by rw [u2]; rfl⟩
theorem mr_may (W : WF G) (hM : gM gAll M) (h38 : M 60 38 = 0) (Y : MG M G) {a1 : Int} (h1 : -2147483648 ≤ a1 ∧ a1 ≤ 2147483647) (e2 : xF 1000 242 [.inr 62, .inl a1] M = rI y M2) : (y < 0 → M2 60 16 = M 60 16) ∧ (0 ≤ y → M2 60 16 = 1) := by
  have w2 := W.2.1
  have n10 := nC_le W
  have t2 : xF (998 + 1 + 1) 242 [.inr 62, .inl a1] M = rI y M2 := e2
  have Y1 := MG_thr Y
  obtain ⟨N0, u1, u0, u2, u3, -⟩ := m_fcF (d := 998 + 1) (by omega) (gM_thr hM) W Y1.1
  have Y0 : MG N0 G := MG_Fr u2 (by decide) Y1
  have k0 : N0 60 16 = M 60 16 := by rw [u2 60 16 (by decide), pset_ne2 (by decide)]
  rw [T_M_may, u1, pbN_rV, u3, m_in (by omega), pbI_rI] at t2
  by_cases b : a1 < 0 ∨ (nC G : Int) ≤ a1
  · rw [if_pos (b.imp (fun z => by rw [lt32_iff] <;> omega) (fun z => by rw [lt32_iff] <;> omega)), if_neg (fun z => z (by decide))] at t2
    obtain ⟨y1, y2⟩ := rI_inj t2
    rw [← y2]
    exact ⟨fun _ => k0, fun hy => by omega⟩
  · obtain ⟨i, rfl⟩ : ∃ i : Nat, a1 = i := natI (by omega)
    have hi : i < nC G := by omega
    obtain ⟨t, ht, en, eo⟩ := ntz_cOf W hi
    have hin : ¬ (lt32 (i : Int) 0 ∨ lt32 ((nC G : Int) - 1) (i : Int)) := fun z => by
      rcases z with z | z
      · rw [lt32_iff] at z <;> omega
      · rw [lt32_iff] at z <;> omega
    rw [if_neg hin, if_pos (by decide)] at t2
    obtain ⟨N, g2, fN, p1, p2⟩ := m_tooMG (d := 998 + 1) (by omega) u0 W Y0.1 (by rw [u2 60 38 (by decide), pset_ne2 (by decide)]; exact h38)
    rcases Classical.em (tmG G) with q | q
    · rw [p1 q, pbI_rI, if_neg (by decide)] at t2
      obtain ⟨y1, y2⟩ := rI_inj t2
      rw [← y2]
      exact ⟨fun _ => by rw [fN 60 16 (by decide)]; exact k0, fun hy => by omega⟩
    · have hW : hR G ^ nC G ≤ 20000 := by unfold tmG at q; omega
      obtain ⟨p3, p4⟩ := p2 q
      have c73 : N 73 i = (cOf G i : Int) := by
        have := p4.2.2.2.2.2.2.2 i hi
        rw [pset_ne (by decide)] at this
        exact this
      rw [p3, pbI_rI, if_pos (by decide), if_pos (by omega), Int.toNat_natCast, c73, j_ntz (by omega) (cOf_lt W i), pbI_rI, en, T_M_beginRows, pbN_rV] at t2
      obtain ⟨r1, r2⟩ := m_may34n (D := 998 + 1) (by omega) W hW ht _ (hR G ^ nC G + 1) 0 0 _ (by omega) (Nat.zero_le _) p4 t2
      exact ⟨fun hy => by omega, fun _ => r2⟩
theorem m_sp24n (hD : 3 ≤ D) (W : WF G) {a c0 : Nat} (hf : fnG G c0 = true) : ∀ m k (V x2 : Int) (y4 : pV) (M : pM), k + m = hR G → -1 ≤ x2 ∧ x2 ≤ 6 → SR M G (c0 + 1) → (∀ t, t < hT G → M 78 t = (plG G c0 t : Int)) → GM (spQ G a c0 k) (frG G) V → ∃ (V' x2' : Int) (y4' : pV) (M' : pM), xE D 240 24 [.inr 62, .inl V, .inl x2, .inl (k : Int), y4] [] M = xE D 240 19 [.inr 62, .inl V', .inl x2', .inl (hR G : Int), y4'] [] M' ∧ (-1 ≤ x2' ∧ x2' ≤ 6) ∧ SR M' G (c0 + 1) ∧ GM (spQ G a c0 (hR G)) (frG G) V' ∧ M' 60 16 = M 60 16
  | 0, k, V, x2, y4, M, hk, hx, S, h78, g => by
    have w1 := W.1
    have ek : k = hR G := by omega
    rw [ek] at g ⊢
    rw [L_M_space_24, S.2.1.1, if_pos (by rw [le32_iff] <;> omega)]
    exact ⟨V, x2, y4, M, rfl, hx, S, g, rfl⟩
  | m + 1, k, V, x2, y4, M, hk, hx, S, h78, g => by
    have w1 := W.1
    have hkR : k < hR G := by omega
    have gr := GM_range W (fun r c p => ⟨by have := p.2; omega, p.1⟩) g
    have fr := frG_range W hkR hf
    have up : ∀ V', (V' = V ∧ frG G k c0 ≤ V) ∨ (V' = frG G k c0 ∧ V ≤ frG G k c0) → GM (spQ G a c0 (k + 1)) (frG G) V' := fun V' hV => by
      obtain ⟨g1, g2⟩ := g
      refine ⟨fun r c p => ?_, Or.inr ?_⟩
      · rcases p.2 with u | ⟨u1, u2⟩
        · have := g1 r c ⟨p.1, Or.inl u⟩
          omega
        · rcases Nat.lt_or_ge r k with u | u
          · have := g1 r c ⟨p.1, Or.inr ⟨u1, u⟩⟩
            omega
          · rw [show r = k by omega, u1]
            omega
      · rcases hV with ⟨e1, e2⟩ | ⟨e1, e2⟩
        · rcases g2 with ⟨g2, g3⟩ | ⟨r, c, g3, g4⟩
          · omega
          · exact ⟨r, c, ⟨g3.1, g3.2.imp id (fun z => ⟨z.1, by omega⟩)⟩, by rw [e1]; exact g4⟩
        · exact ⟨k, c0, ⟨hf, Or.inr ⟨rfl, Nat.lt_succ_self k⟩⟩, e1.symm⟩
    have tk : ∃ M3, xF D 233 [.inr 62] M = rV M3 ∧ SR M3 G (c0 + 1) ∧ (∀ t, t < hT G → M3 78 t = (plG G c0 t : Int)) ∧ M3 60 16 = M 60 16 := by
      obtain ⟨N2, u1, u2, u3⟩ := u_take (d := D) (by omega) S.1
      exact ⟨N2, u1, SR_Fr u3 u2 (by decide) S, fun t ht => by rw [u3 78 t rfl]; exact h78 t ht, u3 60 16 (by decide)⟩
    obtain ⟨M3, t1, t2, t3, t4⟩ := tk
    rw [L_M_space_24, S.2.1.1, if_neg (by rw [le32_iff] <;> omega), m_freeG (by omega) W S h78 hkR, pbI_rI, show G 1 k - ldG G k c0 = frG G k c0 from rfl, show ((k : Int) + 1) = ((k + 1 : Nat) : Int) by omega]
    by_cases z : frG G k c0 < V
    · rw [if_pos (by rw [lt32_iff] <;> omega)]
      exact m_sp24n hD W hf m (k + 1) V x2 _ M (by omega) hx S h78 (up V (Or.inl ⟨rfl, by omega⟩))
    · rw [if_neg (by rw [lt32_iff] <;> omega)]
      by_cases z2 : frG G k c0 = V
      · rw [if_neg (fun w => w (by rw [z2]))]
        by_cases z3 : (k : Int) < x2
        · rw [if_pos (by rw [lt32_iff] <;> omega), t1, pbN_rV]
          obtain ⟨q1, q2, q3, q4, q5, q6, q7, q8, q9⟩ := m_sp24n hD W hf m (k + 1) (frG G k c0) (k : Int) (.inl (frG G k c0)) M3 (by omega) (by omega) t2 t3 (up _ (Or.inr ⟨rfl, by omega⟩))
          exact ⟨q1, q2, q3, q4, q5, q6, q7, q8, by rw [q9, t4]⟩
        · rw [if_neg (by rw [lt32_iff] <;> omega)]
          exact m_sp24n hD W hf m (k + 1) V x2 _ M (by omega) hx S h78 (up V (Or.inl ⟨rfl, by omega⟩))
      · rw [if_pos (by rw [eq32_iff] <;> omega), t1, pbN_rV]
        obtain ⟨q1, q2, q3, q4, q5, q6, q7, q8, q9⟩ := m_sp24n hD W hf m (k + 1) (frG G k c0) (k : Int) (.inl (frG G k c0)) M3 (by omega) (by omega) t2 t3 (up _ (Or.inr ⟨rfl, by omega⟩))
        exact ⟨q1, q2, q3, q4, q5, q6, q7, q8, by rw [q9, t4]⟩
theorem m_sp19n (hD : 3 ≤ D) (W : WF G) (hW : hR G ^ nC G ≤ 20000) : ∀ m a (V x2 : Int) (y3 y4 : pV) (M : pM), hR G ^ nC G - a + 1 ≤ m → a ≤ hR G ^ nC G → -1 ≤ x2 ∧ x2 ≤ 6 → SR M G a → GM (spP G a (hR G)) (frG G) V → xE D 240 19 [.inr 62, .inl V, .inl x2, y3, y4] [] M = rI y M2 → y < 0 → M2 60 16 = M 60 16 := by
  have w1 := W.1
  intro m
  induction m with
  | zero => intro a V x2 y3 y4 M hm; omega
  | succ m ih =>
    intro a V x2 y3 y4 M hm ha hx S g e
    have gr := GM_range W (fun r c p => ⟨p.1, p.2.2⟩) g
    obtain ⟨N, n1, g1, r⟩ := m_nextG (d := D) (by omega) W hW ha S
    rw [L_M_space_19] at e
    rcases r with ⟨r1, c, c1, c2, c3, c4, c5, c6⟩ | ⟨r1, nf⟩
    · have g0 : GM (spQ G a c 0) (frG G) V := GM_cg (fun r c' => ⟨fun p => ⟨p.2.2, Or.inl ⟨p.1, p.2.1⟩⟩, fun p => by
        rcases p.2 with u | ⟨_, u⟩
        · exact ⟨u.1, u.2, p.1⟩
        · exact absurd u (Nat.not_lt_zero r)⟩) g
      obtain ⟨V', x2', y4', M3, e3, hx', S3, g3, k3⟩ := m_sp24n (D := D) hD W (a := a) c3 (hR G) 0 V x2 y4 N (by omega) hx c5 c6 g0
      rw [r1, pbI_rI, if_neg (by decide), show (.inl 0 : pV) = .inl ((0 : Nat) : Int) from rfl, e3] at e
      intro hy
      refine (ih (c + 1) V' x2' _ y4' M3 (by omega) (by omega) hx' S3 (GM_cg (fun r c' => ⟨fun p => ?_, fun p => ?_⟩) g3) e hy).trans (by rw [k3, n1 60 16 (by decide) (by decide) (by omega)])
      · rcases p.2 with u | u
        · exact ⟨u.1, by omega, p.1⟩
        · exact ⟨u.2, by omega, p.1⟩
      · refine ⟨p.2.2, ?_⟩
        rcases Nat.lt_or_ge c' a with u | u
        · exact Or.inl ⟨p.1, u⟩
        · rcases Nat.lt_or_ge c' c with u2 | u2
          · have := c4 c' u u2
            rw [p.2.2] at this; cases this
          · exact Or.inr ⟨by have := p.2.1; omega, p.1⟩
    · rw [r1, pbI_rI, if_pos (by decide)] at e
      intro hy
      by_cases z : V = -1
      · rw [if_neg (fun w => w (by rw [z]))] at e
        rw [← (rI_inj e).2]
        exact n1 60 16 (by decide) (by decide) (by omega)
      · rw [if_pos (by rw [eq32_iff] <;> omega)] at e
        obtain ⟨_, -, e⟩ := pbN_inv e
        obtain ⟨_, -, e⟩ := pbN_inv e
        have e0 := (rI_inj e).1
        omega
theorem mu_space (W : WF G) (hM : gM gAll M) (h38 : M 60 38 = 0) (Y : MG M G) (e2 : xF 1000 240 [.inr 62] M = rI y M2) (hy : y < 0) : M2 60 16 = M 60 16 := by
  have t2 : xF (998 + 1 + 1) 240 [.inr 62] M = rI y M2 := e2
  have hw1 := W.1
  have Y1 := MG_thr Y
  have k0 : pset M 60 17 0 60 16 = M 60 16 := pset_ne2 (by decide)
  rw [T_M_space, Y1.1.1] at t2
  rcases Nat.eq_zero_or_pos (hR G) with z | z
  · rw [z, if_neg (fun w => w (by decide))] at t2
    rw [← (rI_inj t2).2, k0]
  · obtain ⟨N, g2, k16, k3, p1, p2⟩ := mr_begin W hM h38 Y
    rw [if_pos (by rw [eq32_iff] <;> omega)] at t2
    rcases Classical.em (tmG G) with q | q
    · rw [p1 q, pbI_rI, if_neg (by decide)] at t2
      rw [← (rI_inj t2).2, k16]
    · have hW : hR G ^ nC G ≤ 20000 := by unfold tmG at q; omega
      obtain ⟨p3, p4⟩ := p2 q
      rw [p3, pbI_rI, if_pos (by decide), T_M_beginRows, pbN_rV] at t2
      rw [m_sp19n (D := 998 + 1) (by omega) W hW (hR G ^ nC G + 1) 0 (-1) 0 _ _ _ (by omega) (Nat.zero_le _) (by omega) p4 ⟨fun r c p => absurd p.2.1 (Nat.not_lt_zero c), Or.inl ⟨rfl, fun r c p => absurd p.2.1 (Nat.not_lt_zero c)⟩⟩ t2 hy, pset_ne2 (by decide), k16]
theorem m_ful18n (hD : 3 ≤ D) (W : WF G) (hW : hR G ^ nC G ≤ 20000) {b : Nat} (hb : b < hR G) : ∀ m a (y3 : pV) (M : pM), hR G ^ nC G - a + 1 ≤ m → a ≤ hR G ^ nC G → SR M G a → xE D 244 18 [.inr 62, .inl (b : Int), .inl (mxV (fnG G) (ldG G b) (-1) a), y3] [] M = rI y M2 → y < 0 → M2 60 16 = M 60 16 := by
  have w1 := W.1
  have w2 := W.2.1
  intro m
  induction m with
  | zero => intro a y3 M hm; omega
  | succ m ih =>
    intro a y3 M hm ha S e
    have mr := mxV_range (fine := fnG G) (z := -1) (fun c => (show -1 ≤ ldG G b c ∧ ldG G b c ≤ 9900 by have := ldG_range W b c; omega)) (by omega) a
    obtain ⟨N, n1, g1, r⟩ := m_nextG (d := D) (by omega) W hW ha S
    rw [L_M_fullest_18] at e
    rcases r with ⟨r1, c, c1, c2, c3, c4, c5, c6⟩ | ⟨r1, nf⟩
    · have lr := ldG_range W b c
      have s := mxV_next (val := ldG G b) (z := -1) c1 c4 c3 (by omega)
      have k61 : N 61 b = G 1 b := c5.2.1.2.2.2.1 b hb
      rw [r1, pbI_rI, if_neg (by decide), if_pos (by omega), m_freeG (by omega) W c5 c6 hb, pbI_rI, Int.toNat_natCast, k61, show G 1 b - (G 1 b - ldG G b c) = ldG G b c by omega] at e
      by_cases z : mxV (fnG G) (ldG G b) (-1) a < ldG G b c
      · rw [if_pos z] at s
        obtain ⟨N2, u1, u2, u3⟩ := u_take (d := D) (by omega) g1
        rw [if_pos (by rw [lt32_iff] <;> omega), u1, pbN_rV, ← s] at e
        intro hy
        rw [ih (c + 1) _ N2 (by omega) (by omega) (SR_Fr u3 u2 (by decide) c5) e hy, u3 60 16 (by decide), n1 60 16 (by decide) (by decide) (by omega)]
      · rw [if_neg z] at s
        rw [if_neg (by rw [lt32_iff] <;> omega), ← s] at e
        intro hy
        rw [ih (c + 1) _ N (by omega) (by omega) c5 e hy, n1 60 16 (by decide) (by decide) (by omega)]
    · rw [r1, pbI_rI, if_pos (by decide)] at e
      by_cases z : mxV (fnG G) (ldG G b) (-1) a = -1
      · rw [if_neg (fun w => w (by rw [z]))] at e
        intro _
        rw [← (rI_inj e).2]
        exact n1 60 16 (by decide) (by decide) (by omega)
      · rw [if_pos (by rw [eq32_iff] <;> omega)] at e
        obtain ⟨_, -, e⟩ := pbN_inv e
        have e0 := (rI_inj e).1
        intro hy
        omega
theorem mu_fullest (W : WF G) (hM : gM gAll M) (h38 : M 60 38 = 0) (Y : MG M G) {a1 : Int} (h1 : -2147483648 ≤ a1 ∧ a1 ≤ 2147483647) (e2 : xF 1000 244 [.inr 62, .inl a1] M = rI y M2) (hy : y < 0) : M2 60 16 = M 60 16 := by
  have t2 : xF (998 + 1 + 1) 244 [.inr 62, .inl a1] M = rI y M2 := e2
  have hw1 := W.1
  have Y1 := MG_thr Y
  have k0 : pset M 60 17 0 60 16 = M 60 16 := pset_ne2 (by decide)
  rw [T_M_fullest, m_isRoom (by omega) Y1.1.1 hw1 (by omega) (by omega), pbI_rI, ite01pn] at t2
  by_cases q1 : 0 ≤ a1 ∧ a1 < (hR G : Int)
  · rw [if_pos q1] at t2
    obtain ⟨b, rfl⟩ := natI q1.1
    have hb : b < hR G := by omega
    obtain ⟨N, g2, k16, k3, p1, p2⟩ := mr_begin W hM h38 Y
    rcases Classical.em (tmG G) with q | q
    · rw [p1 q, pbI_rI, if_neg (by decide)] at t2
      rw [← (rI_inj t2).2, k16]
    · have hW : hR G ^ nC G ≤ 20000 := by unfold tmG at q; omega
      obtain ⟨p3, p4⟩ := p2 q
      rw [p3, pbI_rI, if_pos (by decide), T_M_beginRows, pbN_rV] at t2
      rw [m_ful18n (D := 998 + 1) (by omega) W hW hb (hR G ^ nC G + 1) 0 _ _ (by omega) (Nat.zero_le _) p4 t2 hy, pset_ne2 (by decide), k16]
  · rw [if_neg q1] at t2
    rw [← (rI_inj t2).2, k0]
theorem m_bs27n (hD : 5 ≤ D) (W : WF G) (hW : hR G ^ nC G ≤ 20000) {k V : Nat} {x1 : Int} (hk : k < hR G) (L : LBd G k V) (hx : bdX x1 V) : ∀ n (a b s : Nat) (y6 : pV) (M : pM), a ≤ b → b ≤ V → b - a ≤ n → (∀ m : Nat, m < a → ¬ ndW G k (m : Int)) → (b = V ∨ ndW G k (b : Int)) → SR M G s → ∃ (z1 : Int) (V' : Nat) (y4 y5 y6' : pV) (M' : pM) (s' : Nat), LBd G (k + 1) V' ∧ bdX z1 V' ∧ SR M' G s' ∧ xE D 248 27 [.inr 62, .inl x1, .inl (V : Int), .inl (k : Int), .inl (a : Int), .inl (b : Int), y6] [] M = xE D 248 19 [.inr 62, .inl z1, .inl (V' : Int), .inl ((k + 1 : Nat) : Int), y4, y5, y6'] [] M' ∧ M' 60 16 = M 60 16 := by
  have w1 := W.1
  have hV := L.1
  have fin : ∀ (a s : Nat) (y6 : pV) (M : pM), a ≤ V → (∀ m : Nat, m < a → ¬ ndW G k (m : Int)) → (a = V ∨ ndW G k (a : Int)) → SR M G s → ∃ (z1 : Int) (V' : Nat) (y4 y5 y6' : pV) (M' : pM) (s' : Nat), LBd G (k + 1) V' ∧ bdX z1 V' ∧ SR M' G s' ∧ xE D 248 27 [.inr 62, .inl x1, .inl (V : Int), .inl (k : Int), .inl (a : Int), .inl (a : Int), y6] [] M = xE D 248 19 [.inr 62, .inl z1, .inl (V' : Int), .inl ((k + 1 : Nat) : Int), y4, y5, y6'] [] M' ∧ M' 60 16 = M 60 16 := by
    intro a s y6 M ha h1 h2 S
    have L' := LB_step L ha h1 h2
    rw [L_M_build_27, if_pos (by rw [le32_iff] <;> omega), show ((k : Int) + 1) = ((k + 1 : Nat) : Int) by omega]
    by_cases q : a < V
    · rw [if_pos (by rw [lt32_iff] <;> omega)]
      exact ⟨(k : Int), a, _, _, _, M, s, L', Or.inr ⟨by omega, by omega, by omega⟩, S, rfl, rfl⟩
    · rw [if_neg (by rw [lt32_iff] <;> omega)]
      have e : a = V := by omega
      rw [e] at L' ⊢
      exact ⟨x1, V, _, _, _, M, s, L', hx, S, rfl, rfl⟩
  intro n
  induction n with
  | zero =>
    intro a b s y6 M hab hb hn h1 h2 S
    rw [show b = a by omega] at h2 hb ⊢
    exact fin a s y6 M hb h1 h2 S
  | succ n ih =>
    intro a b s y6 M hab hb hn h1 h2 S
    by_cases e : b ≤ a
    · rw [show b = a by omega] at h2 hb ⊢
      exact fin a s y6 M hb h1 h2 S
    · have em : jdiv ((a : Int) + (b : Int)) 2 = (((a + b) / 2 : Nat) : Int) := by
        rw [show (a : Int) + (b : Int) = ((a + b : Nat) : Int) by omega, show (2 : Int) = ((2 : Nat) : Int) from rfl, jdiv_nat (by omega) (by omega) (by omega)]
      obtain ⟨M1, s1, e1, e2, S1⟩ := m_enoughB (d := D) hD W hW S hk (m := (a + b) / 2) (by omega)
      obtain ⟨z9, M9, z1, -, z2, -⟩ := u_enough (d := D) (by omega) (a1 := (k : Int)) (a2 := (((a + b) / 2 : Nat) : Int)) S.1 (by omega) (by omega) (by rw [S.2.1.1]; omega)
      have k16 : M1 60 16 = M 60 16 := by
        by_cases q : ndW G k (((a + b) / 2 : Nat) : Int)
        · rw [← (rI_inj (z1.symm.trans (e1 q))).2]; exact z2 60 16 (by decide)
        · rw [← (rI_inj (z1.symm.trans (e2 q))).2]; exact z2 60 16 (by decide)
      rw [L_M_build_27, if_neg (by rw [le32_iff] <;> omega), em]
      by_cases q : ndW G k (((a + b) / 2 : Nat) : Int)
      · rw [e1 q, pbI_rI, if_neg (by decide)]
        rw [← k16]
        exact ih a ((a + b) / 2) s1 _ M1 (by omega) (by omega) (by omega) h1 (Or.inr q) S1
      · rw [e2 q, pbI_rI, if_pos (by decide), show (((a + b) / 2 : Nat) : Int) + 1 = (((a + b) / 2 + 1 : Nat) : Int) by omega]
        rw [← k16]
        exact ih ((a + b) / 2 + 1) b s1 _ M1 (by omega) hb (by omega) (fun m hm z => q (nd_mono (by omega) z)) h2 S1
theorem m_bs19n (hD : 5 ≤ D) (W : WF G) (hW : hR G ^ nC G ≤ 20000) : ∀ m k (x1 : Int) (V s : Nat) (y4 y5 y6 : pV) (M : pM), k + m = hR G → LBd G k V → bdX x1 V → SR M G s → xE D 248 19 [.inr 62, .inl x1, .inl (V : Int), .inl (k : Int), y4, y5, y6] [] M = rI y M2 → (y < 0 → M2 60 16 = M 60 16) ∧ (0 ≤ y → M2 60 16 = 1)
  | 0, k, x1, V, s, y4, y5, y6, M, hk, L, hx, S, e => by
    have w1 := W.1
    have hV := L.1
    rw [L_M_build_19, S.2.1.1, if_pos (by rw [le32_iff] <;> omega)] at e
    rcases hx with ⟨rfl, hx⟩ | ⟨hx1, hx2, hx3⟩
    · rw [if_neg (fun z => z (by decide))] at e
      obtain ⟨y1, y2⟩ := rI_inj e
      rw [← y2]
      exact ⟨fun _ => rfl, fun hy => by omega⟩
    · rw [if_pos (by rw [eq32_iff] <;> omega)] at e
      have tl : ∀ z : Int, (pbN (xF D 172 [.inr 62, .inl z] (pset M 60 16 0)) fun M1 => some (some (.inl (V : Int)), M1)) = rI y M2 → (y < 0 → M2 60 16 = M 60 16) ∧ (0 ≤ y → M2 60 16 = 1) := fun z e => by
        obtain ⟨N3, u0, e⟩ := pbN_inv e
        obtain ⟨N4, u1, u2, -⟩ := m_tellX (d := D) (M := pset M 60 16 0) (n := 0) (by omega) (by decide) pset_eq z
        have k := rV_inj (u1.symm.trans u0)
        obtain ⟨y1, y2⟩ := rI_inj e
        rw [← y2, ← k]
        exact ⟨fun hy => by omega, fun _ => by rw [u2]; rfl⟩
      split at e
      · exact tl _ e
      · exact tl _ e
  | m + 1, k, x1, V, s, y4, y5, y6, M, hk, L, hx, S, e => by
    have w1 := W.1
    have hV := L.1
    obtain ⟨z1, V', z4, z5, z6, M', s', L', hx', S', e', k16⟩ := m_bs27n hD W hW (show k < hR G by omega) L hx 100 0 V s y6 M (Nat.zero_le _) (Nat.le_refl _) (by omega) (fun m hm => absurd hm (Nat.not_lt_zero m)) (Or.inl rfl) S
    rw [L_M_build_19, S.2.1.1, if_neg (by rw [le32_iff] <;> omega), show (.inl 0 : pV) = .inl ((0 : Nat) : Int) from rfl, e'] at e
    rw [← k16]
    exact m_bs19n hD W hW m (k + 1) z1 V' s' z4 z5 z6 M' (by omega) L' hx' S' e
theorem mr_build (W : WF G) (hM : gM gAll M) (h38 : M 60 38 = 0) (Y : MG M G) (e2 : xF 1000 248 [.inr 62] M = rI y M2) : (y < 0 → M2 60 16 = M 60 16) ∧ (0 ≤ y → M2 60 16 = 1) := by
  have hw1 := W.1
  have t2 : xF (998 + 1 + 1) 248 [.inr 62] M = rI y M2 := e2
  have Y1 := MG_thr Y
  have k0 : pset M 60 17 0 60 16 = M 60 16 := pset_ne2 (by decide)
  rw [T_M_build, Y1.1.1] at t2
  by_cases q0 : hR G = 0
  · rw [if_neg (fun z => z (by rw [q0]; decide))] at t2
    obtain ⟨y1, y2⟩ := rI_inj t2
    rw [← y2]
    exact ⟨fun _ => k0, fun hy => by omega⟩
  · rw [if_pos (by rw [eq32_iff] <;> omega)] at t2
    obtain ⟨N, g2, k16, k3, p1, p2⟩ := mr_begin W hM h38 Y
    rcases Classical.em (tmG G) with q | q
    · rw [p1 q, pbI_rI, if_neg (by decide)] at t2
      obtain ⟨y1, y2⟩ := rI_inj t2
      rw [← y2]
      exact ⟨fun _ => k16, fun hy => by omega⟩
    · have hW : hR G ^ nC G ≤ 20000 := by unfold tmG at q; omega
      obtain ⟨p3, p4⟩ := p2 q
      have SN : SR N G (N 60 40 + 1).toNat := SR_n (M := pset N 60 40 (-1)) (a := 0) (fun o i _ _ c => by
        unfold pset
        rw [if_neg c]) g2 (by
        have b40 := gm_i g2 60 40 (lo := -1) (hi := 1000000) (by decide +kernel) (by decide +kernel)
        omega) p4
      rw [p3, pbI_rI, if_pos (by decide), show (.inl 100 : pV) = .inl ((100 : Nat) : Int) from rfl, show (.inl 0 : pV) = .inl ((0 : Nat) : Int) from rfl] at t2
      rw [← k16]
      exact m_bs19n (D := 998 + 1) (by omega) W hW (hR G) 0 (-1) 100 _ _ _ _ N (by omega) ⟨Nat.le_refl _, fun r m hr => absurd hr (Nat.not_lt_zero r), Or.inl rfl⟩ (Or.inl ⟨rfl, rfl⟩) SN t2
theorem m_be14n (hD : 392 ≤ D) (W : WF G) (hW : hR G ^ nC G ≤ 20000) : ∀ m a (x1 x2 : Int) (y3 : pV) (M : pM), hR G ^ nC G - a + 1 ≤ m → a ≤ hR G ^ nC G → SR M G a → ((x1 = 0 ∧ cntTo (fnG G) a = 0) ∨ (x1 = 1 ∧ cntTo (fnG G) a ≠ 0)) → xE D 236 14 [.inr 62, .inl x1, .inl x2, y3] [] M = rI y M2 → (y < 0 → M2 60 16 = M 60 16) ∧ (0 ≤ y → M2 60 16 = 1 + (hT G : Int)) := by
  have w1 := W.1
  have w2 := W.2.1
  intro m
  induction m with
  | zero => intro a x1 x2 y3 M hm; omega
  | succ m ih =>
    intro a x1 x2 y3 M hm ha S hx e
    obtain ⟨N, n1, g1, r⟩ := m_nextG (d := D) (by omega) W hW ha S
    rw [L_M_best_14] at e
    rcases r with ⟨r1, c, c1, c2, c3, c4, c5, c6⟩ | ⟨r1, nf⟩
    · have cc : cntTo (fnG G) (c + 1) ≠ 0 := by
        have e1 : cntTo (fnG G) (c + 1) = if fnG G c then cntTo (fnG G) c + 1 else cntTo (fnG G) c := rfl
        rw [e1, c3, if_pos rfl]
        exact Nat.succ_ne_zero _
      obtain ⟨z, N1, e1, g2, f1⟩ := m_worthAll78 (d := D) (by omega) g1 c5.2.1.2.1 w2 (fun t ht => by
        have := dg_lt (R := hR G) (C := nC G) (code := c) (by have := (W.2.2.2.2.2.2.2.1 t ht).2.2.2; omega) (oOf G t)
        rw [c6 t ht]
        unfold plG
        omega)
      have S1 := SR_wo f1 g2 c5
      have k1 : N1 60 16 = M 60 16 := by rw [f1 60 16 (by decide), n1 60 16 (by decide) (by decide) (by omega)]
      have tk : ∃ N4, xF D 233 [.inr 62] N1 = rV N4 ∧ SR N4 G (c + 1) ∧ N4 60 16 = M 60 16 := by
        obtain ⟨N2, u1, u2, u3⟩ := u_take (d := D) (by omega) S1.1
        exact ⟨N2, u1, SR_Fr u3 u2 (by decide) S1, by rw [u3 60 16 (by decide), k1]⟩
      obtain ⟨N4, t1, t2, t3⟩ := tk
      rw [r1, pbI_rI, if_neg (by decide), e1, pbI_rI] at e
      rcases hx with ⟨rfl, hx⟩ | ⟨rfl, hx⟩
      · rw [if_pos (by decide), t1, pbN_rV] at e
        rw [← t3]
        exact ih (c + 1) 1 _ _ N4 (by omega) (by omega) t2 (Or.inr ⟨rfl, cc⟩) e
      · rw [if_neg (by decide)] at e
        split at e
        · rw [t1, pbN_rV] at e
          rw [← t3]
          exact ih (c + 1) 1 _ _ N4 (by omega) (by omega) t2 (Or.inr ⟨rfl, cc⟩) e
        · rw [← k1]
          exact ih (c + 1) 1 _ _ N1 (by omega) (by omega) S1 (Or.inr ⟨rfl, cc⟩) e
    · have to := cnt_to (fine := fnG G) ha nf
      rw [r1, pbI_rI, if_pos (by decide)] at e
      rcases hx with ⟨rfl, hx⟩ | ⟨rfl, hx⟩
      · rw [if_neg (fun w => w (by decide))] at e
        obtain ⟨y1, y2⟩ := rI_inj e
        rw [← y2]
        exact ⟨fun _ => n1 60 16 (by decide) (by decide) (by omega), fun hy => by omega⟩
      · rw [if_pos (by decide)] at e
        obtain ⟨N3, u0, e⟩ := pbN_inv e
        obtain ⟨N5, u9, e⟩ := pbN_inv e
        obtain ⟨N4, u1, u2, u3⟩ := m_tellX (d := D) (M := pset N 60 16 0) (n := 0) (by omega) (by decide) pset_eq x2
        have k := rV_inj (u1.symm.trans u0)
        rw [← k] at u9
        have r16 := m_tellRn (d := D) (M := N4) (by omega) w2 (by rw [u3 60 3 (by decide) (by decide), pset_ne2 (by decide), n1 60 3 (by decide) (by decide) (by omega)]; exact S.2.1.2.1) (s := 1) u2 (by decide) u9
        obtain ⟨y1, y2⟩ := rI_inj e
        rw [← y2]
        exact ⟨fun hy => by omega, fun _ => by rw [r16]; omega⟩
theorem mr_best (W : WF G) (hM : gM gAll M) (h38 : M 60 38 = 0) (Y : MG M G) (e2 : xF 1000 236 [.inr 62] M = rI y M2) : (y < 0 → M2 60 16 = M 60 16) ∧ (0 ≤ y → M2 60 16 = 1 + (hT G : Int)) := by
  have t2 : xF (998 + 1 + 1) 236 [.inr 62] M = rI y M2 := e2
  obtain ⟨N, g2, k16, k3, p1, p2⟩ := mr_begin W hM h38 Y
  rw [T_M_best] at t2
  rcases Classical.em (tmG G) with q | q
  · rw [p1 q, pbI_rI, if_neg (by decide)] at t2
    obtain ⟨y1, y2⟩ := rI_inj t2
    rw [← y2]
    exact ⟨fun _ => k16, fun hy => by omega⟩
  · have hW : hR G ^ nC G ≤ 20000 := by unfold tmG at q; omega
    obtain ⟨p3, p4⟩ := p2 q
    rw [p3, pbI_rI, if_pos (by decide), T_M_beginRows, pbN_rV] at t2
    have r := m_be14n (D := 998 + 1) (by omega) W hW (hR G ^ nC G + 1) 0 0 0 _ _ (by omega) (Nat.zero_le _) p4 (Or.inl ⟨rfl, rfl⟩) t2
    rw [pset_ne2 (by decide), k16] at r
    exact r
theorem m_wyvn (hD : 1 ≤ D) (x1 x2 x3 : Int) : ∀ (k s : Nat) (x4 : Int) (y : pV) (M M' : pM) (z : Int), s + k ≤ 12 → M 60 16 = (s : Int) → xE D 250 45 [.inr 62, .inl x1, .inl x2, .inl x3, .inl x4, .inl ((k : Int) - 1), y] [] M = rI z M' → z = x3 ∧ M' 60 16 = ((s + k : Nat) : Int)
  | 0, s, x4, y, M, M', z, _, h16, e => by
    rw [L_M_way_45, if_pos (by decide)] at e
    obtain ⟨y1, y2⟩ := rI_inj e
    rw [← y2]
    exact ⟨y1.symm, h16⟩
  | k + 1, s, x4, y, M, M', z, hk, h16, e => by
    rw [L_M_way_45, if_neg (by rw [lt32_iff] <;> omega)] at e
    have inner : ∀ (m x : Nat) (M : pM), x + m = 6 → M 60 16 = (s : Int) → xE D 250 49 [.inr 62, .inl x1, .inl x2, .inl x3, .inl x4, .inl (((k + 1 : Nat) : Int) - 1), .inl (x : Int)] [] M = rI z M' → z = x3 ∧ M' 60 16 = ((s + (k + 1) : Nat) : Int) := by
      intro m
      induction m with
      | zero =>
        intro x M hx h16 e
        rw [L_M_way_49, if_neg (by omega)] at e
        cases e
      | succ m ih =>
        intro x M hx h16 e
        have nx := ih (x + 1) M (by omega) h16
        rw [L_M_way_49, if_pos (by omega), show ((x : Int) + 1) = ((x + 1 : Nat) : Int) by omega] at e
        split at e
        · exact nx e
        · split at e
          · split at e
            · split at e
              · obtain ⟨M2, u0, e3⟩ := pbN_inv e
                obtain ⟨M4, u1, u2, -⟩ := m_tellX (d := D) (M := M) (n := s) hD (by omega) h16 (x : Int)
                have kk := rV_inj (u1.symm.trans u0)
                rw [← kk, show (((k + 1 : Nat) : Int) - 1 + (-1)) = (k : Int) - 1 by omega] at e3
                have r := m_wyvn hD x1 x2 x3 k (s + 1) _ _ M4 M' z (by omega) u2 e3
                rw [show s + (k + 1) = s + 1 + k by omega]
                exact r
              · exact nx e
            · cases e
          · cases e
    exact inner 6 0 M (by omega) h16 e
theorem mr_way (W : WF G) (Y : MG M G) {a1 a2 : Int} (h1 : -2147483648 ≤ a1 ∧ a1 ≤ 2147483647) (h2 : -2147483648 ≤ a2 ∧ a2 ≤ 2147483647) (e2 : xF 1000 250 [.inr 62, .inl a1, .inl a2] M = rI y M2) : (y < 0 → M2 60 16 = M 60 16) ∧ (0 ≤ y → M2 60 16 = y) := by
  have w1' := W.1
  have w2' := W.2.1
  have Y1 := MG_thr Y
  have t2 : xF (999 + 1) 250 [.inr 62, .inl a1, .inl a2] M = rI y M2 := e2
  have k0 : pset M 60 17 0 60 16 = M 60 16 := pset_ne2 (by decide)
  rw [T_M_way] at t2
  generalize pset M 60 17 0 = N at Y1 t2 k0
  rw [m_isThing (by decide) Y1.1.2.1 (by omega) (by omega) (by omega), pbI_rI] at t2
  by_cases q1 : 0 ≤ a1 ∧ a1 < (hT G : Int)
  · rw [if_pos q1, if_neg (by decide), m_isRoom (by decide) Y1.1.1 (by omega) (by omega) (by omega), pbI_rI] at t2
    by_cases q2 : 0 ≤ a2 ∧ a2 < (hR G : Int)
    · obtain ⟨x, rfl⟩ := natI q1.1
      obtain ⟨r, rfl⟩ := natI q2.1
      have hw := W.2.2.2.2.2.2.2.1 x (by omega)
      obtain ⟨z, hz⟩ := natI hw.2.2.2.1
      obtain ⟨-, y2, -, y4⟩ := Y1.1.2.2.2.2.2.1 x (by omega)
      have i0 : (0 : Int) ≤ (x : Int) ∧ (x : Int) < 10 := by omega
      have sr := stp_range W (G 4 x) z r
      obtain ⟨N1, e3, r3, f3⟩ := m_far (d := 999) (M := N) (by decide) W hw.2.1.1 hw.2.1.2 (show r < hR G by omega) Y1.1.2.2.2.2.1 Y1.1.1
      have ef : N1 74 z = fv G (G 4 x) z r := by rw [r3 z (by omega), fv_comm W (by omega) (by omega)]
      rw [if_pos q2, if_pos (by decide), if_pos i0, Int.toNat_natCast, y2, e3, pbN_rV, if_pos i0, f3 66 x (by decide), y4, hz, if_pos (by omega), Int.toNat_natCast, ef] at t2
      unfold fv at t2
      by_cases q3 : stp G (G 4 x) z r < 0
      · rw [if_pos q3, if_neg (by decide)] at t2
        obtain ⟨y1, y2⟩ := rI_inj t2
        rw [← y2]
        exact ⟨fun _ => by rw [f3 60 16 (by decide)]; exact k0, fun hy => by omega⟩
      · rw [if_neg q3, if_pos (by rw [lt32_iff] <;> omega), if_pos i0] at t2
        obtain ⟨n, hn⟩ := natI (show 0 ≤ stp G (G 4 x) z r by omega)
        rw [hn] at t2 sr
        obtain ⟨y1, y2⟩ := m_wyvn (D := 999) (by decide) _ _ _ n 0 _ _ _ _ _ (by omega) pset_eq t2
        exact ⟨fun hy => by omega, fun _ => by rw [y2, y1]; omega⟩
    · rw [if_neg q2, if_neg (fun z => z rfl)] at t2
      obtain ⟨y1, y2⟩ := rI_inj t2
      rw [← y2]
      exact ⟨fun _ => k0, fun hy => by omega⟩
  · rw [if_neg q1, if_pos rfl] at t2
    obtain ⟨y1, y2⟩ := rI_inj t2
    rw [← y2]
    exact ⟨fun _ => k0, fun hy => by omega⟩
theorem mu_day (hd : 7 ≤ d) (W : WF G) (X : MG M G) (hn : 0 ≤ G 9 0 ∧ G 9 0 ≤ 20) (hL : L ≤ 80) (h14 : M 60 14 = (L : Int)) (ht : ∀ i, i < 80 → M 68 i = tx i) (hx : ∀ i, i < 80 → -128 ≤ tx i ∧ tx i ≤ 127) {v : Int} (ee : xF d 219 [.inr 62] M = rI v M') (hv : v < 0) : M' 60 16 = M 60 16 := by
  have e0 := ee
  obtain ⟨D, rfl, hD⟩ := dsucc hd
  obtain ⟨D', rfl, -⟩ := dsucc (show 1 ≤ D by omega)
  rw [T_M_day, T_M_begin_68, pbN_rV] at ee
  generalize hB : pset (pset (pset (pset (pset (pset (pset M 60 17 0) 60 18 70) 60 19 (pset M 60 17 0 60 14)) 60 20 40) 60 21 0) 60 22 (-1)) 60 14 0 = MB at ee
  have F0 : AGy M MB := fun o i _ q => by
    rw [← hB]
    unfold pset
    rw [if_neg (fun z => q ⟨z.1, by omega⟩), if_neg (fun z => q ⟨z.1, by omega⟩), if_neg (fun z => q ⟨z.1, by omega⟩), if_neg (fun z => q ⟨z.1, by omega⟩), if_neg (fun z => q ⟨z.1, by omega⟩), if_neg (fun z => q ⟨z.1, by omega⟩), if_neg (fun z => q ⟨z.1, by omega⟩)]
  have e19 : MB 60 19 = (L : Int) := by
    rw [← hB, pset_ne2 (by decide), pset_ne2 (by decide), pset_ne2 (by decide), pset_ne2 (by decide), pset_eq, pset_ne2 (by decide)]; exact h14
  have rB : RSt tx L 40 MB (.inr 0) := by
    refine ⟨?_, e19, ?_, by omega, by decide, fun i hi => (F0 68 i (by decide) (by omega)).trans (ht i hi), hx, ?_, ?_, ?_, by omega, ?_⟩
    · rw [← hB, pset_ne2 (by decide), pset_ne2 (by decide), pset_ne2 (by decide), pset_ne2 (by decide), pset_ne2 (by decide), pset_eq]
    · rw [← hB, pset_ne2 (by decide), pset_ne2 (by decide), pset_ne2 (by decide), pset_eq]; rfl
    · rw [← hB, pset_ne2 (by decide), pset_ne2 (by decide), pset_eq]; decide
    · rw [← hB, pset_ne2 (by decide), pset_ne2 (by decide), pset_eq]; decide
    · rw [← hB, pset_ne2 (by decide), pset_ne2 (by decide), pset_eq]; rfl
    · rw [← hB, pset_ne2 (by decide), pset_eq]
  have ag : ∀ {M1 : pM}, AGy M M1 → MG M1 G := fun F => MG_ag (fun o i q => F o i (fun z => by rw [z] at q; cases q) (fun z => by
    obtain ⟨z1, z2⟩ := z
    rw [z1] at q
    rcases z2 with z2 | z2 | z2 | z2 | z2 | z2 | z2 <;> (rw [z2] at q; cases q))) X
  have main : ∀ e : Option pR, (dyF tx L ≠ -1 → ∃ M1, e = rI (-1 - dyF tx L) M1 ∧ AGy M M1) → (dyF tx L = -1 → ∃ (x2 : Int) (M1 : pM), e = xE (D' + 1) 219 96 [.inr 62, .inl (((L + 1) / 4 : Nat) : Int), .inl x2, .inl 0, .inl 0] [] M1 ∧ TL tx ((L + 1) / 4) M1 ∧ AGy M M1) → e = rI v M' → M' 60 16 = M 60 16 := by
    intro e p1 p2 h
    by_cases z : dyF tx L = -1
    · have := ((mg_day hd W X hn hL h14 ht hx e0).2 z).1
      omega
    · obtain ⟨M1, e1, F1⟩ := p1 z
      rw [(rI_inj (h.symm.trans e1)).2]
      exact F1 60 16 (by decide) (by omega)
  rw [e19] at ee
  by_cases q : L = 0
  · have uF : dyF tx L = -1 := if_pos q
    rw [if_pos (by rw [q]; decide)] at ee
    refine main _ (fun z => absurd uF z) (fun _ => ?_) ee
    have k21 := rB.2.2.2.2.2.2.2.2.2.1
    rw [L_M_day_22, if_pos rfl, e19, k21, if_pos (by rw [q]; decide), m_fineG (by omega) rB, pbI_rI, if_pos (by decide)]
    refine ⟨0, MB, by rw [show (L + 1) / 4 = 0 by omega]; rfl, fun k hk => by omega, F0⟩
  · have uF : dyF tx L = dyG L (dyS tx (min L 40) 11 0) := if_neg q
    rw [if_neg (by rw [le32_iff] <;> omega)] at ee
    have := m_dy22 (tx := tx) (M0 := M) (D := D' + 1) (L := L) (by omega) 11 0 MB (by omega) rB (fun k hk => absurd hk (Nat.not_lt_zero k)) F0
    obtain ⟨p1, p2⟩ := this
    rw [show 4 * 0 = 0 from rfl, ← uF] at p1 p2
    exact main _ p1 p2 ee
theorem mu_judge {a1 a2 : Int} (h1 : -2147483648 ≤ a1 ∧ a1 ≤ 2147483647) (q : ¬ (0 ≤ a1 ∧ a1 ≤ 4)) (e2 : xF 1000 221 [.inr 62, .inl a1, .inl a2] M = rI y M2) : M2 60 16 = M 60 16 := by
  have t2 : xF (999 + 1) 221 [.inr 62, .inl a1, .inl a2] M = rI y M2 := e2
  rw [T_M_judge, m_in (by omega), pbI_rI] at t2
  have hin : lt32 a1 0 ∨ lt32 4 a1 := by
    by_cases z : a1 < 0
    · exact Or.inl (by rw [lt32_iff] <;> omega)
    · exact Or.inr (by rw [lt32_iff] <;> omega)
  rw [if_pos hin, if_neg (fun z => z (by decide))] at t2
  rw [← (rI_inj t2).2]
  exact pset_ne2 (by decide)
end RWB
/-! how many numbers are told by queue, evenings, weakest (by program, out of 86) -/
section RWC
variable {D d R n T S C x1 : Nat} {M M' M0 M1 M2 N G h : pM} {p : Nat → Int} {w1 w2 : List (Nat × Nat)} {v y w : Int} {sv : Nat → Nat}
theorem m_q146n (hD : 4 ≤ D) (hF : FCx N S T sv) (h0 : N 60 0 = (R : Int)) (hR : R ≤ 6) (hx : x1 < 1024) : ∀ (m s k : Nat) (y : pV) (M : pM), x1 ≤ s + m → s < 1024 → nan s x1 = 0 → gM gAll M → QF T N M → M 60 16 = (k : Int) → k = popc s → M 82 s ≠ 0 → (∀ s', s' < 1024 → nan s' x1 = 0 → CCs N M S T R sv x1 s') → ∃ M', xE D 259 146 [.inr 62, .inl (x1 : Int), .inl (s : Int), y] [] M = rI (popc x1 : Nat) M' ∧ M' 60 16 = ((popc x1 : Nat) : Int) := by
  have fin : ∀ (s : Nat) (y : pV) (M : pM), s = x1 → M 60 16 = ((popc s : Nat) : Int) → ∃ M', xE D 259 146 [.inr 62, .inl (x1 : Int), .inl (s : Int), y] [] M = rI (popc x1 : Nat) M' ∧ M' 60 16 = ((popc x1 : Nat) : Int) := fun s y M hs h => by
    rw [L_M_queue_146, if_pos (by rw [hs]), j_bitCount (by omega) hx, pbI_rI]
    exact ⟨M, rfl, by rw [h, hs]⟩
  intro m
  induction m with
  | zero =>
    intro s k y M hm hs hn g hq h16 hk h82 hcc
    exact fin s y M (by have := nan_le2 hn; omega) (by rw [h16, hk])
  | succ m ih =>
    intro s k y M hm hs hn g hq h16 hk h82 hcc
    by_cases q : s = x1
    · exact fin s y M q (by rw [h16, hk])
    · have hp := popc_le s
      rcases hcc s hs hn with h | h | ⟨c, d1, d2, d3, d4, d5⟩
      · exact absurd h h82
      · exact absurd h q
      · rw [L_M_queue_146, if_neg (by rw [eq32_iff] <;> omega)]
        obtain ⟨c', M', r1, r2, r3, r4, r5, r6, r7, r8, r9⟩ := m_q151 (k := k) hD hF h0 hR hx hs (by omega) d1 d2 d3 d5 c 0 M (by omega) g hq h16 d4
        have o2 := or_gt r4
        have o3 := popc_or1 r2 r4
        rw [show (.inl 0 : pV) = .inl ((0 : Nat) : Int) from rfl, r1]
        exact ih (s ||| 2 ^ c') (k + 1) _ M' (by omega) (or_bit r2 hs) (nan_or hn r3) r6 r7 r9 (by omega) r5 (fun s' a b => CCs_congr (hcc s' a b) r8)
theorem m_q89n (hD : 4 ≤ D) (hF : FCx N S T sv) (h0 : N 60 0 = (R : Int)) (hR : R ≤ 6) (hC : N 60 30 = (C : Int)) (hC2 : C ≤ 10) (hx : x1 < 1024) (xC : ∀ c, x1.testBit c = true → c < C) {s : Nat} (hs : s < 1024) : ∀ (m x : Nat) (M : pM), x + m = C → gM gAll M → QF T N M → ∃ y M', xE D 259 89 [.inr 62, .inl (x1 : Int), .inl (s : Int), .inl (x : Int)] [] M = xE D 259 68 [.inr 62, .inl (x1 : Int), .inl ((s : Int) + (-1)), y] [] M' ∧ gM gAll M' ∧ QF T N M' ∧ (∀ i, i ≠ s → M' 82 i = M 82 i) ∧ (M' 82 s ≠ 0 ↔ M 82 s ≠ 0 ∨ rQ N M S T R sv x1 s x) ∧ M' 60 16 = M 60 16 := by
  have i1 : (0 : Int) ≤ (s : Int) ∧ (s : Int) < 1024 := by omega
  have g82 : ∀ {M : pM} {v : Int}, gM gAll M → 0 ≤ v → v ≤ 1 → gM gAll (pset M 82 s v) := fun g a b => gM_r g (lo := 0) (hi := 1) (by decide +kernel) (by decide +kernel) a b
  intro m
  induction m with
  | zero =>
    intro x M hm g hq
    rw [L_M_queue_89, hq 60 30 (by decide) (by decide) (by decide) (by omega), hC, if_pos (by rw [le32_iff] <;> omega)]
    exact ⟨_, M, rfl, g, hq, fun _ _ => rfl, ⟨Or.inl, fun z => z.elim id (fun ⟨c, c1, c2, c3, _⟩ => absurd (xC c c3) (by omega))⟩, rfl⟩
  | succ m ih =>
    intro x M hm g hq
    have b82 := gm_r g (o := 82) (lo := 0) (hi := 1) (by decide +kernel) (by decide +kernel) (k := s) (show s < 1024 from hs)
    have hp : 2 ^ x < 2147483648 := Nat.lt_of_lt_of_le (Nat.pow_lt_pow_right (by decide) (show x < 31 by omega)) (Nat.le_refl (2 ^ 31))
    have hn := nan_le x1 s
    rw [L_M_queue_89, hq 60 30 (by decide) (by decide) (by decide) (by omega), hC, if_neg (by rw [le32_iff] <;> omega), if_pos i1, Int.toNat_natCast]
    by_cases q : eq32 (M 82 s) 0
    · have q0 : M 82 s = 0 := (eq32_iff (by omega) (by omega) (by omega) (by omega)).mp q
      have no : ∀ M3 : pM, gM gAll M3 → QF T N M3 → (∀ i, M3 82 i = M 82 i) → M3 60 16 = M 60 16 → ¬ (x1.testBit x = true ∧ s.testBit x = false ∧ M 82 (s ||| 2 ^ x) ≠ 0 ∧ LW N S T R sv (s ||| 2 ^ x) = true) → ∃ y M', xE D 259 89 [.inr 62, .inl (x1 : Int), .inl (s : Int), .inl ((x + 1 : Nat) : Int)] [] (pset M3 82 s 0) = xE D 259 68 [.inr 62, .inl (x1 : Int), .inl ((s : Int) + (-1)), y] [] M' ∧ gM gAll M' ∧ QF T N M' ∧ (∀ i, i ≠ s → M' 82 i = M 82 i) ∧ (M' 82 s ≠ 0 ↔ M 82 s ≠ 0 ∨ rQ N M S T R sv x1 s x) ∧ M' 60 16 = M 60 16 := by
        intro M3 g3 q3 k k16 z
        obtain ⟨y, M', e, g', q', o, h, h16⟩ := ih (x + 1) (pset M3 82 s 0) (by omega) (g82 g3 (by decide) (by decide)) (QF_82 q3)
        refine ⟨y, M', e, g', q', fun i hi => by rw [o i hi, pset_ne2 hi, k], h.trans ?_, by rw [h16, pset_ne (by decide), k16]⟩
        rw [pset_eq, q0]
        have tr : ∀ c, s.testBit c = false → pset M3 82 s 0 82 (s ||| 2 ^ c) = M 82 (s ||| 2 ^ c) := fun c hc => by
          have := or_gt hc
          rw [pset_ne2 (by omega), k]
        constructor
        · rintro (w | ⟨c, c1, c2, c3, c4, c5, c6⟩)
          · exact absurd rfl w
          · exact Or.inr ⟨c, by omega, c2, c3, c4, by rw [← tr c c4]; exact c5, c6⟩
        · rintro (w | ⟨c, c1, c2, c3, c4, c5, c6⟩)
          · exact absurd rfl w
          · have : c ≠ x := fun w => z (by rw [← w]; exact ⟨c3, c4, c5, c6⟩)
            exact Or.inr ⟨c, by omega, c2, c3, c4, by rw [tr c c4]; exact c5, c6⟩
      rw [if_neg (fun z => z q), jxor_m1 (by omega), jand_not (by omega) (by omega), m_has (by omega) (by omega) (by omega), pbI_rI, jshl_one x (by omega), jor_nat (by omega) hp, show ((x : Int) + 1) = ((x + 1 : Nat) : Int) by omega]
      by_cases q2 : (nan x1 s).testBit x = true
      · have q3 : x1.testBit x = true ∧ s.testBit x = false := by
          rw [nan_bit, Bool.and_eq_true] at q2
          exact ⟨q2.1, by rw [← Bool.not_eq_true']; exact q2.2⟩
        have o1 := or_bit (c := x) (by omega) hs
        have b82' := gm_r g (o := 82) (lo := 0) (hi := 1) (by decide +kernel) (by decide +kernel) (k := s ||| 2 ^ x) (show s ||| 2 ^ x < 1024 from o1)
        rw [if_pos q2, if_neg (by decide), if_pos (by omega), Int.toNat_natCast]
        by_cases q4 : eq32 (M 82 (s ||| 2 ^ x)) 0
        · rw [if_pos q4, if_pos i1]
          exact no M g hq (fun _ => rfl) rfl (fun z => z.2.2.1 ((eq32_iff (by omega) (by omega) (by omega) (by omega)).mp q4))
        · obtain ⟨M3, e3, g3, f3⟩ := m_with (d := D) hD hF h0 hR hq g o1
          have k82 : ∀ i, M3 82 i = M 82 i := fun i => f3 82 i (by omega)
          rw [if_neg q4, e3, pbI_rI]
          by_cases q5 : LW N S T R sv (s ||| 2 ^ x) = true
          · rw [if_pos q5, if_neg (by decide), if_pos i1]
            obtain ⟨y, M', e, g', q', o, h, h16⟩ := ih (x + 1) (pset M3 82 s 1) (by omega) (g82 g3 (by decide) (by decide)) (QF_82 (QF_tr hq f3))
            exact ⟨y, M', e, g', q', fun i hi => by rw [o i hi, pset_ne2 hi, k82], ⟨fun _ => Or.inr ⟨x, Nat.le_refl x, by omega, q3.1, q3.2, fun z => q4 (by rw [z]), q5⟩, fun _ => h.mpr (Or.inl (by rw [pset_eq]; decide))⟩, by rw [h16, pset_ne (by decide)]; exact f3 60 16 (by omega)⟩
          · rw [if_neg q5, if_pos rfl, if_pos i1]
            exact no M3 g3 (QF_tr hq f3) k82 (f3 60 16 (by omega)) (fun z => q5 z.2.2.2)
      · rw [if_neg q2, if_pos rfl, if_pos i1]
        exact no M g hq (fun _ => rfl) rfl (fun z => q2 (by rw [nan_bit, z.1, z.2.1]; rfl))
    · rw [if_pos q]
      exact ⟨_, M, rfl, g, hq, fun _ _ => rfl, ⟨Or.inl, fun _ z => q (by rw [z])⟩, rfl⟩
theorem m_q68n (hD : 4 ≤ D) (hF : FCx N S T sv) (h0 : N 60 0 = (R : Int)) (hR : R ≤ 6) (hC : N 60 30 = (C : Int)) (hC2 : C ≤ 10) (hx : x1 < 1024) (xC : ∀ c, x1.testBit c = true → c < C) : ∀ (lo : Nat) (y : pV) (M : pM), lo ≤ 1024 → gM gAll M → QF T N M → (∀ s, lo ≤ s → s < 1024 → nan s x1 = 0 → (M 82 s ≠ 0 ↔ s = x1 ∨ rQ N M S T R sv x1 s 0)) → ∃ (z : Int) (M' : pM), xE D 259 68 [.inr 62, .inl (x1 : Int), .inl ((lo : Int) - 1), y] [] M = rI z M' ∧ ((z = ((popc x1 : Nat) : Int) ∧ M' 60 16 = z) ∨ (z = -2 ∧ M' 60 16 = M 60 16)) := by
  intro lo
  induction lo with
  | zero =>
    intro y M hlo g hq hcc
    have b82 := gm_r g (o := 82) (lo := 0) (hi := 1) (by decide +kernel) (by decide +kernel) (k := 0) (show 0 < 1024 by decide)
    rw [L_M_queue_68, if_pos (by decide)]
    by_cases q : eq32 (M 82 0) 0
    · rw [if_neg (fun z => z q)]
      exact ⟨-2, M, rfl, Or.inr ⟨rfl, rfl⟩⟩
    · have cc : ∀ s', s' < 1024 → nan s' x1 = 0 → CCs N (pset M 60 16 0) S T R sv x1 s' := fun s' h1 h2 => by
        refine CCs_congr (M := M) ?_ (fun i => pset_ne (by decide))
        by_cases z : M 82 s' = 0
        · exact Or.inl z
        · exact Or.inr (((hcc s' (Nat.zero_le _) h1 h2).mp z).imp id fun ⟨c, _, c2, c3, c4, c5, c6⟩ => ⟨c, c2, c3, c4, c5, c6⟩)
      rw [if_pos q, show (.inl 0 : pV) = .inl ((0 : Nat) : Int) from rfl]
      obtain ⟨M', e, e16⟩ := m_q146n hD hF h0 hR hx x1 0 0 y (pset M 60 16 0) (by omega) (by decide) (by unfold nan; rw [Nat.zero_and, Nat.zero_xor]) (gM_row0 g) (fun o i a b c e => by
        rw [← hq o i a b c e]; exact if_neg b) pset_eq (by decide) (by rw [pset_ne (by decide)]; exact fun z => q (by rw [z])) cc
      exact ⟨_, M', e, Or.inl ⟨rfl, e16⟩⟩
  | succ lo ih =>
    intro y M hlo g hq hcc
    have hn := nan_le lo x1
    have e1 : (((lo + 1 : Nat) : Int) - 1) = (lo : Int) := by omega
    have e2 : ((lo : Int) + (-1)) = (lo : Int) - 1 := by omega
    rw [e1, L_M_queue_68, if_neg (by rw [lt32_iff] <;> omega), jxor_m1 (by omega), jand_not (by omega) (by omega)]
    have g82 : ∀ {M : pM} {v : Int}, gM gAll M → 0 ≤ v → v ≤ 1 → gM gAll (pset M 82 lo v) := fun g a b => gM_r g (lo := 0) (hi := 1) (by decide +kernel) (by decide +kernel) a b
    by_cases q : nan lo x1 = 0
    · rw [if_pos (by rw [q]; rfl), if_pos (show (0 : Int) ≤ (lo : Int) ∧ (lo : Int) < 1024 by omega), if_pos (show (0 : Int) ≤ (lo : Int) ∧ (lo : Int) < 1024 by omega), Int.toNat_natCast]
      have go : ∀ v : Int, 0 ≤ v → v ≤ 1 → (v ≠ 0 ↔ lo = x1) → ∃ (z : Int) (M' : pM), xE D 259 89 [.inr 62, .inl (x1 : Int), .inl (lo : Int), .inl 0] [] (pset M 82 lo v) = rI z M' ∧ ((z = ((popc x1 : Nat) : Int) ∧ M' 60 16 = z) ∨ (z = -2 ∧ M' 60 16 = M 60 16)) := fun v v1 v2 v3 => by
        obtain ⟨y', M1, r1, r2, r3, r4, r5, r6⟩ := m_q89n hD hF h0 hR hC hC2 hx xC (s := lo) (by omega) C 0 (pset M 82 lo v) (by omega) (g82 g v1 v2) (QF_82 hq)
        rw [show (.inl 0 : pV) = .inl ((0 : Nat) : Int) from rfl, r1, e2]
        have k16 : M1 60 16 = M 60 16 := by rw [r6, pset_ne (by decide)]
        have fin : ∃ (z : Int) (M' : pM), xE D 259 68 [.inr 62, .inl (x1 : Int), .inl ((lo : Int) - 1), y'] [] M1 = rI z M' ∧ ((z = ((popc x1 : Nat) : Int) ∧ M' 60 16 = z) ∨ (z = -2 ∧ M' 60 16 = M1 60 16)) := by
          refine ih y' M1 (by omega) r2 r3 (fun s a b c => ?_)
          by_cases w : s = lo
          · rw [w, r5, pset_eq, v3]
            have k : rQ N M1 S T R sv x1 lo 0 ↔ rQ N (pset M 82 lo v) S T R sv x1 lo 0 := rQ_cg fun i hi => r4 i (by omega)
            rw [k]
          · have k : rQ N M1 S T R sv x1 s 0 ↔ rQ N M S T R sv x1 s 0 := rQ_cg fun i hi => by rw [r4 i (by omega), pset_ne2 (by omega)]
            rw [k, r4 s w, pset_ne2 w]
            exact hcc s (by omega) b c
        rw [k16] at fin
        exact fin
      by_cases q2 : lo = x1
      · rw [if_neg (fun z => z (by rw [q2]))]; exact go 1 (by decide) (by decide) ⟨fun _ => q2, fun _ => by decide⟩
      · rw [if_pos (by rw [eq32_iff] <;> omega)]; exact go 0 (by decide) (by decide) ⟨fun z => absurd rfl z, fun z => absurd z q2⟩
    · rw [if_neg (by rw [eq32_iff] <;> omega), e2]
      exact ih y M (by omega) g hq (fun s a b c => by
        by_cases qs : s = lo
        · rw [qs] at c; exact absurd c q
        · exact hcc s (by omega) b c)
theorem mr_queue (hd : 9 ≤ d) (W : WF G) (hM : gM gAll M) (X : MG M G) {v : Int} (ee : xF d 259 [.inr 62] M = rI v M') : (M 60 44 = 1 → M 60 43 = hT G → PL M G 81 p → (v < 0 → M' 60 16 = M 60 16) ∧ (0 ≤ v → M' 60 16 = v)) ∧ (M 60 44 = 0 ∨ (M 60 44 = 1 ∧ M 60 43 ≠ hT G ∧ 0 ≤ M 60 43 ∧ M 60 43 ≤ 10) → v < 0 ∧ M' 60 16 = M 60 16) := by
  obtain ⟨D, rfl, hD⟩ := dsucc hd
  obtain ⟨D', rfl, hD'⟩ := dsucc (show 1 ≤ D by omega)
  have hw1 := W.1
  have w2 := W.2.1
  have w3 := W.2.2.1
  have X1 := MG_thr X
  have g1 := gM_thr hM
  have k16 : pset M 60 17 0 60 16 = M 60 16 := pset_ne2 (by decide)
  have k44 : pset M 60 17 0 60 44 = M 60 44 := pset_ne2 (by decide)
  have k43 : pset M 60 17 0 60 43 = M 60 43 := pset_ne2 (by decide)
  rw [T_M_queue, T_M_hasAim, X1.1.2.1, k44, k43] at ee
  refine ⟨fun q1 q2 P => ?_, fun q => ?_⟩
  · have cr := cto_range W p
    have hp : ∀ t, t < hT G → 0 ≤ p t ∧ p t < hR G := fun t ht => (P t ht).2
    have h6 : ∀ t, t < hT G → 0 ≤ G 6 t ∧ G 6 t < hR G := fun t ht => (W.2.2.2.2.2.2.2.1 t ht).2.2.2
    have P1 : PL (pset M 60 17 0) G 81 p := fun t ht => by rw [pset_ne (by decide)]; exact P t ht
    rw [q1, if_neg (by decide), if_neg (fun z => z (by rw [q2])), pbI_rI, if_pos (by decide)] at ee
    generalize pset M 60 17 0 = N0 at ee X1 g1 P1 k16
    have F := MH_fc W X1.1
    have pc : ∀ q q' : Nat → Int, (∀ t, t < hT G → q t = q' t) → (∀ t, t < hT G → 0 ≤ q' t ∧ q' t < hR G) → bitsOf (fun s => pdF q (me G s) (hT G)) (hS G) = ptd G q' := fun q q' e r => by
      rw [ptd_same W (fun t ht => by rw [e t ht]; exact r t ht), ptd_cg e]
    rw [m_parted_81 (by omega) F, pbI_rI, pc (N0 81) p (fun t ht => (P1 t ht).1) hp] at ee
    by_cases a1 : ptd G p = 0
    · rw [if_neg (fun z => z (by rw [a1]; decide)), m_parted_66 (by omega) F, pbI_rI, pc (N0 66) (G 6) (fun t ht => (X1.1.2.2.2.2.2.1 t ht).2.2.2) h6] at ee
      by_cases a2 : ptd G (G 6) = 0
      · obtain ⟨N1, u1, u2⟩ := m_cost81 (d := D' + 1) (by omega) W X1.1 P1
        rw [if_pos (by rw [a2]; decide), u1, pbI_rI] at ee
        by_cases z : cto G p < 0
        · rw [if_pos z, if_neg (by decide)] at ee
          obtain ⟨y1, y2⟩ := rI_inj ee
          rw [← y2]
          exact ⟨fun _ => by rw [u2 60 16 (by decide)]; exact k16, fun hv => by omega⟩
        · obtain ⟨c0, N1', e1', g1', f1', -⟩ := u_costA (d := D' + 1) (by omega) (a2 := 0) (a4 := 0) g1 (by decide) (by decide)
          obtain ⟨-, rfl⟩ := rI_inj (u1.symm.trans e1')
          have X2 : MG N1 G := MG_ag (fun o i q => u2 o i (fun z => by rw [z] at q; cases q)) X1
          obtain ⟨N2, e2, g2, f2, c30, -, c72⟩ := m_fcF (d := D' + 1) (by omega) g1' W X2.1
          have X3 : MG N2 G := MG_Fr f2 (by decide) X2
          have P3 : PL N2 G 81 p := fun t ht => by rw [f2 81 t (by rfl), u2 81 t (by decide)]; exact P1 t ht
          have n16 : N2 60 16 = M 60 16 := by rw [f2 60 16 (by decide), u2 60 16 (by decide)]; exact k16
          have hx := mvF_lt W p (hT G) (Nat.le_refl _)
          have xC : ∀ c, (mvF G p (hT G)).testBit c = true → c < nC G := fun c h => mvF_in W p (hT G) (Nat.le_refl _) h
          rw [if_neg z, if_pos (by rw [lt32_iff] <;> omega), e2, pbN_rV] at ee
          have e40 := m_mv (D := D' + 1) W X3.1 c72 P3 (hT G) 0 (by omega)
          have e40' : xE (D' + 1) 259 40 [.inr 62, .inl 0, .inl 0, .inr 0] [] N2 = xE (D' + 1) 259 68 [.inr 62, .inl (mvF G p (hT G) : Nat), .inl (mvF G p (hT G) : Nat), .inr 0] [] N2 := e40
          rw [e40'] at ee
          generalize mvF G p (hT G) = x at hx xC ee ⊢
          obtain ⟨z', M3, b1, b2⟩ := m_q68n (D := D' + 1) (by omega) (MH_fc W X3.1) X3.1.1 hw1 c30 (nC_le W) hx xC (x + 1) (.inr 0) N2 (by omega) g2 (fun _ _ _ _ _ _ => rfl) (fun s h1 h2 h3 => by have := nan_le2 h3; omega)
          rw [show (((x + 1 : Nat) : Int) - 1) = (x : Int) by omega] at b1
          obtain ⟨y1, y2⟩ := rI_inj (ee.symm.trans b1)
          rw [y2, y1]
          rcases b2 with ⟨b2, b3⟩ | ⟨b2, b3⟩
          · exact ⟨fun hv => by omega, fun _ => b3⟩
          · exact ⟨fun _ => by rw [b3, n16], fun hv => by omega⟩
      · have z' : ¬ eq32 ((ptd G (G 6) : Nat) : Int) 0 := (bits_ne (by omega)).mpr a2
        rw [if_neg z'] at ee
        obtain ⟨y1, y2⟩ := rI_inj ee
        rw [← y2]
        exact ⟨fun _ => k16, fun hv => by omega⟩
    · have z' : ¬ eq32 ((ptd G p : Nat) : Int) 0 := (bits_ne (by omega)).mpr a1
      rw [if_pos z'] at ee
      obtain ⟨y1, y2⟩ := rI_inj ee
      rw [← y2]
      exact ⟨fun _ => k16, fun hv => by omega⟩
  · rcases q with q | ⟨q1, q2, q3, q4⟩
    · rw [q, if_pos (by decide), pbI_rI, if_neg (fun z => z (by decide))] at ee
      obtain ⟨y1, y2⟩ := rI_inj ee
      rw [← y2]
      exact ⟨by omega, k16⟩
    · rw [q1, if_neg (by decide), if_pos (by rw [eq32_iff] <;> omega), pbI_rI, if_neg (fun z => z (by decide))] at ee
      obtain ⟨y1, y2⟩ := rI_inj ee
      rw [← y2]
      exact ⟨by omega, k16⟩
theorem m_aimsn (hd : 6 ≤ d) (W : WF G) (h1 : 1 ≤ hR G) (hM : gM gAll M) (X : MH M G) (h38 : M 60 38 = 0) (P : PL M G 81 p) : ∃ z M', xF d 260 [.inr 62] M = rI z M' ∧ ((¬ tmG G ∧ nG G ≤ 300 ∧ z = 1 ∧ AK G p M') ∨ ((tmG G ∨ ¬ nG G ≤ 300) ∧ z = 0)) ∧ M' 60 3 = M 60 3 ∧ M' 60 12 = M 60 12 ∧ M' 60 16 = M 60 16 := by
  obtain ⟨D, rfl, hD⟩ := dsucc hd
  obtain ⟨N, g2, fN, p1, p2⟩ := m_tooMG (d := D) (by omega) hM W X h38
  rw [T_M_findAims]
  rcases Classical.em (tmG G) with q | q
  · rw [p1 q, pbI_rI, if_neg (by decide)]
    exact ⟨0, N, rfl, Or.inr ⟨Or.inl q, rfl⟩, fN 60 3 (by decide), fN 60 12 (by decide), fN 60 16 (by decide)⟩
  · obtain ⟨p3, p4⟩ := p2 q
    have hW : hR G ^ nC G ≤ 20000 := by unfold tmG at q; omega
    have XN : MH N G := MH_c (M := pset N 60 40 (-1)) (fun o i u1 u2 => by
      unfold pset
      rw [if_neg (fun z => u2 ⟨z.1, by omega, by omega, by omega⟩)]) p4.2.1
    obtain ⟨M2, e2, g3, r2, f2⟩ := m_fa7F (D := D) (by omega) W (hT G) 0 N (by omega) g2 XN (fun s hs => absurd hs (Nat.not_lt_zero s))
    have gg : gM gAll (pset (pset (pset M2 60 48 1) 60 49 (-1)) 60 40 (-1)) := gM_f (gM_f (gM_f g3 (lo := 0) (hi := 301) (by decide +kernel) (by omega) (by omega)) (lo := -1) (hi := 300) (by decide +kernel) (by omega) (by omega)) (lo := -1) (hi := 1000000) (by decide +kernel) (by omega) (by omega)
    have f3 : ∀ o i, o ≠ 83 → ¬ (o = 60 ∧ (i = 48 ∨ i = 49)) → pset (pset (pset M2 60 48 1) 60 49 (-1)) 60 40 (-1) o i = pset N 60 40 (-1) o i := fun o i u1 u2 => by
      unfold pset
      rw [if_neg (show ¬ (o = 60 ∧ i = 49) from fun z => u2 ⟨z.1, Or.inr z.2⟩), if_neg (show ¬ (o = 60 ∧ i = 48) from fun z => u2 ⟨z.1, Or.inl z.2⟩), f2 o i u1]
    have S := SR_ag (fun o i _ u1 _ u2 => f3 o i u1 u2) gg p4
    have c0 : cntTo (fnG G) 0 = 0 := rfl
    have PN : PL (pset (pset (pset M2 60 48 1) 60 49 (-1)) 60 40 (-1)) G 81 p := fun t ht => by rw [f3 81 t (by decide) (by omega), pset_ne (by decide), fN 81 t (by rfl)]; exact P t ht
    obtain ⟨z, M', e, r, f⟩ := m_fa29F (D := D) (p := p) (by omega) W hW h1 (hR G ^ nC G + 1) 0 (hT G : Int) (.inr 0) _ (by omega) (Nat.zero_le _) S PN ⟨by rw [pset_ne2 (by decide), pset_ne2 (by decide), pset_eq]; rfl, fun t ht => by rw [pset_ne (by decide), pset_ne (by decide), pset_ne (by decide)]; exact r2 t ht, fun c hc => absurd hc (Nat.not_lt_zero c), Or.inl ⟨by rw [pset_ne2 (by decide), pset_eq], fun c hc => absurd hc (Nat.not_lt_zero c)⟩⟩ (by omega)
    rw [p3, pbI_rI, if_pos (by decide), show (.inl 0 : pV) = .inl ((0 : Nat) : Int) from rfl, e2]
    refine ⟨z, M', e, ?_, ?_, ?_, ?_⟩
    · rcases r with ⟨b1, b2, b3⟩ | ⟨b1, b2⟩
      · exact Or.inl ⟨q, b1, b2, b3⟩
      · exact Or.inr ⟨Or.inr b1, b2⟩
    · rw [f 60 3 (by decide) (by decide) (by decide) (by decide) (by decide) (by omega), f3 60 3 (by decide) (by omega), pset_ne2 (by decide)]; exact fN 60 3 (by decide)
    · rw [f 60 12 (by decide) (by decide) (by decide) (by decide) (by decide) (by omega), f3 60 12 (by decide) (by omega), pset_ne2 (by decide)]; exact fN 60 12 (by decide)
    · rw [f 60 16 (by decide) (by decide) (by decide) (by decide) (by decide) (by omega), f3 60 16 (by decide) (by omega), pset_ne2 (by decide)]; exact fN 60 16 (by decide)
theorem m_ev89n (hD : 1 ≤ D) (x1 : Int) {T : Nat} (hT10 : T ≤ 10) : ∀ (m k n : Nat) (M : pM), k + m = T → M 60 3 = (T : Int) → M 60 16 = (n : Int) → n + m ≤ 15 → xE D 263 89 [.inr 62, .inl x1, .inl (k : Int)] [] M = rI y M2 → y = M 85 0 ∧ M2 60 16 = ((n + m : Nat) : Int)
  | 0, k, n, M, hk, h3, h16, hn, e => by
    rw [L_M_evenings_89, h3, if_pos (by rw [le32_iff] <;> omega)] at e
    obtain ⟨y1, y2⟩ := rI_inj e
    rw [← y2]
    exact ⟨y1.symm, h16⟩
  | m + 1, k, n, M, hk, h3, h16, hn, e => by
    rw [L_M_evenings_89, h3, if_neg (by rw [le32_iff] <;> omega)] at e
    by_cases q : 0 ≤ 10 * x1 + (k : Int) ∧ 10 * x1 + (k : Int) < 3010
    · rw [if_pos q] at e
      obtain ⟨N2, e2, e⟩ := pbN_inv e
      obtain ⟨N3, e3, a3, f3⟩ := m_tellX (d := D) (M := M) (n := n) hD (by omega) h16 (M 83 ((10 * x1 + (k : Int)).toNat))
      have k2 := rV_inj (e3.symm.trans e2)
      rw [← k2, show ((k : Int) + 1) = ((k + 1 : Nat) : Int) by omega] at e
      obtain ⟨r1, r2⟩ := m_ev89n hD x1 hT10 m (k + 1) (n + 1) N3 (by omega) (by rw [f3 60 3 (by omega) (by decide)]; exact h3) a3 (by omega) e
      exact ⟨by rw [r1, f3 85 0 (by omega) (by decide)], by rw [r2]; omega⟩
    · rw [if_neg q] at e
      cases e
theorem m_ev44n (hD : 1 ≤ D) {T : Nat} (hT10 : T ≤ 10) : ∀ (m x : Nat) (M : pM), x + m = 301 → M 60 3 = (T : Int) → xE D 263 44 [.inr 62, .inl (x : Int), .inr 0] [] M = rI y M2 → y = M 85 0 ∧ M2 60 16 = 1 + (T : Int)
  | 0, x, M, hx, h3, e => by
    rw [L_M_evenings_44, if_neg (by omega)] at e
    cases e
  | m + 1, x, M, hx, h3, e => by
    rw [L_M_evenings_44, if_pos (by omega), show ((x : Int) + 1) = ((x + 1 : Nat) : Int) by omega] at e
    by_cases q1 : ¬ eq32 (M 85 ((x : Int).toNat)) ((M 85 0) - 1)
    · rw [if_pos q1] at e
      exact m_ev44n hD hT10 m (x + 1) M (by omega) h3 e
    · rw [if_neg q1, if_pos (by omega)] at e
      by_cases q2 : lt32 (M 60 12) (M 84 ((x : Int).toNat))
      · rw [if_pos q2] at e
        exact m_ev44n hD hT10 m (x + 1) M (by omega) h3 e
      · rw [if_neg q2, if_pos (by omega), if_pos (by omega)] at e
        by_cases q3 : eq32 ((M 86 ((x : Int).toNat)) + (M 84 ((x : Int).toNat))) (M 86 0)
        · rw [if_pos q3] at e
          obtain ⟨N2, e2, e⟩ := pbN_inv e
          obtain ⟨N3, e3, a3, f3⟩ := m_tellX (d := D) (M := pset M 60 16 0) (n := 0) hD (by decide) pset_eq ((pset M 60 16 0) 86 0)
          have k2 := rV_inj (e3.symm.trans e2)
          rw [← k2, show (.inl 0 : pV) = .inl ((0 : Nat) : Int) from rfl] at e
          obtain ⟨r1, r2⟩ := m_ev89n hD _ hT10 T 0 1 N3 (by omega) (by rw [f3 60 3 (by omega) (by decide), pset_ne2 (by decide)]; exact h3) a3 (by omega) e
          exact ⟨by rw [r1, f3 85 0 (by omega) (by decide), pset_ne (by decide)], by rw [r2]; omega⟩
        · rw [if_neg q3] at e
          exact m_ev44n hD hT10 m (x + 1) M (by omega) h3 e
theorem mr_evens (hd : 8 ≤ d) (W : WF G) (hM : gM gAll M) (h38 : M 60 38 = 0) (X : MG M G) (hw : 0 ≤ G 8 2 ∧ G 8 2 ≤ 999) {v : Int} (ee : xF d 263 [.inr 62] M = rI v M') : (M 60 44 = 1 → M 60 43 = hT G → 0 < hT G → PL M G 81 p → (v < 0 → M' 60 16 = M 60 16) ∧ (v = 0 → M' 60 16 = 1) ∧ (0 < v → M' 60 16 = 1 + (hT G : Int))) ∧ (M 60 44 = 0 ∨ (M 60 44 = 1 ∧ M 60 43 ≠ hT G ∧ 0 ≤ M 60 43 ∧ M 60 43 ≤ 10) → v < 0 ∧ M' 60 16 = M 60 16) := by
  obtain ⟨D, rfl, hD⟩ := dsucc hd
  obtain ⟨D', rfl, hD'⟩ := dsucc (show 1 ≤ D by omega)
  have w2 := W.2.1
  have X1 := MG_thr X
  have g1 := gM_thr hM
  have k44 : pset M 60 17 0 60 44 = M 60 44 := pset_ne2 (by decide)
  have k43 : pset M 60 17 0 60 43 = M 60 43 := pset_ne2 (by decide)
  have k16 : pset M 60 17 0 60 16 = M 60 16 := pset_ne2 (by decide)
  have k38 : pset M 60 17 0 60 38 = 0 := by rw [pset_ne2 (by decide)]; exact h38
  rw [T_M_evenings, T_M_hasAim, X1.1.2.1, k44, k43] at ee
  refine ⟨fun q1 q2 q3 P => ?_, fun q => ?_⟩
  · have h1 : 1 ≤ hR G := by
      have := W.2.2.2.2.2.2.2.1 0 q3
      omega
    have P1 : PL (pset M 60 17 0) G 81 p := fun t ht => by rw [pset_ne (by decide)]; exact P t ht
    rw [q1, if_neg (by decide), if_neg (fun z => z (by rw [q2])), pbI_rI, if_pos (by decide), m_isThere (by omega) W X1.1 P1, pbI_rI] at ee
    generalize pset M 60 17 0 = N0 at ee X1 g1 P1 k38 k16
    cases s : isN G p with
    | true =>
      rw [s, if_pos rfl, if_neg (by decide)] at ee
      obtain ⟨M3, e3, a3, f3⟩ := m_tellX (d := D' + 1) (M := pset N0 60 16 0) (n := 0) (by omega) (by decide) pset_eq 0
      rw [e3, pbN_rV] at ee
      obtain ⟨y1, y2⟩ := rI_inj ee
      rw [← y2]
      exact ⟨fun hv => by omega, fun _ => by rw [a3]; rfl, fun hv => by omega⟩
    | false =>
      rw [s, if_neg (show ¬ (false = true) from Bool.false_ne_true), if_pos (by decide)] at ee
      obtain ⟨z, N1, e1, r, f3, f12, f16⟩ := m_aimsn (d := D' + 1) (by omega) W h1 g1 X1.1 k38 P1
      rw [e1, pbI_rI] at ee
      rcases r with ⟨r1, r2, r3, r4, r5, r6⟩ | ⟨r1, r2⟩
      · rw [r3, if_pos (by decide)] at ee
        rcases r5 with ⟨u1, u2⟩ | ⟨τ', u1, u2, u3⟩
        · rw [u1, if_neg (fun z => z (by decide))] at ee
          obtain ⟨y1, y2⟩ := rI_inj ee
          rw [← y2]
          exact ⟨fun _ => by rw [f16, k16], fun hv => by omega, fun hv => by omega⟩
        · have A : AM G N1 := ⟨r4, r2, r6⟩
          obtain ⟨N2, e2, r, f⟩ := m_evs (d := D' + 1) (by omega) W hw u1 A u3
          have ew : N1 60 12 = G 8 2 := by rw [f12]; exact X1.2.1.2.2
          rw [u3, if_pos (by rw [eq32_iff] <;> omega), ew, e2, pbN_rV] at ee
          have e3 : N2 60 3 = (hT G : Int) := by rw [f 60 3 (by decide) (by decide), f3]; exact X1.1.2.1
          have n16 : N2 60 16 = M 60 16 := by rw [f 60 16 (by decide) (by decide), f16, k16]
          rcases r with ⟨b1, b2⟩ | ⟨k, b0, b1, b2, b3⟩
          · rw [b1, if_neg (by decide)] at ee
            obtain ⟨y1, y2⟩ := rI_inj ee
            rw [← y2]
            exact ⟨fun _ => n16, fun hv => by omega, fun hv => by omega⟩
          · rw [b1, if_pos (by rw [lt32_iff] <;> omega), show (.inl 1 : pV) = .inl ((1 : Nat) : Int) from rfl] at ee
            obtain ⟨fin, r16⟩ := m_ev44n (D := D' + 1) (by omega) w2 300 1 N2 (by omega) e3 ee
            exact ⟨fun hv => by omega, fun hv => by omega, fun _ => r16⟩
      · rw [r2, if_neg (by decide)] at ee
        obtain ⟨y1, y2⟩ := rI_inj ee
        rw [← y2]
        exact ⟨fun _ => by rw [f16, k16], fun hv => by omega, fun hv => by omega⟩
  · rcases q with q | ⟨q1, q2, q3, q4⟩
    · rw [q, if_pos (by decide), pbI_rI, if_neg (fun z => z (by decide))] at ee
      obtain ⟨y1, y2⟩ := rI_inj ee
      rw [← y2]
      exact ⟨by omega, k16⟩
    · rw [q1, if_neg (by decide), if_pos (by rw [eq32_iff] <;> omega), pbI_rI, if_neg (fun z => z (by decide))] at ee
      obtain ⟨y1, y2⟩ := rI_inj ee
      rw [← y2]
      exact ⟨by omega, k16⟩
theorem m_wk32n (hD : 1 ≤ D) (W : WF G) {τ : Nat} (hτ : τ < nG G) : ∀ (m x : Nat) (M : pM), x + m = 1000 → 1 ≤ x → AM G M → M 60 49 = ((τ + 1 : Nat) : Int) → xE D 264 32 [.inr 62, .inl (x : Int)] [] M = rI v M' → (v < 0 → M' 60 16 = M 60 16) ∧ (0 ≤ v → M' 60 16 = 1)
  | 0, x, M, hx, x1, A, h49, e => by
    rw [L_M_weakest_32, if_pos (by rw [lt32_iff] <;> omega)] at e
    obtain ⟨y1, y2⟩ := rI_inj e
    rw [← y2]
    exact ⟨fun _ => rfl, fun hv => by omega⟩
  | m + 1, x, M, hx, x1, A, h49, e => by
    have next : ∀ N : pM, AM G N → N 60 49 = ((τ + 1 : Nat) : Int) → N 60 16 = M 60 16 → xE D 264 32 [.inr 62, .inl ((x : Int) + 1)] [] N = rI v M' → (v < 0 → M' 60 16 = M 60 16) ∧ (0 ≤ v → M' 60 16 = 1) := fun N AN hN nx e => by
      rw [show ((x : Int) + 1) = ((x + 1 : Nat) : Int) by omega] at e
      have r := m_wk32n hD W hτ m (x + 1) N (by omega) (by omega) AN hN e
      rw [nx] at r
      exact r
    rw [L_M_weakest_32, if_neg (by rw [lt32_iff] <;> omega)] at e
    rcases m_isc (d := D) (v := (x : Int)) hD W ⟨by omega, by omega⟩ A with ez | ⟨nc, ez⟩
    · rw [ez, pbI_rI, if_pos (by decide)] at e
      obtain ⟨N2, e2, r, f⟩ := m_evs (d := D) (w := (x : Int)) hD W ⟨by omega, by omega⟩ hτ A h49
      rw [e2, pbN_rV] at e
      rcases r with ⟨b1, b2⟩ | ⟨k, b0, b1, b2, b3⟩
      · rw [b1, if_neg (by decide)] at e
        exact next N2 (AM_n f A) (by rw [f 60 49 (by decide) (by decide)]; exact h49) (f 60 16 (by decide) (by decide)) e
      · rw [if_pos (by rw [lt32_iff] <;> omega)] at e
        obtain ⟨N4, u0, e⟩ := pbN_inv e
        obtain ⟨N5, u1, u2, -⟩ := m_tellX (d := D) (M := pset N2 60 16 0) (n := 0) hD (by decide) pset_eq ((pset N2 60 16 0) 85 0)
        have k := rV_inj (u1.symm.trans u0)
        obtain ⟨y1, y2⟩ := rI_inj e
        rw [← y2, ← k]
        exact ⟨fun hv => by omega, fun _ => by rw [u2]; rfl⟩
    · rw [ez, pbI_rI, if_neg (fun y => y (by decide))] at e
      exact next M A h49 rfl e
theorem mr_weak (hd : 8 ≤ d) (W : WF G) (hM : gM gAll M) (h38 : M 60 38 = 0) (X : MG M G) {v : Int} (ee : xF d 264 [.inr 62] M = rI v M') : (M 60 44 = 1 → M 60 43 = hT G → 0 < hT G → PL M G 81 p → (v < 0 → M' 60 16 = M 60 16) ∧ (0 ≤ v → M' 60 16 = 1)) ∧ (M 60 44 = 0 ∨ (M 60 44 = 1 ∧ M 60 43 ≠ hT G ∧ 0 ≤ M 60 43 ∧ M 60 43 ≤ 10) → v < 0 ∧ M' 60 16 = M 60 16) := by
  obtain ⟨D, rfl, hD⟩ := dsucc hd
  obtain ⟨D', rfl, hD'⟩ := dsucc (show 1 ≤ D by omega)
  have w2 := W.2.1
  have X1 := MG_thr X
  have g1 := gM_thr hM
  have k44 : pset M 60 17 0 60 44 = M 60 44 := pset_ne2 (by decide)
  have k43 : pset M 60 17 0 60 43 = M 60 43 := pset_ne2 (by decide)
  have k16 : pset M 60 17 0 60 16 = M 60 16 := pset_ne2 (by decide)
  have k38 : pset M 60 17 0 60 38 = 0 := by rw [pset_ne2 (by decide)]; exact h38
  rw [T_M_weakest, T_M_hasAim, X1.1.2.1, k44, k43] at ee
  refine ⟨fun q1 q2 q3 P => ?_, fun q => ?_⟩
  · have h1 : 1 ≤ hR G := by
      have := W.2.2.2.2.2.2.2.1 0 q3
      omega
    have P1 : PL (pset M 60 17 0) G 81 p := fun t ht => by rw [pset_ne (by decide)]; exact P t ht
    rw [q1, if_neg (by decide), if_neg (fun z => z (by rw [q2])), pbI_rI, if_pos (by decide), m_isThere (by omega) W X1.1 P1, pbI_rI] at ee
    generalize pset M 60 17 0 = N0 at ee X1 g1 P1 k38 k16
    cases s : isN G p with
    | true =>
      rw [s, if_pos rfl, if_neg (by decide)] at ee
      obtain ⟨M3, e3, a3, f3⟩ := m_tellX (d := D' + 1) (M := pset N0 60 16 0) (n := 0) (by omega) (by decide) pset_eq 0
      rw [e3, pbN_rV] at ee
      obtain ⟨y1, y2⟩ := rI_inj ee
      rw [← y2]
      exact ⟨fun hv => by omega, fun _ => by rw [a3]; rfl⟩
    | false =>
      rw [s, if_neg (show ¬ (false = true) from Bool.false_ne_true), if_pos (by decide)] at ee
      obtain ⟨z, N1, e1, r, f3, f12, f16⟩ := m_aimsn (d := D' + 1) (by omega) W h1 g1 X1.1 k38 P1
      rw [e1, pbI_rI] at ee
      rcases r with ⟨r1, r2, r3, r4, r5, r6⟩ | ⟨r1, r2⟩
      · rw [r3, if_pos (by decide)] at ee
        rcases r5 with ⟨u1, u2⟩ | ⟨τ', u1, u2, u3⟩
        · rw [u1, if_neg (fun z => z (by decide))] at ee
          obtain ⟨y1, y2⟩ := rI_inj ee
          rw [← y2]
          exact ⟨fun _ => by rw [f16, k16], fun hv => by omega⟩
        · have A : AM G N1 := ⟨r4, r2, r6⟩
          rw [u3, if_pos (by rw [eq32_iff] <;> omega)] at ee
          have r := m_wk32n (D := D' + 1) (by omega) W u1 999 1 N1 (by omega) (by omega) A u3 ee
          rw [f16, k16] at r
          exact r
      · rw [r2, if_neg (by decide)] at ee
        obtain ⟨y1, y2⟩ := rI_inj ee
        rw [← y2]
        exact ⟨fun _ => by rw [f16, k16], fun hv => by omega⟩
  · rcases q with q | ⟨q1, q2, q3, q4⟩
    · rw [q, if_pos (by decide), pbI_rI, if_neg (fun z => z (by decide))] at ee
      obtain ⟨y1, y2⟩ := rI_inj ee
      rw [← y2]
      exact ⟨by omega, k16⟩
    · rw [q1, if_neg (by decide), if_pos (by rw [eq32_iff] <;> omega), pbI_rI, if_neg (fun z => z (by decide))] at ee
      obtain ⟨y1, y2⟩ := rI_inj ee
      rw [← y2]
      exact ⟨by omega, k16⟩
end RWC
/-! every telling call tells as many numbers on both sides -/
def NR (M : pM) : Prop := M 5 1 = M 60 16 ∧ 0 ≤ M 5 1 ∧ M 5 1 ≤ 11
def NRt (M1 M2 : pM) : Prop := M1 5 1 = M2 60 16 ∧ 0 ≤ M1 5 1 ∧ M1 5 1 ≤ 11
section KNN
variable {d : Nat} {M M' M1 M2 G : pM} {p : Nat → Int} {w1 w2 : List (Nat × Nat)} {v y : Int}
theorem NR_t (f2 : Fr w2 M1 M2) (k : wOK w2 5 1 = false) (t : NRt M1 M2) : NR M2 := by
  have e := f2 5 1 k
  obtain ⟨t1, t2, t3⟩ := t
  exact ⟨by rw [e]; exact t1, by rw [e]; exact t2, by rw [e]; exact t3⟩
theorem NR_Fr (f1 : Fr w1 M M1) (a : wOK w1 5 1 = false) (b : wOK w1 60 16 = false) (f2 : Fr w2 M1 M2) (a2 : wOK w2 5 1 = false) (b2 : wOK w2 60 16 = false) (n : NR M) : NR M2 := by
  have e := (f2 5 1 a2).trans (f1 5 1 a)
  have e' := (f2 60 16 b2).trans (f1 60 16 b)
  obtain ⟨t1, t2, t3⟩ := n
  exact ⟨by rw [e, e']; exact t1, by rw [e]; exact t2, by rw [e]; exact t3⟩
theorem nr_keep (N : NR M) (h16 : M1 60 16 = M 60 16) (a : M1 5 1 = M 5 1) (b : M2 60 16 = M1 60 16) : NRt M1 M2 := by
  obtain ⟨t1, t2, t3⟩ := N
  exact ⟨by rw [a, b, h16]; exact t1, by rw [a]; exact t2, by rw [a]; exact t3⟩
theorem nr_is {c : Int} (a : M1 5 1 = c) (b : M2 60 16 = c) (h : 0 ≤ c ∧ c ≤ 11) : NRt M1 M2 := ⟨by rw [a, b], by rw [a]; exact h.1, by rw [a]; exact h.2⟩
theorem x_weakU (hd : 10 ≤ d) (W : WF G) (X : XG M G) (C : CL M G) (hM : gM gAll M) (N : NR M) (P : M 0 14 = hT G → 0 < M 0 14 → PL M G 58 p) (r : -2147483648 ≤ M 0 14 ∧ M 0 14 ≤ 2147483647) {v : Int} (ee : xF d 42 [.inr 2] M = rI v M') (hv : v < 0) : M' 5 1 = M 5 1 := by
  obtain ⟨D, rfl, hD⟩ := dsucc hd
  obtain ⟨n, hc⟩ := natI N.2.1
  have hn : n ≤ 11 := by have := N.2.2; omega
  rw [T_X_weakest] at ee
  obtain ⟨z, N1, e1, ee⟩ := pbI_inv ee
  have u := nu_X_readyJourney (d := D) (by omega) hM hn hc e1
  obtain ⟨r1, r2⟩ := x_ready (p := p) hD W X C e1
  by_cases q : z ≤ 0
  · have zz : -4 ≤ z := by omega
    rw [if_neg (by rw [lt32_iff] <;> omega)] at ee
    obtain ⟨y1, y2⟩ := rI_inj ee
    rw [← y2]
    omega
  · have z1 : z = 1 := by omega
    by_cases g : M 0 14 = hT G ∧ 0 < M 0 14
    · obtain ⟨b1, b2, b3, b4⟩ := r1 g.1 g.2 (P g.1 g.2)
      have h1 : 1 ≤ hR G := by
        have := W.2.2.2.2.2.2.2.1 0 (by omega)
        omega
      by_cases s : isN G p = true
      · have := b1 s
        omega
      · have s' : isN G p = false := by revert s; cases isN G p <;> decide
        by_cases t : tmG G ∨ ¬ nG G ≤ 300
        · have := b2 s' t
          omega
        · by_cases w : ∃ i, i < nG G ∧ tgP G p i
          · obtain ⟨-, ⟨τ', u1, u2, R⟩, -, -⟩ := b4 s' (fun h => t (Or.inl h)) (Decidable.byContradiction fun h => t (Or.inr h)) w
            rw [z1, if_pos (by decide)] at ee
            obtain ⟨c, N2, e2, -, ⟨c1, c2, -⟩, fr⟩ := x_narrow (d := D) (by omega) W h1 R
            rw [e2, pbI_rI] at ee
            by_cases q9 : c ≤ 999
            · rw [if_pos (by rw [le32_iff] <;> omega)] at ee
              obtain ⟨v6, N3, -, ee⟩ := pbI_inv ee
              obtain ⟨N4, -, ee⟩ := pbN_inv ee
              obtain ⟨N5, -, ee⟩ := pbN_inv ee
              have fin := (rI_inj ee).1
              omega
            · rw [if_neg (by rw [le32_iff] <;> omega)] at ee
              obtain ⟨y1, y2⟩ := rI_inj ee
              rw [← y2, fr 5 1 (by decide)]
              omega
          · have := b3 s' (fun h => t (Or.inl h)) (Decidable.byContradiction fun h => t (Or.inr h)) (fun i hi ht => w ⟨i, hi, ht⟩)
            omega
    · have := r2 g r
      omega
theorem kn_evening (R : RI0 M) (C : CI M) (K : CK M) (R1 : RI0 M1) (N : NR M) (e1 : xF 1000 12 [.inr 2] M = rI v M1) (f1 : Fr w1 M M1) (k1 : okW cm cmo w1 = true) (k7 : wOK w1 60 16 = false) (e2 : xF 1000 218 [.inr 62] M1 = rI y M2) (ev : v = y) : NRt M1 M2 := by
  obtain ⟨G, X, Y⟩ := C
  obtain ⟨W, hgn, -⟩ := ci_facts R X Y
  have w2 := W.2.1
  have C := CK_G K X.1
  have Y1 := MG_Fr f1 k1 Y
  obtain ⟨n, hc⟩ := natI N.2.1
  have hn : n ≤ 11 := by have := N.2.2; omega
  have h16 : M1 60 16 = M 60 16 := f1 60 16 k7
  have hc' : M1 60 16 = (n : Int) := by rw [h16, ← N.1]; exact hc
  have z0 : M1 60 0 = (hR G : Int) := Y1.1.1
  have z3 : M1 60 3 = (hT G : Int) := Y1.1.2.1
  have x3 : M 7 10 = (hT G : Int) := X.1.2.1
  have w1' := W.1
  have hx := ns_X_evening (d := 1000) (by decide) R.1 e1
  have hm := ns_M_evening (d := 1000) (by decide) R1.1 e2
  unfold NRt
  omega
theorem kn_day (R : RI0 M) (C : CI M) (T : TI M) (k5 : wOK w1 60 14 = false) (k6 : ∀ i, wOK w1 68 i = false) (K : CK M) (R1 : RI0 M1) (N : NR M) (e1 : xF 1000 13 [.inr 2] M = rI v M1) (f1 : Fr w1 M M1) (k1 : okW cm cmo w1 = true) (k7 : wOK w1 60 16 = false) (e2 : xF 1000 219 [.inr 62] M1 = rI y M2) (ev : v = y) : NRt M1 M2 := by
  obtain ⟨G, X, Y⟩ := C
  obtain ⟨W, hgn, -⟩ := ci_facts R X Y
  have w2 := W.2.1
  have C := CK_G K X.1
  have Y1 := MG_Fr f1 k1 Y
  obtain ⟨n, hc⟩ := natI N.2.1
  have hn : n ≤ 11 := by have := N.2.2; omega
  have h16 : M1 60 16 = M 60 16 := f1 60 16 k7
  have hc' : M1 60 16 = (n : Int) := by rw [h16, ← N.1]; exact hc
  have z0 : M1 60 0 = (hR G : Int) := Y1.1.1
  have z3 : M1 60 3 = (hT G : Int) := Y1.1.2.1
  have x3 : M 7 10 = (hT G : Int) := X.1.2.1
  have w1' := W.1
  have b0 := gm_i R.1 1 1 (lo := 0) (hi := 80) (by decide +kernel) (by decide +kernel)
  obtain ⟨L, hL⟩ := natI b0.1
  have htx : ∀ i, i < 80 → -128 ≤ M 68 i ∧ M 68 i ≤ 127 := fun i hi => gm_r R.1 (o := 68) (lo := -128) (hi := 127) (by decide +kernel) (by decide +kernel) (show i < 80 from hi)
  by_cases q : v < 0
  · exact nr_keep N h16 (xu_day (tx := fun i => M 68 i) (L := L) (d := 1000) (by decide) W X hgn (by omega) hL T.2 htx e1 q) (mu_day (tx := fun i => M 68 i) (L := L) (d := 1000) (by decide) W Y1 hgn (by omega) (by rw [f1 60 14 k5, ← T.1]; exact hL) (fun i _ => f1 68 i (k6 i)) htx e2 (by omega))
  · have hx := ns_X_day (d := 1000) (by decide) R.1 e1
    have hm := ns_M_day (d := 1000) (by decide) R1.1 e2
    unfold NRt
    omega
theorem kn_judge (R : RI0 M) (C : CI M) (K : CK M) (R1 : RI0 M1) (N : NR M) {a1 : Int} {a2 : Int} (h1 : -2147483648 ≤ a1 ∧ a1 ≤ 2147483647) (h2 : -2147483648 ≤ a2 ∧ a2 ≤ 2147483647) (e1 : xF 1000 15 [.inr 2, .inl a1, .inl a2] M = rI v M1) (f1 : Fr w1 M M1) (k1 : okW cm cmo w1 = true) (k7 : wOK w1 60 16 = false) (e2 : xF 1000 221 [.inr 62, .inl a1, .inl a2] M1 = rI y M2) (ev : v = y) : NRt M1 M2 := by
  obtain ⟨G, X, Y⟩ := C
  obtain ⟨W, hgn, -⟩ := ci_facts R X Y
  have w2 := W.2.1
  have C := CK_G K X.1
  have Y1 := MG_Fr f1 k1 Y
  obtain ⟨n, hc⟩ := natI N.2.1
  have hn : n ≤ 11 := by have := N.2.2; omega
  have h16 : M1 60 16 = M 60 16 := f1 60 16 k7
  have hc' : M1 60 16 = (n : Int) := by rw [h16, ← N.1]; exact hc
  have z0 : M1 60 0 = (hR G : Int) := Y1.1.1
  have z3 : M1 60 3 = (hT G : Int) := Y1.1.2.1
  have x3 : M 7 10 = (hT G : Int) := X.1.2.1
  have w1' := W.1
  by_cases q : 0 ≤ a1 ∧ a1 ≤ 4
  · have hx := ns_X_judge (d := 1000) (by decide) R.1 q h2 e1
    have hm := ns_M_judge (d := 1000) (by decide) R1.1 q h2 e2
    unfold NRt
    omega
  · exact nr_keep N h16 (by rw [xu_judge h1 q e1]) (mu_judge h1 q e2)
theorem kn_clumps (R : RI0 M) (C : CI M) (K : CK M) (R1 : RI0 M1) (N : NR M) (e1 : xF 1000 16 [.inr 2] M = rI v M1) (f1 : Fr w1 M M1) (k1 : okW cm cmo w1 = true) (k7 : wOK w1 60 16 = false) (e2 : xF 1000 222 [.inr 62] M1 = rI y M2) (ev : v = y) : NRt M1 M2 := by
  obtain ⟨G, X, Y⟩ := C
  obtain ⟨W, hgn, -⟩ := ci_facts R X Y
  have w2 := W.2.1
  have C := CK_G K X.1
  have Y1 := MG_Fr f1 k1 Y
  obtain ⟨n, hc⟩ := natI N.2.1
  have hn : n ≤ 11 := by have := N.2.2; omega
  have h16 : M1 60 16 = M 60 16 := f1 60 16 k7
  have hc' : M1 60 16 = (n : Int) := by rw [h16, ← N.1]; exact hc
  have z0 : M1 60 0 = (hR G : Int) := Y1.1.1
  have z3 : M1 60 3 = (hT G : Int) := Y1.1.2.1
  have x3 : M 7 10 = (hT G : Int) := X.1.2.1
  have w1' := W.1
  obtain ⟨x1, x2, x4⟩ := xr_clumps W C e1
  have hm := mr_clumps W R1.1 Y1 e2
  unfold NRt
  omega
theorem kn_heaviest (R : RI0 M) (C : CI M) (K : CK M) (R1 : RI0 M1) (N : NR M) (e1 : xF 1000 17 [.inr 2] M = rI v M1) (f1 : Fr w1 M M1) (k1 : okW cm cmo w1 = true) (k7 : wOK w1 60 16 = false) (e2 : xF 1000 224 [.inr 62] M1 = rI y M2) (ev : v = y) : NRt M1 M2 := by
  obtain ⟨G, X, Y⟩ := C
  obtain ⟨W, hgn, -⟩ := ci_facts R X Y
  have w2 := W.2.1
  have C := CK_G K X.1
  have Y1 := MG_Fr f1 k1 Y
  obtain ⟨n, hc⟩ := natI N.2.1
  have hn : n ≤ 11 := by have := N.2.2; omega
  have h16 : M1 60 16 = M 60 16 := f1 60 16 k7
  have hc' : M1 60 16 = (n : Int) := by rw [h16, ← N.1]; exact hc
  have z0 : M1 60 0 = (hR G : Int) := Y1.1.1
  have z3 : M1 60 3 = (hT G : Int) := Y1.1.2.1
  have x3 : M 7 10 = (hT G : Int) := X.1.2.1
  have w1' := W.1
  have hx := nu_X_heaviest (d := 1000) (by decide) R.1 hn hc e1
  have hm := nu_M_heaviest (d := 1000) (by decide) R1.1 hn hc' e2
  unfold NRt
  omega
theorem kn_without (R : RI0 M) (C : CI M) (K : CK M) (R1 : RI0 M1) (N : NR M) {a1 : Int} (h1 : -2147483648 ≤ a1 ∧ a1 ≤ 2147483647) (e1 : xF 1000 18 [.inr 2, .inl a1] M = rI v M1) (f1 : Fr w1 M M1) (k1 : okW cm cmo w1 = true) (k7 : wOK w1 60 16 = false) (e2 : xF 1000 225 [.inr 62, .inl a1] M1 = rI y M2) (ev : v = y) : NRt M1 M2 := by
  obtain ⟨G, X, Y⟩ := C
  obtain ⟨W, hgn, -⟩ := ci_facts R X Y
  have w2 := W.2.1
  have C := CK_G K X.1
  have Y1 := MG_Fr f1 k1 Y
  obtain ⟨n, hc⟩ := natI N.2.1
  have hn : n ≤ 11 := by have := N.2.2; omega
  have h16 : M1 60 16 = M 60 16 := f1 60 16 k7
  have hc' : M1 60 16 = (n : Int) := by rw [h16, ← N.1]; exact hc
  have z0 : M1 60 0 = (hR G : Int) := Y1.1.1
  have z3 : M1 60 3 = (hT G : Int) := Y1.1.2.1
  have x3 : M 7 10 = (hT G : Int) := X.1.2.1
  have w1' := W.1
  have hx := nu_X_without (d := 1000) (by decide) R.1 h1 hn hc e1
  have hm := nu_M_without (d := 1000) (by decide) R1.1 h1 hn hc' e2
  unfold NRt
  omega
theorem kn_swap (R : RI0 M) (C : CI M) (K : CK M) (R1 : RI0 M1) (N : NR M) {a1 : Int} {a2 : Int} (h1 : -2147483648 ≤ a1 ∧ a1 ≤ 2147483647) (h2 : -2147483648 ≤ a2 ∧ a2 ≤ 2147483647) (e1 : xF 1000 31 [.inr 2, .inl a1, .inl a2] M = rI v M1) (f1 : Fr w1 M M1) (k1 : okW cm cmo w1 = true) (k7 : wOK w1 60 16 = false) (e2 : xF 1000 245 [.inr 62, .inl a1, .inl a2] M1 = rI y M2) (ev : v = y) : NRt M1 M2 := by
  obtain ⟨G, X, Y⟩ := C
  obtain ⟨W, hgn, -⟩ := ci_facts R X Y
  have w2 := W.2.1
  have C := CK_G K X.1
  have Y1 := MG_Fr f1 k1 Y
  obtain ⟨n, hc⟩ := natI N.2.1
  have hn : n ≤ 11 := by have := N.2.2; omega
  have h16 : M1 60 16 = M 60 16 := f1 60 16 k7
  have hc' : M1 60 16 = (n : Int) := by rw [h16, ← N.1]; exact hc
  have z0 : M1 60 0 = (hR G : Int) := Y1.1.1
  have z3 : M1 60 3 = (hT G : Int) := Y1.1.2.1
  have x3 : M 7 10 = (hT G : Int) := X.1.2.1
  have w1' := W.1
  have hx := nu_X_swap (d := 1000) (by decide) R.1 h1 h2 hn hc e1
  have hm := nu_M_swap (d := 1000) (by decide) R1.1 h1 h2 hn hc' e2
  unfold NRt
  omega
theorem kn_hinge (R : RI0 M) (C : CI M) (K : CK M) (R1 : RI0 M1) (N : NR M) {a1 : Int} (h1 : -2147483648 ≤ a1 ∧ a1 ≤ 2147483647) (e1 : xF 1000 37 [.inr 2, .inl a1] M = rI v M1) (f1 : Fr w1 M M1) (k1 : okW cm cmo w1 = true) (k7 : wOK w1 60 16 = false) (e2 : xF 1000 254 [.inr 62, .inl a1] M1 = rI y M2) (ev : v = y) : NRt M1 M2 := by
  obtain ⟨G, X, Y⟩ := C
  obtain ⟨W, hgn, -⟩ := ci_facts R X Y
  have w2 := W.2.1
  have C := CK_G K X.1
  have Y1 := MG_Fr f1 k1 Y
  obtain ⟨n, hc⟩ := natI N.2.1
  have hn : n ≤ 11 := by have := N.2.2; omega
  have h16 : M1 60 16 = M 60 16 := f1 60 16 k7
  have hc' : M1 60 16 = (n : Int) := by rw [h16, ← N.1]; exact hc
  have z0 : M1 60 0 = (hR G : Int) := Y1.1.1
  have z3 : M1 60 3 = (hT G : Int) := Y1.1.2.1
  have x3 : M 7 10 = (hT G : Int) := X.1.2.1
  have w1' := W.1
  have hx := nu_X_hinge (d := 1000) (by decide) R.1 h1 hn hc e1
  have hm := nu_M_hinge (d := 1000) (by decide) R1.1 h1 hn hc' e2
  unfold NRt
  omega
theorem kn_apart (R : RI0 M) (C : CI M) (K : CK M) (R1 : RI0 M1) (N : NR M) (e1 : xF 1000 39 [.inr 2] M = rI v M1) (f1 : Fr w1 M M1) (k1 : okW cm cmo w1 = true) (k7 : wOK w1 60 16 = false) (e2 : xF 1000 257 [.inr 62] M1 = rI y M2) (ev : v = y) : NRt M1 M2 := by
  obtain ⟨G, X, Y⟩ := C
  obtain ⟨W, hgn, -⟩ := ci_facts R X Y
  have w2 := W.2.1
  have C := CK_G K X.1
  have Y1 := MG_Fr f1 k1 Y
  obtain ⟨n, hc⟩ := natI N.2.1
  have hn : n ≤ 11 := by have := N.2.2; omega
  have h16 : M1 60 16 = M 60 16 := f1 60 16 k7
  have hc' : M1 60 16 = (n : Int) := by rw [h16, ← N.1]; exact hc
  have z0 : M1 60 0 = (hR G : Int) := Y1.1.1
  have z3 : M1 60 3 = (hT G : Int) := Y1.1.2.1
  have x3 : M 7 10 = (hT G : Int) := X.1.2.1
  have w1' := W.1
  have hx := nu_X_apart (d := 1000) (by decide) R.1 hn hc e1
  have hm := nu_M_apart (d := 1000) (by decide) R1.1 hn hc' e2
  unfold NRt
  omega
theorem kn_fits (R : RI0 M) (C : CI M) (K : CK M) (R1 : RI0 M1) (N : NR M) (e1 : xF 1000 21 [.inr 2] M = rI v M1) (f1 : Fr w1 M M1) (k1 : okW cm cmo w1 = true) (k7 : wOK w1 60 16 = false) (e2 : xF 1000 234 [.inr 62] M1 = rI y M2) (ev : v = y) : NRt M1 M2 := by
  obtain ⟨G, X, Y⟩ := C
  obtain ⟨W, hgn, -⟩ := ci_facts R X Y
  have w2 := W.2.1
  have C := CK_G K X.1
  have Y1 := MG_Fr f1 k1 Y
  obtain ⟨n, hc⟩ := natI N.2.1
  have hn : n ≤ 11 := by have := N.2.2; omega
  have h16 : M1 60 16 = M 60 16 := f1 60 16 k7
  have hc' : M1 60 16 = (n : Int) := by rw [h16, ← N.1]; exact hc
  have z0 : M1 60 0 = (hR G : Int) := Y1.1.1
  have z3 : M1 60 3 = (hT G : Int) := Y1.1.2.1
  have x3 : M 7 10 = (hT G : Int) := X.1.2.1
  have w1' := W.1
  obtain ⟨x1, x2, x4⟩ := xr_fits W X C e1
  obtain ⟨m1, m2, m4⟩ := mr_fits W R1.1 R1.2.1 Y1 e2
  rcases Int.lt_trichotomy v 0 with q | q | q
  · exact nr_keep N h16 (x1 q) (m1 (by omega))
  · exact nr_is (x2 q) (m2 (by omega)) (by decide)
  · exact nr_is (x4 q) (m4 (by omega)) (by omega)
theorem kn_best (R : RI0 M) (C : CI M) (K : CK M) (R1 : RI0 M1) (N : NR M) (e1 : xF 1000 23 [.inr 2] M = rI v M1) (f1 : Fr w1 M M1) (k1 : okW cm cmo w1 = true) (k7 : wOK w1 60 16 = false) (e2 : xF 1000 236 [.inr 62] M1 = rI y M2) (ev : v = y) : NRt M1 M2 := by
  obtain ⟨G, X, Y⟩ := C
  obtain ⟨W, hgn, -⟩ := ci_facts R X Y
  have w2 := W.2.1
  have C := CK_G K X.1
  have Y1 := MG_Fr f1 k1 Y
  obtain ⟨n, hc⟩ := natI N.2.1
  have hn : n ≤ 11 := by have := N.2.2; omega
  have h16 : M1 60 16 = M 60 16 := f1 60 16 k7
  have hc' : M1 60 16 = (n : Int) := by rw [h16, ← N.1]; exact hc
  have z0 : M1 60 0 = (hR G : Int) := Y1.1.1
  have z3 : M1 60 3 = (hT G : Int) := Y1.1.2.1
  have x3 : M 7 10 = (hT G : Int) := X.1.2.1
  have w1' := W.1
  have hx := nu_X_best (d := 1000) (by decide) R.1 hn hc e1
  have ht := nt_X_best (d := 1000) (by decide) R.1 (n := hT G) (by omega) x3 e1
  obtain ⟨m1, m2⟩ := mr_best W R1.1 R1.2.1 Y1 e2
  rcases Int.lt_or_le v 0 with q | q
  · exact nr_keep N h16 (by omega) (m1 (by omega))
  · have m3 := m2 (by omega)
    unfold NRt
    omega
theorem kn_near (R : RI0 M) (C : CI M) (K : CK M) (R1 : RI0 M1) (N : NR M) (e1 : xF 1000 24 [.inr 2] M = rI v M1) (f1 : Fr w1 M M1) (k1 : okW cm cmo w1 = true) (k7 : wOK w1 60 16 = false) (e2 : xF 1000 238 [.inr 62] M1 = rI y M2) (ev : v = y) : NRt M1 M2 := by
  obtain ⟨G, X, Y⟩ := C
  obtain ⟨W, hgn, -⟩ := ci_facts R X Y
  have w2 := W.2.1
  have C := CK_G K X.1
  have Y1 := MG_Fr f1 k1 Y
  obtain ⟨n, hc⟩ := natI N.2.1
  have hn : n ≤ 11 := by have := N.2.2; omega
  have h16 : M1 60 16 = M 60 16 := f1 60 16 k7
  have hc' : M1 60 16 = (n : Int) := by rw [h16, ← N.1]; exact hc
  have z0 : M1 60 0 = (hR G : Int) := Y1.1.1
  have z3 : M1 60 3 = (hT G : Int) := Y1.1.2.1
  have x3 : M 7 10 = (hT G : Int) := X.1.2.1
  have w1' := W.1
  have hxt := nt_X_near (d := 1000) (by decide) R.1 (n := hT G) (by omega) x3 e1
  have hxu := xu_near W X C e1
  rcases Nat.eq_zero_or_pos (hR G) with z | z
  · have t0 := R0_T0 W z
    have hm := nu_M_near0 (d := 1000) (by decide) R1.1 (by omega) (by omega) hn hc' e2
    have hs := ns_M_near0 (d := 1000) (by decide) R1.1 (by omega) (by omega) e2
    rcases Int.lt_or_le v 0 with q | q
    · have hx := hxu q
      unfold NRt
      omega
    · unfold NRt
      omega
  · have hm := nu_M_near1 (d := 1000) (by decide) R1.1 (by omega) hn hc' e2
    have hs := nt_M_near1 (d := 1000) (by decide) R1.1 (by omega) (n := hT G) (by omega) z3 e2
    rcases Int.lt_or_le v 0 with q | q
    · have hx := hxu q
      unfold NRt
      omega
    · unfold NRt
      omega
theorem kn_guest (R : RI0 M) (C : CI M) (K : CK M) (R1 : RI0 M1) (N : NR M) {a1 : Int} {a2 : Int} (h1 : -2147483648 ≤ a1 ∧ a1 ≤ 2147483647) (h2 : -2147483648 ≤ a2 ∧ a2 ≤ 2147483647) (e1 : xF 1000 25 [.inr 2, .inl a1, .inl a2] M = rI v M1) (f1 : Fr w1 M M1) (k1 : okW cm cmo w1 = true) (k7 : wOK w1 60 16 = false) (e2 : xF 1000 239 [.inr 62, .inl a1, .inl a2] M1 = rI y M2) (ev : v = y) : NRt M1 M2 := by
  obtain ⟨G, X, Y⟩ := C
  obtain ⟨W, hgn, -⟩ := ci_facts R X Y
  have w2 := W.2.1
  have C := CK_G K X.1
  have Y1 := MG_Fr f1 k1 Y
  obtain ⟨n, hc⟩ := natI N.2.1
  have hn : n ≤ 11 := by have := N.2.2; omega
  have h16 : M1 60 16 = M 60 16 := f1 60 16 k7
  have hc' : M1 60 16 = (n : Int) := by rw [h16, ← N.1]; exact hc
  have z0 : M1 60 0 = (hR G : Int) := Y1.1.1
  have z3 : M1 60 3 = (hT G : Int) := Y1.1.2.1
  have x3 : M 7 10 = (hT G : Int) := X.1.2.1
  have w1' := W.1
  have hxt := nt_X_guest (d := 1000) (by decide) R.1 h1 h2 (n := hT G) (by omega) x3 e1
  have hxu := xu_guest W X C h1 h2 e1
  rcases Nat.eq_zero_or_pos (hR G) with z | z
  · have t0 := R0_T0 W z
    have hm := nu_M_guest0 (d := 1000) (by decide) R1.1 h1 h2 (by omega) (by omega) hn hc' e2
    have hs := ns_M_guest0 (d := 1000) (by decide) R1.1 h1 h2 (by omega) (by omega) e2
    rcases Int.lt_or_le v 0 with q | q
    · have hx := hxu q
      unfold NRt
      omega
    · unfold NRt
      omega
  · have hm := nu_M_guest1 (d := 1000) (by decide) R1.1 h1 h2 (by omega) hn hc' e2
    have hs := nt_M_guest1 (d := 1000) (by decide) R1.1 h1 h2 (by omega) (n := hT G) (by omega) z3 e2
    rcases Int.lt_or_le v 0 with q | q
    · have hx := hxu q
      unfold NRt
      omega
    · unfold NRt
      omega
theorem kn_space (R : RI0 M) (C : CI M) (K : CK M) (R1 : RI0 M1) (N : NR M) (e1 : xF 1000 26 [.inr 2] M = rI v M1) (f1 : Fr w1 M M1) (k1 : okW cm cmo w1 = true) (k7 : wOK w1 60 16 = false) (e2 : xF 1000 240 [.inr 62] M1 = rI y M2) (ev : v = y) : NRt M1 M2 := by
  obtain ⟨G, X, Y⟩ := C
  obtain ⟨W, hgn, -⟩ := ci_facts R X Y
  have w2 := W.2.1
  have C := CK_G K X.1
  have Y1 := MG_Fr f1 k1 Y
  obtain ⟨n, hc⟩ := natI N.2.1
  have hn : n ≤ 11 := by have := N.2.2; omega
  have h16 : M1 60 16 = M 60 16 := f1 60 16 k7
  have hc' : M1 60 16 = (n : Int) := by rw [h16, ← N.1]; exact hc
  have z0 : M1 60 0 = (hR G : Int) := Y1.1.1
  have z3 : M1 60 3 = (hT G : Int) := Y1.1.2.1
  have x3 : M 7 10 = (hT G : Int) := X.1.2.1
  have w1' := W.1
  obtain ⟨x1, x2⟩ := xr_space W X C e1
  rcases Int.lt_or_le v 0 with q | q
  · exact nr_keep N h16 (x1 q) (mu_space W R1.1 R1.2.1 Y1 e2 (by omega))
  · have hx := x2 q
    rcases Nat.eq_zero_or_pos (hR G) with z | z
    · exfalso
      have t2 : xF (999 + 1) 240 [.inr 62] M1 = rI y M2 := e2
      rw [T_M_space, (MG_thr Y1).1.1, z, if_neg (fun w => w (by decide))] at t2
      have := (rI_inj t2).1
      omega
    · have hm := nt_M_space1 (d := 1000) (by decide) R1.1 (by omega) (n := hT G) (by omega) z3 e2
      unfold NRt
      omega
theorem kn_may (R : RI0 M) (C : CI M) (K : CK M) (R1 : RI0 M1) (N : NR M) {a1 : Int} (h1 : -2147483648 ≤ a1 ∧ a1 ≤ 2147483647) (e1 : xF 1000 28 [.inr 2, .inl a1] M = rI v M1) (f1 : Fr w1 M M1) (k1 : okW cm cmo w1 = true) (k7 : wOK w1 60 16 = false) (e2 : xF 1000 242 [.inr 62, .inl a1] M1 = rI y M2) (ev : v = y) : NRt M1 M2 := by
  obtain ⟨G, X, Y⟩ := C
  obtain ⟨W, hgn, -⟩ := ci_facts R X Y
  have w2 := W.2.1
  have C := CK_G K X.1
  have Y1 := MG_Fr f1 k1 Y
  obtain ⟨n, hc⟩ := natI N.2.1
  have hn : n ≤ 11 := by have := N.2.2; omega
  have h16 : M1 60 16 = M 60 16 := f1 60 16 k7
  have hc' : M1 60 16 = (n : Int) := by rw [h16, ← N.1]; exact hc
  have z0 : M1 60 0 = (hR G : Int) := Y1.1.1
  have z3 : M1 60 3 = (hT G : Int) := Y1.1.2.1
  have x3 : M 7 10 = (hT G : Int) := X.1.2.1
  have w1' := W.1
  have hx := ns_X_may (d := 1000) (by decide) R.1 h1 e1
  obtain ⟨m1, m2⟩ := mr_may W R1.1 R1.2.1 Y1 h1 e2
  rcases Int.lt_or_le v 0 with q | q
  · exact nr_keep N h16 (xu_may W X C h1 e1 q) (m1 (by omega))
  · exact nr_is (c := 1) (by omega) (m2 (by omega)) (by decide)
theorem kn_together (R : RI0 M) (C : CI M) (K : CK M) (R1 : RI0 M1) (N : NR M) {a1 : Int} {a2 : Int} (h1 : -2147483648 ≤ a1 ∧ a1 ≤ 2147483647) (h2 : -2147483648 ≤ a2 ∧ a2 ≤ 2147483647) (e1 : xF 1000 29 [.inr 2, .inl a1, .inl a2] M = rI v M1) (f1 : Fr w1 M M1) (k1 : okW cm cmo w1 = true) (k7 : wOK w1 60 16 = false) (e2 : xF 1000 243 [.inr 62, .inl a1, .inl a2] M1 = rI y M2) (ev : v = y) : NRt M1 M2 := by
  obtain ⟨G, X, Y⟩ := C
  obtain ⟨W, hgn, -⟩ := ci_facts R X Y
  have w2 := W.2.1
  have C := CK_G K X.1
  have Y1 := MG_Fr f1 k1 Y
  obtain ⟨n, hc⟩ := natI N.2.1
  have hn : n ≤ 11 := by have := N.2.2; omega
  have h16 : M1 60 16 = M 60 16 := f1 60 16 k7
  have hc' : M1 60 16 = (n : Int) := by rw [h16, ← N.1]; exact hc
  have z0 : M1 60 0 = (hR G : Int) := Y1.1.1
  have z3 : M1 60 3 = (hT G : Int) := Y1.1.2.1
  have x3 : M 7 10 = (hT G : Int) := X.1.2.1
  have w1' := W.1
  have hx := ns_X_together (d := 1000) (by decide) R.1 h1 h2 e1
  rcases Int.lt_or_le v 0 with q | q
  · exact nr_keep N h16 (xu_together W X C h1 h2 e1 q) (mu_together W R1.1 R1.2.1 Y1 h1 h2 e2 (by omega))
  · have x1 : M1 5 1 = 1 := by omega
    rcases Nat.eq_zero_or_pos (hR G) with z | z
    · have t0 := R0_T0 W z
      have hm := ns_M_together0 (d := 1000) (by decide) R1.1 h1 h2 (by omega) (by omega) e2
      exact nr_is (c := 1) x1 (by omega) (by decide)
    · have hm := ns_M_together1 (d := 1000) (by decide) R1.1 h1 h2 (by omega) e2
      exact nr_is (c := 1) x1 (by omega) (by decide)
theorem kn_fullest (R : RI0 M) (C : CI M) (K : CK M) (R1 : RI0 M1) (N : NR M) {a1 : Int} (h1 : -2147483648 ≤ a1 ∧ a1 ≤ 2147483647) (e1 : xF 1000 30 [.inr 2, .inl a1] M = rI v M1) (f1 : Fr w1 M M1) (k1 : okW cm cmo w1 = true) (k7 : wOK w1 60 16 = false) (e2 : xF 1000 244 [.inr 62, .inl a1] M1 = rI y M2) (ev : v = y) : NRt M1 M2 := by
  obtain ⟨G, X, Y⟩ := C
  obtain ⟨W, hgn, -⟩ := ci_facts R X Y
  have w2 := W.2.1
  have C := CK_G K X.1
  have Y1 := MG_Fr f1 k1 Y
  obtain ⟨n, hc⟩ := natI N.2.1
  have hn : n ≤ 11 := by have := N.2.2; omega
  have h16 : M1 60 16 = M 60 16 := f1 60 16 k7
  have hc' : M1 60 16 = (n : Int) := by rw [h16, ← N.1]; exact hc
  have z0 : M1 60 0 = (hR G : Int) := Y1.1.1
  have z3 : M1 60 3 = (hT G : Int) := Y1.1.2.1
  have x3 : M 7 10 = (hT G : Int) := X.1.2.1
  have w1' := W.1
  obtain ⟨x1, x2⟩ := xu_fullest W X C h1 e1
  rcases Int.lt_or_le v 0 with q | q
  · exact nr_keep N h16 (x1 q) (mu_fullest W R1.1 R1.2.1 Y1 h1 e2 (by omega))
  · have hx := x2 q
    rcases Nat.eq_zero_or_pos (hR G) with z | z
    · have t0 := R0_T0 W z
      have hm := ns_M_fullest0 (d := 1000) (by decide) R1.1 h1 (by omega) (by omega) e2
      unfold NRt
      omega
    · have hm := nt_M_fullest1 (d := 1000) (by decide) R1.1 h1 (by omega) (n := hT G) (by omega) z3 e2
      unfold NRt
      omega
theorem kn_sell (R : RI0 M) (C : CI M) (K : CK M) (R1 : RI0 M1) (N : NR M) (e1 : xF 1000 32 [.inr 2] M = rI v M1) (f1 : Fr w1 M M1) (k1 : okW cm cmo w1 = true) (k7 : wOK w1 60 16 = false) (e2 : xF 1000 246 [.inr 62] M1 = rI y M2) (ev : v = y) : NRt M1 M2 := by
  obtain ⟨G, X, Y⟩ := C
  obtain ⟨W, hgn, -⟩ := ci_facts R X Y
  have w2 := W.2.1
  have C := CK_G K X.1
  have Y1 := MG_Fr f1 k1 Y
  obtain ⟨n, hc⟩ := natI N.2.1
  have hn : n ≤ 11 := by have := N.2.2; omega
  have h16 : M1 60 16 = M 60 16 := f1 60 16 k7
  have hc' : M1 60 16 = (n : Int) := by rw [h16, ← N.1]; exact hc
  have z0 : M1 60 0 = (hR G : Int) := Y1.1.1
  have z3 : M1 60 3 = (hT G : Int) := Y1.1.2.1
  have x3 : M 7 10 = (hT G : Int) := X.1.2.1
  have w1' := W.1
  have hx := nu_X_sell (d := 1000) (by decide) R.1 hn hc e1
  have z38 := R1.2.1
  rcases Nat.eq_zero_or_pos (hR G) with z | z
  · have t0 := R0_T0 W z
    have hm := nu_M_sell0 (d := 1000) (by decide) R1.1 (by omega) (by omega) (by omega) hn hc' e2
    unfold NRt
    omega
  · have hm := nu_M_sell1 (d := 1000) (by decide) R1.1 (by omega) (by omega) hn hc' e2
    unfold NRt
    omega
theorem kn_build (R : RI0 M) (C : CI M) (K : CK M) (R1 : RI0 M1) (N : NR M) (e1 : xF 1000 33 [.inr 2] M = rI v M1) (f1 : Fr w1 M M1) (k1 : okW cm cmo w1 = true) (k7 : wOK w1 60 16 = false) (e2 : xF 1000 248 [.inr 62] M1 = rI y M2) (ev : v = y) : NRt M1 M2 := by
  obtain ⟨G, X, Y⟩ := C
  obtain ⟨W, hgn, -⟩ := ci_facts R X Y
  have w2 := W.2.1
  have C := CK_G K X.1
  have Y1 := MG_Fr f1 k1 Y
  obtain ⟨n, hc⟩ := natI N.2.1
  have hn : n ≤ 11 := by have := N.2.2; omega
  have h16 : M1 60 16 = M 60 16 := f1 60 16 k7
  have hc' : M1 60 16 = (n : Int) := by rw [h16, ← N.1]; exact hc
  have z0 : M1 60 0 = (hR G : Int) := Y1.1.1
  have z3 : M1 60 3 = (hT G : Int) := Y1.1.2.1
  have x3 : M 7 10 = (hT G : Int) := X.1.2.1
  have w1' := W.1
  have hx := ns_X_build (d := 1000) (by decide) R.1 e1
  obtain ⟨m1, m2⟩ := mr_build W R1.1 R1.2.1 Y1 e2
  rcases Int.lt_or_le v 0 with q | q
  · exact nr_keep N h16 (xu_build W X C e1 q) (m1 (by omega))
  · exact nr_is (c := 1) (by omega) (m2 (by omega)) (by decide)
theorem kn_way (R : RI0 M) (C : CI M) (K : CK M) (R1 : RI0 M1) (N : NR M) {a1 : Int} {a2 : Int} (h1 : -2147483648 ≤ a1 ∧ a1 ≤ 2147483647) (h2 : -2147483648 ≤ a2 ∧ a2 ≤ 2147483647) (e1 : xF 1000 34 [.inr 2, .inl a1, .inl a2] M = rI v M1) (f1 : Fr w1 M M1) (k1 : okW cm cmo w1 = true) (k7 : wOK w1 60 16 = false) (e2 : xF 1000 250 [.inr 62, .inl a1, .inl a2] M1 = rI y M2) (ev : v = y) : NRt M1 M2 := by
  obtain ⟨G, X, Y⟩ := C
  obtain ⟨W, hgn, -⟩ := ci_facts R X Y
  have w2 := W.2.1
  have C := CK_G K X.1
  have Y1 := MG_Fr f1 k1 Y
  obtain ⟨n, hc⟩ := natI N.2.1
  have hn : n ≤ 11 := by have := N.2.2; omega
  have h16 : M1 60 16 = M 60 16 := f1 60 16 k7
  have hc' : M1 60 16 = (n : Int) := by rw [h16, ← N.1]; exact hc
  have z0 : M1 60 0 = (hR G : Int) := Y1.1.1
  have z3 : M1 60 3 = (hT G : Int) := Y1.1.2.1
  have x3 : M 7 10 = (hT G : Int) := X.1.2.1
  have w1' := W.1
  have hx := nu_X_way (d := 1000) (by decide) R.1 h1 h2 hn hc e1
  obtain ⟨m1, m2⟩ := mr_way W Y1 h1 h2 e2
  rcases Int.lt_or_le v 0 with q | q
  · exact nr_keep N h16 (by omega) (m1 (by omega))
  · have m3 := m2 (by omega)
    unfold NRt
    omega
theorem kn_queue (R : RI0 M) (C : CI M) (A : GA M) (k2 : okW cg cgo w1 = true) (K : CK M) (R1 : RI0 M1) (N : NR M) (e1 : xF 1000 40 [.inr 2] M = rI v M1) (f1 : Fr w1 M M1) (k1 : okW cm cmo w1 = true) (k7 : wOK w1 60 16 = false) (e2 : xF 1000 259 [.inr 62] M1 = rI y M2) (ev : v = y) : NRt M1 M2 := by
  obtain ⟨G, X, Y⟩ := C
  obtain ⟨W, hgn, -⟩ := ci_facts R X Y
  have w2 := W.2.1
  have C := CK_G K X.1
  have Y1 := MG_Fr f1 k1 Y
  obtain ⟨n, hc⟩ := natI N.2.1
  have hn : n ≤ 11 := by have := N.2.2; omega
  have h16 : M1 60 16 = M 60 16 := f1 60 16 k7
  have hc' : M1 60 16 = (n : Int) := by rw [h16, ← N.1]; exact hc
  have z0 : M1 60 0 = (hR G : Int) := Y1.1.1
  have z3 : M1 60 3 = (hT G : Int) := Y1.1.2.1
  have x3 : M 7 10 = (hT G : Int) := X.1.2.1
  have w1' := W.1
  have hx := nu_X_queue (d := 1000) (by decide) R.1 hn hc e1
  have gk : ∀ o i, cg o i = true → M1 o i = M o i := fun o i q => f1 o i (okW_no cg_o k2 q)
  have hR0 := Y.1.1
  have b43 := gm_i R1.1 60 43 (lo := 0) (hi := 10) (by decide +kernel) (by decide +kernel)
  rcases A with ⟨a1, a2⟩ | ⟨a1, a2, a3, a4⟩
  · obtain ⟨m1, m2⟩ := (mr_queue (p := M1 81) (d := 1000) (by decide) W R1.1 Y1 e2).2 (Or.inl (by rw [gk 60 44 (by decide)]; exact a2))
    exact nr_keep N h16 (by omega) m2
  · by_cases z : M 0 14 = hT G
    · have P : PL M G 58 (M 58) := fun t ht => by
        obtain ⟨-, b2, b3⟩ := a4 t (by omega)
        exact ⟨rfl, b2, by rw [← hR0]; exact b3⟩
      have P2 : PL M1 G 81 (M 58) := fun t ht => by
        obtain ⟨b1, b2, b3⟩ := a4 t (by omega)
        exact ⟨by rw [gk 81 t (by rfl)]; exact b1.symm, b2, by rw [← hR0]; exact b3⟩
      have m := (mr_queue (p := M 58) (d := 1000) (by decide) W R1.1 Y1 e2).1 (by rw [gk 60 44 (by decide)]; exact a2) (by rw [gk 60 43 (by decide), a3]; exact z) P2
      obtain ⟨m1, m2⟩ := m
      rcases Int.lt_or_le v 0 with q | q
      · exact nr_keep N h16 (by omega) (m1 (by omega))
      · have m3 := m2 (by omega)
        unfold NRt
        omega
    · obtain ⟨m1, m2⟩ := (mr_queue (p := M1 81) (d := 1000) (by decide) W R1.1 Y1 e2).2 (Or.inr ⟨by rw [gk 60 44 (by decide)]; exact a2, by rw [gk 60 43 (by decide), a3]; exact z, b43.1, b43.2⟩)
      exact nr_keep N h16 (by omega) m2
theorem kn_evenings (R : RI0 M) (C : CI M) (A : GA M) (k2 : okW cg cgo w1 = true) (K : CK M) (R1 : RI0 M1) (N : NR M) (e1 : xF 1000 41 [.inr 2] M = rI v M1) (f1 : Fr w1 M M1) (k1 : okW cm cmo w1 = true) (k7 : wOK w1 60 16 = false) (e2 : xF 1000 263 [.inr 62] M1 = rI y M2) (ev : v = y) : NRt M1 M2 := by
  obtain ⟨G, X, Y⟩ := C
  obtain ⟨W, hgn, -⟩ := ci_facts R X Y
  have w2 := W.2.1
  have C := CK_G K X.1
  have Y1 := MG_Fr f1 k1 Y
  obtain ⟨n, hc⟩ := natI N.2.1
  have hn : n ≤ 11 := by have := N.2.2; omega
  have h16 : M1 60 16 = M 60 16 := f1 60 16 k7
  have hc' : M1 60 16 = (n : Int) := by rw [h16, ← N.1]; exact hc
  have z0 : M1 60 0 = (hR G : Int) := Y1.1.1
  have z3 : M1 60 3 = (hT G : Int) := Y1.1.2.1
  have x3 : M 7 10 = (hT G : Int) := X.1.2.1
  have w1' := W.1
  have s0 := gm_i R.1 60 12 (lo := 1) (hi := 999) (by decide +kernel) (by decide +kernel)
  have hw : 0 ≤ G 8 2 ∧ G 8 2 ≤ 999 := by rw [← Y.2.1.2.2]; omega
  have hx := nu_X_evenings (d := 1000) (by decide) R.1 hn hc e1
  have ht := nt_X_evenings (d := 1000) (by decide) R.1 (n := hT G) (by omega) x3 e1
  have gk : ∀ o i, cg o i = true → M1 o i = M o i := fun o i q => f1 o i (okW_no cg_o k2 q)
  have hR0 := Y.1.1
  have b43 := gm_i R1.1 60 43 (lo := 0) (hi := 10) (by decide +kernel) (by decide +kernel)
  rcases A with ⟨a1, a2⟩ | ⟨a1, a2, a3, a4⟩
  · obtain ⟨m1, m2⟩ := (mr_evens (p := M1 81) (d := 1000) (by decide) W R1.1 R1.2.1 Y1 hw e2).2 (Or.inl (by rw [gk 60 44 (by decide)]; exact a2))
    exact nr_keep N h16 (by omega) m2
  · by_cases z : M 0 14 = hT G
    · have P : PL M G 58 (M 58) := fun t ht => by
        obtain ⟨-, b2, b3⟩ := a4 t (by omega)
        exact ⟨rfl, b2, by rw [← hR0]; exact b3⟩
      have P2 : PL M1 G 81 (M 58) := fun t ht => by
        obtain ⟨b1, b2, b3⟩ := a4 t (by omega)
        exact ⟨by rw [gk 81 t (by rfl)]; exact b1.symm, b2, by rw [← hR0]; exact b3⟩
      have m := (mr_evens (p := M 58) (d := 1000) (by decide) W R1.1 R1.2.1 Y1 hw e2).1 (by rw [gk 60 44 (by decide)]; exact a2) (by rw [gk 60 43 (by decide), a3]; exact z) (by omega) P2
      obtain ⟨m1, m2, m4⟩ := m
      rcases Int.lt_trichotomy v 0 with q | q | q
      · exact nr_keep N h16 (by omega) (m1 (by omega))
      · exact nr_is (c := 1) (by omega) (m2 (by omega)) (by decide)
      · have m3 := m4 (by omega)
        unfold NRt
        omega
    · obtain ⟨m1, m2⟩ := (mr_evens (p := M1 81) (d := 1000) (by decide) W R1.1 R1.2.1 Y1 hw e2).2 (Or.inr ⟨by rw [gk 60 44 (by decide)]; exact a2, by rw [gk 60 43 (by decide), a3]; exact z, b43.1, b43.2⟩)
      exact nr_keep N h16 (by omega) m2
theorem kn_weakest (R : RI0 M) (C : CI M) (A : GA M) (k2 : okW cg cgo w1 = true) (K : CK M) (R1 : RI0 M1) (N : NR M) (e1 : xF 1000 42 [.inr 2] M = rI v M1) (f1 : Fr w1 M M1) (k1 : okW cm cmo w1 = true) (k7 : wOK w1 60 16 = false) (e2 : xF 1000 264 [.inr 62] M1 = rI y M2) (ev : v = y) : NRt M1 M2 := by
  obtain ⟨G, X, Y⟩ := C
  obtain ⟨W, hgn, -⟩ := ci_facts R X Y
  have w2 := W.2.1
  have C := CK_G K X.1
  have Y1 := MG_Fr f1 k1 Y
  obtain ⟨n, hc⟩ := natI N.2.1
  have hn : n ≤ 11 := by have := N.2.2; omega
  have h16 : M1 60 16 = M 60 16 := f1 60 16 k7
  have hc' : M1 60 16 = (n : Int) := by rw [h16, ← N.1]; exact hc
  have z0 : M1 60 0 = (hR G : Int) := Y1.1.1
  have z3 : M1 60 3 = (hT G : Int) := Y1.1.2.1
  have x3 : M 7 10 = (hT G : Int) := X.1.2.1
  have w1' := W.1
  have ht := ns_X_weakest (d := 1000) (by decide) R.1 e1
  have b14 : -2147483648 ≤ M 0 14 ∧ M 0 14 ≤ 2147483647 := by
    rcases A with ⟨a1, -⟩ | ⟨a1, -, a3, -⟩
    · omega
    · have := gm_i R.1 60 43 (lo := 0) (hi := 10) (by decide +kernel) (by decide +kernel)
      omega
  have hX : v < 0 → (M 0 14 = hT G → 0 < M 0 14 → PL M G 58 (M 58)) → M1 5 1 = M 5 1 := fun q g => x_weakU (p := M 58) (by decide) W X C R.1 N g b14 e1 q
  have gk : ∀ o i, cg o i = true → M1 o i = M o i := fun o i q => f1 o i (okW_no cg_o k2 q)
  have hR0 := Y.1.1
  have b43 := gm_i R1.1 60 43 (lo := 0) (hi := 10) (by decide +kernel) (by decide +kernel)
  rcases A with ⟨a1, a2⟩ | ⟨a1, a2, a3, a4⟩
  · obtain ⟨m1, m2⟩ := (mr_weak (p := M1 81) (d := 1000) (by decide) W R1.1 R1.2.1 Y1 e2).2 (Or.inl (by rw [gk 60 44 (by decide)]; exact a2))
    exact nr_keep N h16 (hX (by omega) (fun _ g => absurd g (by omega))) m2
  · by_cases z : M 0 14 = hT G
    · have P : PL M G 58 (M 58) := fun t ht => by
        obtain ⟨-, b2, b3⟩ := a4 t (by omega)
        exact ⟨rfl, b2, by rw [← hR0]; exact b3⟩
      have P2 : PL M1 G 81 (M 58) := fun t ht => by
        obtain ⟨b1, b2, b3⟩ := a4 t (by omega)
        exact ⟨by rw [gk 81 t (by rfl)]; exact b1.symm, b2, by rw [← hR0]; exact b3⟩
      have m := (mr_weak (p := M 58) (d := 1000) (by decide) W R1.1 R1.2.1 Y1 e2).1 (by rw [gk 60 44 (by decide)]; exact a2) (by rw [gk 60 43 (by decide), a3]; exact z) (by omega) P2
      obtain ⟨m1, m2⟩ := m
      rcases Int.lt_or_le v 0 with q | q
      · exact nr_keep N h16 (hX q (fun _ _ => P)) (m1 (by omega))
      · exact nr_is (c := 1) (by omega) (m2 (by omega)) (by decide)
    · obtain ⟨m1, m2⟩ := (mr_weak (p := M1 81) (d := 1000) (by decide) W R1.1 R1.2.1 Y1 e2).2 (Or.inr ⟨by rw [gk 60 44 (by decide)]; exact a2, by rw [gk 60 43 (by decide), a3]; exact z, b43.1, b43.2⟩)
      exact nr_keep N h16 (hX (by omega) (fun g _ => absurd g z)) m2
end KNN
