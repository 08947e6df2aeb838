/-! fits: what it answers, on both sides -/
section FTS
variable {D d : Nat} {M M' M1 M2 G h : pM} {w1 : List (Nat × Nat)} {v y : Int} {fine : Nat → Bool} {val : Nat → Int}
theorem cnt_to {a b : Nat} (hab : a ≤ b) (h : ∀ c, a ≤ c → c < b → fine c = false) : cntTo fine b = cntTo fine a := by
  obtain ⟨m, rfl⟩ : ∃ m, b = a + m := ⟨b - a, by omega⟩
  clear hab
  induction m with
  | zero => rfl
  | succ m ih =>
    have e : cntTo fine (a + (m + 1)) = if fine (a + m) then cntTo fine (a + m) + 1 else cntTo fine (a + m) := rfl
    rw [e, h (a + m) (by omega) (by omega), if_neg (by decide)]
    exact ih (fun c h1 h2 => h c h1 (by omega))
theorem chF_cnt : ∀ c, (chF fine val c).1 = cntTo fine c
  | 0 => rfl
  | c + 1 => by
    have ih := chF_cnt c
    have e : cntTo fine (c + 1) = if fine c then cntTo fine c + 1 else cntTo fine c := rfl
    have e2 : chF fine val (c + 1) = if fine c then (if (chF fine val c).1 = 0 ∨ (chF fine val c).2.1 < val c then ((chF fine val c).1 + 1, val c, c) else ((chF fine val c).1 + 1, (chF fine val c).2)) else chF fine val c := rfl
    rw [e, e2, ← ih]
    cases fine c with
    | false => rw [if_neg (by decide), if_neg (by decide)]
    | true =>
      rw [if_pos rfl, if_pos rfl]
      split <;> rfl
theorem x_tch2 (hD : 1 ≤ D) (W : WF G) : ∀ (m k s : Nat) (M : pM), k + m = hT G → XH M G → CL M G → M 5 1 = (s : Int) → s + m ≤ 12 → ∃ M', xE D 58 2 [.inr 2, .inl (k : Int)] [] M = rV M' ∧ ∀ o i, o ≠ 5 → o ≠ 6 → M' o i = M o i
  | 0, k, s, M, hk, X, C, h5, hs => by
    have w2 := W.2.1
    rw [L_X_tellChosen_2, X.2.1, if_pos (by rw [le32_iff] <;> omega)]
    exact ⟨M, rfl, fun _ _ _ _ => rfl⟩
  | m + 1, k, s, M, hk, X, C, h5, hs => by
    have w2 := W.2.1
    have n10 := nC_le W
    have ow := (oOf_in W (show k < hT G by omega)).1
    obtain ⟨N, u1, u2, u3⟩ := x_tell (d := D) (M := M) (n := s) hD (by omega) h5 (M 38 (oOf G k))
    obtain ⟨M', e, f⟩ := x_tch2 hD W m (k + 1) (s + 1) N (by omega) (XH_eq X (fun o i _ _ _ => u3 o i (by omega) (by omega))) (by
      obtain ⟨b1, b2, b3⟩ := C
      exact ⟨by rw [u3 7 12 (by decide) (by decide)]; exact b1, fun i hi => by rw [u3 15 i (by decide) (by decide)]; exact b2 i hi, fun t ht => by rw [u3 16 t (by decide) (by decide)]; exact b3 t ht⟩) u2 (by omega)
    rw [L_X_tellChosen_2, X.2.1, if_neg (by rw [le32_iff] <;> omega), if_pos (by omega), Int.toNat_natCast, C.2.2 k (by omega), show (.inl ((own G (hT G) k : Nat) : Int) : pV) = .inl ((oOf G k : Nat) : Int) from rfl, c_numberAt_38n hD (by omega), pbI_rI, u1, pbN_rV, show ((k : Int) + 1) = ((k + 1 : Nat) : Int) by omega]
    exact ⟨M', e, fun o i h1 h2 => by rw [f o i h1 h2, u3 o i h1 h2]⟩
theorem x_tellChosen (hd : 2 ≤ d) (W : WF G) (X : XH M G) (C : CL M G) {s : Nat} (h5 : M 5 1 = (s : Int)) (hs : s ≤ 2) : ∃ M', xF d 58 [.inr 2] M = rV M' ∧ ∀ o i, o ≠ 5 → o ≠ 6 → M' o i = M o i := by
  obtain ⟨D, rfl, hD⟩ := dsucc hd
  have w2 := W.2.1
  rw [T_X_tellChosen]
  exact x_tch2 hD W (hT G) 0 s M (by omega) X C h5 (by omega)
theorem SR_Fr {a : Nat} {w : List (Nat × Nat)} (f : Fr w M M') (g : gM gAll M') (k : w.all (fun q => decide (q.1 < 60 ∨ 73 < q.1 ∨ (q.1 = 60 ∧ (q.2 = 16 ∨ q.2 = 17)))) = true) (S : SR M G a) : SR M' G a := by
  have no : ∀ o i, (60 ≤ o ∧ o ≤ 73) → ¬ (o = 60 ∧ (i = 16 ∨ i = 17)) → M' o i = M o i := fun o i h1 h2 => f o i (by
    cases z : wOK w o i with
    | false => rfl
    | true =>
      obtain ⟨r, hr, h3⟩ := List.any_eq_true.mp z
      rw [Bool.and_eq_true, Bool.or_eq_true] at h3
      have e := Nat.eq_of_beq_eq_true h3.1
      have k := of_decide_eq_true (List.all_eq_true.mp k r hr)
      rw [e] at k
      rcases k with k | k | ⟨k1, k2⟩
      · omega
      · omega
      · rcases h3.2 with y | y
        · have := Nat.eq_of_beq_eq_true y
          omega
        · have := Nat.eq_of_beq_eq_true y
          omega)
  obtain ⟨-, s2, s3, s4, s5, s6, s7, s8⟩ := S
  exact ⟨g, MH_c (fun o i h1 h2 => no o i (by omega) (by omega)) s2, by rw [no 60 38 (by omega) (by omega)]; exact s3, by rw [no 60 30 (by omega) (by omega)]; exact s4, by rw [no 60 39 (by omega) (by omega)]; exact s5, by rw [no 60 40 (by omega) (by omega)]; exact s6, fun t ht => by rw [no 72 t (by omega) (by omega)]; exact s7 t ht, fun i hi => by rw [no 73 i (by omega) (by omega)]; exact s8 i hi⟩
theorem m_fit12 (hD : 3 ≤ D) (W : WF G) (hW : hR G ^ nC G ≤ 20000) : ∀ m a (M : pM), hR G ^ nC G - a + 1 ≤ m → a ≤ hR G ^ nC G → SR M G a → xE D 234 12 [.inr 62, .inl (cntTo (fnG G) a : Nat)] [] M = rI y M2 → y = (cntTo (fnG G) (hR G ^ nC G) : Nat) := by
  intro m
  induction m with
  | zero => intro a M hm; omega
  | succ m ih =>
    intro a M hm ha S e
    obtain ⟨N, n1, g1, r⟩ := m_nextG (d := D) (by omega) W hW ha S
    rw [L_M_fits_12] at e
    rcases r with ⟨r1, c, c1, c2, c3, c4, c5, c6⟩ | ⟨r1, nf⟩
    · have cc : cntTo (fnG G) (c + 1) = cntTo (fnG G) a + 1 := by
        have e1 : cntTo (fnG G) (c + 1) = if fnG G c then cntTo (fnG G) c + 1 else cntTo (fnG G) c := rfl
        rw [e1, c3, if_pos rfl, cnt_to c1 c4]
      have cl := cntTo_le (c := fnG G) a
      rw [r1, pbI_rI, if_neg (by decide), show (((cntTo (fnG G) a : Nat) : Int) + 1) = ((cntTo (fnG G) (c + 1) : Nat) : Int) by omega] at e
      split at e
      · exact ih (c + 1) N (by omega) (by omega) c5 e
      · obtain ⟨N2, u1, u2, u3⟩ := u_take (d := D) (by omega) g1
        rw [u1, pbN_rV] at e
        exact ih (c + 1) N2 (by omega) (by omega) (SR_Fr u3 u2 (by decide) c5) e
    · have to := cnt_to (fine := fnG G) ha nf
      rw [r1, pbI_rI, if_pos (by decide)] at e
      rw [to]
      split at e
      · exact (rI_inj e).1.symm
      · obtain ⟨_, -, e⟩ := pbN_inv e
        exact (rI_inj e).1.symm
theorem svT_0 {R n : Nat} (c : Nat) : svT R n (fun _ => 0) c = 0 := sumTo_0 n
theorem kc_fits (R : RI0 M) (C : CI M) (K : CK M) (R1 : RI0 M1) (e1 : xF 1000 21 [.inr 2] M = rI v M1) (f1 : Fr w1 M M1) (k1 : okW cm cmo w1 = true) (e2 : xF 1000 234 [.inr 62] M1 = rI y M2) : v = y := by
  obtain ⟨G, X, Y⟩ := C
  obtain ⟨W, -⟩ := ci_facts R X Y
  have C := CK_G K X.1
  have t1 : xF (998 + 1 + 1) 21 [.inr 2] M = rI v M1 := e1
  have t2 : xF (998 + 1 + 1) 234 [.inr 62] M1 = rI y M2 := e2
  have Y1 := MG_thr (MG_Fr f1 k1 Y)
  have gT := gM_thr R1.1
  obtain ⟨q1, q2⟩ := x_tooMany (d := 998 + 1) (by omega) W X.1 C
  obtain ⟨N, g2, fN, p1, p2⟩ := m_tooMG (d := 998 + 1) (by omega) gT W Y1.1 (by rw [pset_ne2 (by decide)]; exact R1.2.1)
  rw [T_X_fits] at t1
  rw [T_M_fits] at t2
  rcases Classical.em (tmG G) with q | q
  · rw [q1 q, pbI_rI, if_neg (by decide)] at t1
    rw [p1 q, pbI_rI, if_neg (by decide)] at t2
    rw [← (rI_inj t1).1, ← (rI_inj t2).1]
  · have hW : hR G ^ nC G ≤ 20000 := by unfold tmG at q; omega
    obtain ⟨p3, p4⟩ := p2 q
    obtain ⟨N1, s1, s2, s3, s4, s5⟩ := x_startG (d := 998 + 1) (by omega) W X.1 C
    have B := WB_G W q
    obtain ⟨N2, c1, c2, c3⟩ := x_choose (d := 998 + 1) (tb := fun _ => 0) (by omega) B (fun c => by rw [svT_0]; omega) s2 s3 s4
    have lo : ∀ o i, o < 32 → N2 o i = M o i := fun o i ho => by rw [c3 o i (by omega) (by omega) (by omega) (by omega), s5 o i (by omega)]
    have cn : (chF (fnW (hR G) (nC G) (G 1) (bkG G)) (svT (hR G) (nC G) fun _ => 0) (hR G ^ nC G)).1 = cntTo (fnG G) (hR G ^ nC G) := by
      rw [chF_cnt, show fnW (hR G) (nC G) (G 1) (bkG G) = fnG G from funext fnG_bk]
    have c11 := c2.1
    rw [cn] at c11
    have cl := cntTo_le (c := fnG G) (hR G ^ nC G)
    have a : v = (cntTo (fnG G) (hR G ^ nC G) : Nat) := by
      obtain ⟨v4, M3, z1, z2⟩ := pbI_inv s1
      rw [q2 q, pbI_rI, if_pos (by decide), z1, pbI_rI, z2, pbN_rV, c1, pbI_rI, T_Numbers_start, pbN_rV, show pset N2 5 1 0 32 11 = N2 32 11 from pset_ne (by decide), c11] at t1
      split at t1
      · exact (rI_inj t1).1.symm
      · have X2 : XH (pset N2 5 1 0) G := XH_eq X.1 (fun o i o1 o2 _ => by rw [pset_ne (by omega), lo o i (by omega)])
        have C2 : CL (pset N2 5 1 0) G := by
          obtain ⟨b1, b2, b3⟩ := C
          exact ⟨by rw [pset_ne (by decide), lo 7 12 (by decide)]; exact b1, fun i hi => by rw [pset_ne (by decide), lo 15 i (by decide)]; exact b2 i hi, fun t ht => by rw [pset_ne (by decide), lo 16 t (by decide)]; exact b3 t ht⟩
        obtain ⟨N3, u1, u2⟩ := x_tellChosen (d := 998 + 1) (s := 0) (by omega) W X2 C2 pset_eq (by decide)
        rw [u1, pbN_rV, u2 32 11 (by decide) (by decide), pset_ne (by decide), c11] at t1
        exact (rI_inj t1).1.symm
    have b : y = (cntTo (fnG G) (hR G ^ nC G) : Nat) := by
      rw [p3, pbI_rI, if_pos (by decide), T_M_beginRows, pbN_rV, show (.inl 0 : pV) = .inl ((cntTo (fnG G) 0 : Nat) : Int) from rfl] at t2
      exact m_fit12 (D := 998 + 1) (by omega) W hW (hR G ^ nC G + 1) 0 _ (by omega) (Nat.zero_le _) p4 t2
    rw [a, b]
end FTS
/-! together, may: what they answer, on both sides -/
section TGS
variable {D d R n : Nat} {M M' M1 M2 G h : pM} {w1 : List (Nat × Nat)} {v y : Int} {sz bk : Nat → Int}
theorem cnt_next {fine g : Nat → Bool} {a c : Nat} (hac : a ≤ c) (nf : ∀ c', a ≤ c' → c' < c → fine c' = false) (hf : fine c = true) : cntTo (fun c => fine c && g c) (c + 1) = if g c then cntTo (fun c => fine c && g c) a + 1 else cntTo (fun c => fine c && g c) a := by
  have e : cntTo (fun c => fine c && g c) (c + 1) = if fine c && g c then cntTo (fun c => fine c && g c) c + 1 else cntTo (fun c => fine c && g c) c := rfl
  have t := cnt_to (fine := fun c => fine c && g c) hac (fun c' h1 h2 => by show (fine c' && g c') = false; rw [nf c' h1 h2]; rfl)
  rw [e, t, hf, Bool.true_and]
theorem cnt_end {fine g : Nat → Bool} {a b : Nat} (hab : a ≤ b) (nf : ∀ c', a ≤ c' → c' < b → fine c' = false) : cntTo (fun c => fine c && g c) b = cntTo (fun c => fine c && g c) a := cnt_to hab (fun c' h1 h2 => by show (fine c' && g c') = false; rw [nf c' h1 h2]; rfl)
theorem WS_next {a c : Nat} (hf : fnW R n sz bk c = true) (F : WF1 M R n bk c) : WS M R n sz bk (c + 1) := Or.inr ⟨c, rfl, F, hf⟩
theorem WK_n (f : ∀ o i, o ≠ 34 → o ≠ 36 → ¬ (o = 32 ∧ (i = 8 ∨ i = 9)) → M' o i = M o i) (K : WK M R n sz bk) : WK M' R n sz bk := WK_ag f K
def tgB (R n : Nat) (i j : Nat) (c : Nat) : Bool := decide (dg R n c i = dg R n c j)
theorem x_tog47 (hD : 3 ≤ D) (B : WB0 R n sz bk) {i j : Nat} (hi : i < n) (hj : j < n) (x1 x2 : Int) : ∀ m a (x6 : Int) (x7 : Nat) (M : pM), R ^ n - a + 1 ≤ m → x7 + m ≤ 1000000 → a ≤ R ^ n → WK M R n sz bk → WS M R n sz bk a → xE D 29 47 [.inr 2, .inl x1, .inl x2, .inl (i : Int), .inl (j : Int), .inl (cntTo (fun c => fnW R n sz bk c && tgB R n i j c) a : Nat), .inl x6, .inl (x7 : Int)] [] M = rI v M' → v = (cntTo (fun c => fnW R n sz bk c && tgB R n i j c) (R ^ n) : Nat) := by
  intro m
  induction m with
  | zero => intro a x6 x7 M hm; omega
  | succ m ih =>
    intro a x6 x7 M hm hx ha K F e
    have b3 := B.2.2.1
    have b2 := B.2.1
    obtain ⟨N, f, r⟩ := x_nextS (d := D) hD K B F
    rw [L_X_together_47, if_neg (by rw [le32_iff] <;> omega)] at e
    rcases r with ⟨r1, c, c1, c2, c3, c4⟩ | ⟨r1, nf⟩
    · obtain ⟨c5, c6, c7, c8⟩ := id c4
      have K1 := WK_n f K
      have W1 : WS N R n sz bk (c + 1) := WS_next (a := a) c2 c4
      have s := cnt_next (g := tgB R n i j) c1 c3 c2
      have di := (c8.1 i hi)
      have dj := (c8.1 j hj)
      rw [r1, pbI_rI, if_neg (by decide), c_numberAt_36n (by omega) (by omega), pbI_rI, c_numberAt_36n (by omega) (by omega), pbI_rI, di.1, dj.1, show ((x7 : Int) + 1) = ((x7 + 1 : Nat) : Int) by omega] at e
      by_cases z : dg R n c i = dg R n c j
      · rw [if_neg (fun w => w (by rw [z]))] at e
        rw [show tgB R n i j c = true from decide_eq_true z, if_pos rfl] at s
        refine ih (c + 1) (x6 + 1) (x7 + 1) N (by omega) (by omega) (by omega) K1 W1 ?_
        rw [s, Int.natCast_add]; exact e
      · rw [if_pos (by rw [eq32_iff] <;> omega), Int.add_zero] at e
        rw [show tgB R n i j c = false from decide_eq_false z, if_neg (by decide)] at s
        refine ih (c + 1) (x6 + 1) (x7 + 1) N (by omega) (by omega) (by omega) K1 W1 ?_
        rw [s]; exact e
    · rw [r1, pbI_rI, if_pos (by decide)] at e
      obtain ⟨_, -, e⟩ := pbN_inv e
      obtain ⟨_, -, e⟩ := pbN_inv e
      rw [cnt_end ha nf]
      exact (rI_inj e).1.symm
theorem m_tog27 (hD : 3 ≤ D) (W : WF G) (hW : hR G ^ nC G ≤ 20000) {s t : Nat} (hs : s < hT G) (ht : t < hT G) : ∀ m a (x4 : Int) (M : pM), hR G ^ nC G - a + 1 ≤ m → a ≤ hR G ^ nC G → SR M G a → xE D 243 27 [.inr 62, .inl (s : Int), .inl (t : Int), .inl (cntTo (fun c => fnG G c && tgB (hR G) (nC G) (oOf G s) (oOf G t) c) a : Nat), .inl x4] [] M = rI y M2 → y = (cntTo (fun c => fnG G c && tgB (hR G) (nC G) (oOf G s) (oOf G t) c) (hR G ^ nC G) : Nat) := by
  have w1 := W.1
  have w2 := W.2.1
  intro m
  induction m with
  | zero => intro a x4 M hm; omega
  | succ m ih =>
    intro a x4 M hm ha S e
    obtain ⟨N, n1, g1, r⟩ := m_nextG (d := D) (by omega) W hW ha S
    rw [L_M_together_27] at e
    rcases r with ⟨r1, c, c1, c2, c3, c4, c5, c6⟩ | ⟨r1, nf⟩
    · have s' := cnt_next (g := tgB (hR G) (nC G) (oOf G s) (oOf G t)) c1 c4 c3
      have h1 : 1 ≤ hR G := by
        have := (W.2.2.2.2.2.2.2.1 s hs).2.2.2
        omega
      have ds := dg_lt (R := hR G) (C := nC G) (code := c) h1 (oOf G s)
      have dt := dg_lt (R := hR G) (C := nC G) (code := c) h1 (oOf G t)
      rw [r1, pbI_rI, if_neg (by decide), if_pos (by omega), if_pos (by omega), Int.toNat_natCast, Int.toNat_natCast, c6 s hs, c6 t ht] at e
      unfold plG at e
      by_cases z : dg (hR G) (nC G) c (oOf G s) = dg (hR G) (nC G) c (oOf G t)
      · rw [if_neg (fun w => w (by rw [z]))] at e
        rw [show tgB (hR G) (nC G) (oOf G s) (oOf G t) c = true from decide_eq_true z, if_pos rfl] at s'
        refine ih (c + 1) (x4 + 1) N (by omega) (by omega) c5 ?_
        rw [s', Int.natCast_add]; exact e
      · rw [if_pos (by rw [eq32_iff] <;> omega), Int.add_zero] at e
        rw [show tgB (hR G) (nC G) (oOf G s) (oOf G t) c = false from decide_eq_false z, if_neg (by decide)] at s'
        refine ih (c + 1) (x4 + 1) N (by omega) (by omega) c5 ?_
        rw [s']; exact e
    · rw [r1, pbI_rI, if_pos (by decide)] at e
      obtain ⟨_, -, e⟩ := pbN_inv e
      rw [cnt_end ha nf]
      exact (rI_inj e).1.symm
theorem fnG_f : fnW (hR G) (nC G) (G 1) (bkG G) = fnG G := funext fnG_bk
theorem kc_together (R : RI0 M) (C : CI M) (K : CK M) (R1 : RI0 M1) {a1 a2 : Int} (h1 : -2147483648 ≤ a1 ∧ a1 ≤ 2147483647) (h2 : -2147483648 ≤ a2 ∧ a2 ≤ 2147483647) (e1 : xF 1000 29 [.inr 2, .inl a1, .inl a2] M = rI v M1) (f1 : Fr w1 M M1) (k1 : okW cm cmo w1 = true) (e2 : xF 1000 243 [.inr 62, .inl a1, .inl a2] M1 = rI y M2) : v = y := by
  obtain ⟨G, X, Y⟩ := C
  obtain ⟨W, -⟩ := ci_facts R X Y
  have w2 := W.2.1
  have C := CK_G K X.1
  have t1 : xF (998 + 1 + 1) 29 [.inr 2, .inl a1, .inl a2] M = rI v M1 := e1
  have t2 : xF (998 + 1 + 1) 243 [.inr 62, .inl a1, .inl a2] M1 = rI y M2 := e2
  have Y1 := MG_thr (MG_Fr f1 k1 Y)
  have gT := gM_thr R1.1
  rw [T_X_together, c_isThing7 (by omega) W X.1 (by omega) (by omega), pbI_rI, ite01p] at t1
  rw [T_M_together, m_isThing (by omega) Y1.1.2.1 (by omega) (by omega) (by omega), pbI_rI, ite01p] at t2
  by_cases b1 : 0 ≤ a1 ∧ a1 < (hT G : Int)
  · rw [if_pos b1, c_isThing7 (by omega) W X.1 (by omega) (by omega), pbI_rI, ite01p] at t1
    rw [if_pos b1, m_isThing (by omega) Y1.1.2.1 (by omega) (by omega) (by omega), pbI_rI, ite01p] at t2
    by_cases b2 : 0 ≤ a2 ∧ a2 < (hT G : Int)
    · rw [if_pos b2] at t1 t2
      by_cases b3 : a1 = a2
      · rw [if_neg (fun w => w (by rw [b3]))] at t1 t2
        rw [← (rI_inj t1).1, ← (rI_inj t2).1]
      · obtain ⟨s, rfl⟩ := natI b1.1
        obtain ⟨t, rfl⟩ := natI b2.1
        have ne : ¬ eq32 (s : Int) (t : Int) := by rw [eq32_iff] <;> omega
        rw [if_pos ne] at t1 t2
        obtain ⟨q1, q2⟩ := x_tooMany (d := 998 + 1) (by omega) W X.1 C
        obtain ⟨N, g2, fN, p1, p2⟩ := m_tooMG (d := 998 + 1) (by omega) gT W Y1.1 (by rw [pset_ne2 (by decide)]; exact R1.2.1)
        rcases Classical.em (tmG G) with q | q
        · rw [q1 q, pbI_rI, if_neg (by decide)] at t1
          rw [p1 q, pbI_rI, if_neg (by decide)] at t2
          rw [← (rI_inj t1).1, ← (rI_inj t2).1]
        · have hW : hR G ^ nC G ≤ 20000 := by unfold tmG at q; omega
          obtain ⟨p3, p4⟩ := p2 q
          obtain ⟨N1, s1, s2, s3, s4, s5⟩ := x_startG (d := 998 + 1) (by omega) W X.1 C
          have os := (oOf_in W (show s < hT G by omega)).1
          have ot := (oOf_in W (show t < hT G by omega)).1
          have a : v = (cntTo (fun c => fnW (hR G) (nC G) (G 1) (bkG G) c && tgB (hR G) (nC G) (oOf G s) (oOf G t) c) (hR G ^ nC G) : Nat) := by
            obtain ⟨v4, M3, z1, z2⟩ := pbI_inv s1
            rw [q2 q, pbI_rI, if_pos (by decide), if_pos (by omega), if_pos (by omega), z1, pbI_rI, z2, pbN_rV, Int.toNat_natCast, Int.toNat_natCast, C.2.2 s (by omega), C.2.2 t (by omega)] at t1
            exact x_tog47 (D := 998 + 1) (by omega) (WB_G W q) os ot _ _ (hR G ^ nC G + 1) 0 0 0 N1 (by omega) (by omega) (Nat.zero_le _) s2 (Or.inl ⟨rfl, s3⟩) t1
          rw [fnG_f] at a
          have b : y = (cntTo (fun c => fnG G c && tgB (hR G) (nC G) (oOf G s) (oOf G t) c) (hR G ^ nC G) : Nat) := by
            rw [p3, pbI_rI, if_pos (by decide), T_M_beginRows, pbN_rV] at t2
            exact m_tog27 (D := 998 + 1) (by omega) W hW (by omega) (by omega) (hR G ^ nC G + 1) 0 0 _ (by omega) (Nat.zero_le _) p4 t2
          rw [a, b]
    · rw [if_neg b2] at t1 t2
      rw [← (rI_inj t1).1, ← (rI_inj t2).1]
  · rw [if_neg b1] at t1 t2
    rw [← (rI_inj t1).1, ← (rI_inj t2).1]
end TGS
/-! may: what it answers, on both sides -/
section MAY
variable {D d R n : Nat} {M M' M1 M2 G h : pM} {w1 : List (Nat × Nat)} {v y : Int} {sz bk : Nat → Int}
def orB (fine : Nat → Bool) (g : Nat → Nat) : Nat → Nat
  | 0 => 0
  | c + 1 => if fine c then orB fine g c ||| 2 ^ g c else orB fine g c
theorem orB_to {fine : Nat → Bool} {g : Nat → Nat} {a b : Nat} (hab : a ≤ b) (h : ∀ c, a ≤ c → c < b → fine c = false) : orB fine g b = orB fine g a := by
  obtain ⟨m, rfl⟩ : ∃ m, b = a + m := ⟨b - a, by omega⟩
  clear hab
  induction m with
  | zero => rfl
  | succ m ih =>
    have e : orB fine g (a + (m + 1)) = if fine (a + m) then orB fine g (a + m) ||| 2 ^ g (a + m) else orB fine g (a + m) := rfl
    rw [e, h (a + m) (by omega) (by omega), if_neg (by decide)]
    exact ih (fun c h1 h2 => h c h1 (by omega))
theorem orB_lt {fine : Nat → Bool} {g : Nat → Nat} (hg : ∀ c, g c < 6) : ∀ c, orB fine g c < 64
  | 0 => show 0 < 64 by decide
  | c + 1 => by
    have ih := orB_lt (fine := fine) hg c
    have p : 2 ^ g c < 2 ^ 6 := Nat.pow_lt_pow_right (by decide) (hg c)
    unfold orB
    split
    · exact Nat.or_lt_two_pow (n := 6) ih p
    · exact ih
theorem orB_next {fine : Nat → Bool} {g : Nat → Nat} {a c : Nat} (hac : a ≤ c) (nf : ∀ c', a ≤ c' → c' < c → fine c' = false) (hf : fine c = true) : orB fine g (c + 1) = orB fine g a ||| 2 ^ g c := by
  have e : orB fine g (c + 1) = if fine c then orB fine g c ||| 2 ^ g c else orB fine g c := rfl
  rw [e, hf, if_pos rfl, orB_to hac nf]
theorem jor_one {a k : Nat} (ha : a < 64) (hk : k < 6) : jor (a : Int) (jshl 1 (k : Int)) = ((a ||| 2 ^ k : Nat) : Int) := by
  have p : 2 ^ k < 2 ^ 6 := Nat.pow_lt_pow_right (by decide) hk
  rw [jshl_one k (by omega), jor_nat (by omega) (by omega)]
theorem x_may38 (hD : 3 ≤ D) (B : WB0 R n sz bk) {i : Nat} (hi : i < n) (x2 : Int) : ∀ m a (x4 : Int) (x5 : Nat) (y6 : pV) (M : pM), R ^ n - a + 1 ≤ m → x5 + m ≤ 1000000 → a ≤ R ^ n → WK M R n sz bk → WS M R n sz bk a → xE D 28 38 [.inr 2, .inl (i : Int), .inl x2, .inl (orB (fnW R n sz bk) (fun c => dg R n c i) a : Nat), .inl x4, .inl (x5 : Int), y6] [] M = rI v M' → v = (orB (fnW R n sz bk) (fun c => dg R n c i) (R ^ n) : Nat) := by
  intro m
  induction m with
  | zero => intro a x4 x5 y6 M hm; omega
  | succ m ih =>
    intro a x4 x5 y6 M hm hx ha K F e
    have b3 := B.2.2.1
    have b2 := B.2.1
    have h1 : 1 ≤ R := by rcases B.1 with h | h; exact h; omega
    have ol := orB_lt (fine := fnW R n sz bk) (g := fun c => dg R n c i) (fun c => Nat.lt_of_lt_of_le (dg_lt h1 i) b2) a
    obtain ⟨N, f, r⟩ := x_nextS (d := D) hD K B F
    rw [L_X_may_38, if_neg (by rw [le32_iff] <;> omega)] at e
    rcases r with ⟨r1, c, c1, c2, c3, c4⟩ | ⟨r1, nf⟩
    · obtain ⟨c5, c6, c7, c8⟩ := id c4
      have K1 := WK_n f K
      have W1 : WS N R n sz bk (c + 1) := WS_next (a := a) c2 c4
      have s := orB_next (g := fun c => dg R n c i) c1 c3 c2
      have di := (c8.1 i hi)
      rw [r1, pbI_rI, if_neg (by decide), if_pos (by omega), Int.toNat_natCast, di.1, jor_one ol (by omega), show ((x5 : Int) + 1) = ((x5 + 1 : Nat) : Int) by omega, ← s] at e
      split at e
      · exact ih (c + 1) (x4 + 0) (x5 + 1) _ N (by omega) (by omega) (by omega) K1 W1 e
      · exact ih (c + 1) (x4 + 1) (x5 + 1) _ N (by omega) (by omega) (by omega) K1 W1 e
    · rw [r1, pbI_rI, if_pos (by decide)] at e
      obtain ⟨_, -, e⟩ := pbN_inv e
      obtain ⟨_, -, e⟩ := pbN_inv e
      rw [orB_to ha nf]
      exact (rI_inj e).1.symm
theorem m_may34 (hD : 3 ≤ D) (W : WF G) (hW : hR G ^ nC G ≤ 20000) {t : Nat} (ht : t < hT G) (x1 : Int) : ∀ m a (x4 : Int) (M : pM), hR G ^ nC G - a + 1 ≤ m → a ≤ hR G ^ nC G → SR M G a → xE D 242 34 [.inr 62, .inl x1, .inl (t : Int), .inl (orB (fnG G) (fun c => dg (hR G) (nC G) c (oOf G t)) a : Nat), .inl x4] [] M = rI y M2 → y = (orB (fnG G) (fun c => dg (hR G) (nC G) c (oOf G t)) (hR G ^ nC G) : Nat) := by
  have w1 := W.1
  have w2 := W.2.1
  have h1 : 1 ≤ hR G := by
    have := (W.2.2.2.2.2.2.2.1 t ht).2.2.2
    omega
  intro m
  induction m with
  | zero => intro a x4 M hm; omega
  | succ m ih =>
    intro a x4 M hm ha S e
    have ol := orB_lt (fine := fnG G) (g := fun c => dg (hR G) (nC G) c (oOf G t)) (fun c => Nat.lt_of_lt_of_le (dg_lt h1 _) w1) a
    obtain ⟨N, n1, g1, r⟩ := m_nextG (d := D) (by omega) W hW ha S
    rw [L_M_may_34] at e
    rcases r with ⟨r1, c, c1, c2, c3, c4, c5, c6⟩ | ⟨r1, nf⟩
    · have s := orB_next (g := fun c => dg (hR G) (nC G) c (oOf G t)) c1 c4 c3
      have dt := dg_lt (R := hR G) (C := nC G) (code := c) h1 (oOf G t)
      rw [r1, pbI_rI, if_neg (by decide), if_pos (by omega), if_pos (by omega), if_pos (by omega), Int.toNat_natCast, c6 t ht] at e
      unfold plG at e
      rw [jor_one ol (by omega), ← s] at e
      split at e
      · exact ih (c + 1) (x4 + 0) N (by omega) (by omega) c5 e
      · exact ih (c + 1) (x4 + 1) N (by omega) (by omega) c5 e
    · rw [r1, pbI_rI, if_pos (by decide)] at e
      obtain ⟨_, -, e⟩ := pbN_inv e
      rw [orB_to ha nf]
      exact (rI_inj e).1.symm
theorem cmk_has (W : WF h) : ∀ k, k ≤ hT h → ∀ i, i < (cgA h k).1 → ∃ t, t < k ∧ (cmk h k i).testBit t = true
  | 0, _, i, hi => absurd hi (Nat.not_lt_zero i)
  | k + 1, hk, i, hi => by
    have ec : cmk h (k + 1) i = if (cgA h k).2.testBit k = true ∧ i = (cgA h k).1 then cgM h k else cmk h k i := rfl
    rw [ec]
    rw [cgA_succ] at hi
    cases q : (cgA h k).2.testBit k with
    | false =>
      rw [q, if_neg (by decide)] at hi
      rw [if_neg (fun z => by cases z.1)]
      obtain ⟨t, t1, t2⟩ := cmk_has W k (by omega) i hi
      exact ⟨t, by omega, t2⟩
    | true =>
      rw [q, if_pos rfl] at hi
      by_cases y : i = (cgA h k).1
      · rw [if_pos ⟨rfl, y⟩, cg_M W]
        exact ⟨k, Nat.lt_succ_self k, fcX_bit (by rw [pow_bit]; exact decide_eq_true rfl)⟩
      · rw [if_neg (fun z => y z.2)]
        obtain ⟨t, t1, t2⟩ := cmk_has W k (by omega) i (by have : i < (cgA h k).1 + 1 := hi; omega)
        exact ⟨t, by omega, t2⟩
/-- the first thing of a clump -/
theorem ntz_cOf (W : WF h) {i : Nat} (hi : i < nC h) : ∃ t, t < hT h ∧ ntz (cOf h i) = (t : Int) ∧ oOf h t = i := by
  have w2 := W.2.1
  obtain ⟨t, t1, t2⟩ := cmk_has W (hT h) (Nat.le_refl _) i hi
  have t2 : (cOf h i).testBit t = true := t2
  have n0 : cOf h i ≠ 0 := fun z => by rw [z, Nat.zero_testBit] at t2; cases t2
  unfold ntz
  rw [if_neg n0]
  rcases firstN_spec (cOf h i).testBit 10 0 with ⟨-, no⟩ | ⟨j, e, j0, j1, j2, j3⟩
  · rw [no t (by omega) (by omega)] at t2; cases t2
  · have jt : j ≤ t := by
      rcases Nat.lt_or_ge t j with u | u
      · rw [j3 t (by omega) u] at t2; cases t2
      · exact u
    exact ⟨j, by omega, e, (oOf_iff W (by omega) hi).mp j2⟩
theorem kc_may (R : RI0 M) (C : CI M) (K : CK M) (R1 : RI0 M1) {a1 : Int} (h1 : -2147483648 ≤ a1 ∧ a1 ≤ 2147483647) (e1 : xF 1000 28 [.inr 2, .inl a1] M = rI v M1) (f1 : Fr w1 M M1) (k1 : okW cm cmo w1 = true) (e2 : xF 1000 242 [.inr 62, .inl a1] M1 = rI y M2) : v = y := by
  obtain ⟨G, X, Y⟩ := C
  obtain ⟨W, -⟩ := ci_facts R X Y
  have w2 := W.2.1
  have n10 := nC_le W
  have C := CK_G K X.1
  have t1 : xF (998 + 1 + 1) 28 [.inr 2, .inl a1] M = rI v M1 := e1
  have t2 : xF (998 + 1 + 1) 242 [.inr 62, .inl a1] M1 = rI y M2 := e2
  have Y1 := MG_thr (MG_Fr f1 k1 Y)
  have gT := gM_thr R1.1
  obtain ⟨N0, u1, u0, u2, u3, -⟩ := m_fcF (d := 998 + 1) (by omega) gT W Y1.1
  have Y0 : MG N0 G := MG_Fr u2 (by decide) Y1
  rw [T_X_may, C.1] at t1
  rw [T_M_may, u1, pbN_rV, u3, m_in (by omega), pbI_rI] at t2
  by_cases b0 : a1 < 0
  · rw [if_pos (by rw [lt32_iff] <;> omega)] at t1
    rw [if_pos (Or.inl (by rw [lt32_iff] <;> omega)), if_neg (fun z => z (by decide))] at t2
    rw [← (rI_inj t1).1, ← (rI_inj t2).1]
  · by_cases b1 : a1 < (nC G : Int)
    · obtain ⟨i, rfl⟩ : ∃ i : Nat, a1 = i := natI (by omega)
      have hi : i < nC G := by omega
      obtain ⟨t, ht, en, eo⟩ := ntz_cOf W hi
      rw [if_neg (by rw [lt32_iff] <;> omega), if_pos (by rw [lt32_iff] <;> omega)] at t1
      have hin : ¬ (lt32 (i : Int) 0 ∨ lt32 ((nC G : Int) - 1) (i : Int)) := fun z => by
        rcases z with z | z
        · rw [lt32_iff] at z <;> omega
        · rw [lt32_iff] at z <;> omega
      rw [if_neg hin, if_pos (by decide)] at t2
      obtain ⟨q1, q2⟩ := x_tooMany (d := 998 + 1) (by omega) W X.1 C
      obtain ⟨N, g2, fN, p1, p2⟩ := m_tooMG (d := 998 + 1) (by omega) u0 W Y0.1 (by rw [u2 60 38 (by decide), pset_ne2 (by decide)]; exact R1.2.1)
      rcases Classical.em (tmG G) with q | q
      · rw [q1 q, pbI_rI, if_neg (by decide)] at t1
        rw [p1 q, pbI_rI, if_neg (by decide)] at t2
        rw [← (rI_inj t1).1, ← (rI_inj t2).1]
      · have hW : hR G ^ nC G ≤ 20000 := by unfold tmG at q; omega
        obtain ⟨p3, p4⟩ := p2 q
        obtain ⟨N1, s1, s2, s3, s4, s5⟩ := x_startG (d := 998 + 1) (by omega) W X.1 C
        have a : v = (orB (fnG G) (fun c => dg (hR G) (nC G) c i) (hR G ^ nC G) : Nat) := by
          obtain ⟨v4, M3, z1, z2⟩ := pbI_inv s1
          rw [q2 q, pbI_rI, if_pos (by decide), c_leastOf (by omega) W C hi, pbI_rI, en, c_numberAt_13n (by omega) (by omega), pbI_rI, z1, pbI_rI, z2, pbN_rV] at t1
          have := x_may38 (D := 998 + 1) (by omega) (WB_G W q) hi _ (hR G ^ nC G + 1) 0 0 0 _ N1 (by omega) (by omega) (Nat.zero_le _) s2 (Or.inl ⟨rfl, s3⟩) t1
          rw [fnG_f] at this
          exact this
        have b : y = (orB (fnG G) (fun c => dg (hR G) (nC G) c i) (hR G ^ nC G) : Nat) := by
          have c73 : N 73 i = (cOf G i : Int) := by
            have := p4.2.2.2.2.2.2.2 i hi
            rw [pset_ne (by decide)] at this
            exact this
          rw [p3, pbI_rI, if_pos (by decide), if_pos (by omega), Int.toNat_natCast, c73, j_ntz (by omega) (cOf_lt W i), pbI_rI, en, T_M_beginRows, pbN_rV] at t2
          have := m_may34 (D := 998 + 1) (by omega) W hW ht _ (hR G ^ nC G + 1) 0 0 _ (by omega) (Nat.zero_le _) p4 t2
          rw [eo] at this
          exact this
        rw [a, b]
    · rw [if_neg (by rw [lt32_iff] <;> omega), if_neg (by rw [lt32_iff] <;> omega)] at t1
      rw [if_pos (Or.inr (by rw [lt32_iff] <;> omega)), if_neg (fun z => z (by decide))] at t2
      rw [← (rI_inj t1).1, ← (rI_inj t2).1]
end MAY
/-! the class chooses by the bulk in a room -/
section BBK
variable {D d R n : Nat} {M M' M1 M2 G h : pM} {w1 : List (Nat × Nat)} {v y : Int} {sz bk : Nat → Int}
def tbK (G : pM) (b : Nat) (e : Int) (k i : Nat) : Int := if i % 6 = b ∧ i / 6 < k then e * blk G (cOf G (i / 6)) else 0
def szB (G : pM) (b : Nat) (m : Int) (r : Nat) : Int := if r = b then G 1 b + m else G 1 r
theorem svT_bb (hR6 : R ≤ 6) (h1 : 1 ≤ R) (b : Nat) (e : Int) (c : Nat) : svT R (nC G) (tbK G b e (nC G)) c = e * wlq (fun i => blk G (cOf G i)) (dg R (nC G) c) b (nC G) := by
  have key : ∀ k, k ≤ nC G → sumTo (fun j => tbK G b e (nC G) (6 * j + dg R (nC G) c j)) k = e * wlq (fun i => blk G (cOf G i)) (dg R (nC G) c) b k := by
    intro k
    induction k with
    | zero => intro _; exact (Int.mul_zero e).symm
    | succ k ih =>
      intro hk
      have dl := dg_lt (R := R) (C := nC G) (code := c) h1 k
      have e1 : sumTo (fun j => tbK G b e (nC G) (6 * j + dg R (nC G) c j)) (k + 1) = sumTo (fun j => tbK G b e (nC G) (6 * j + dg R (nC G) c j)) k + tbK G b e (nC G) (6 * k + dg R (nC G) c k) := rfl
      rw [e1, ih (by omega), wlq_succ, Int.mul_add]
      congr 1
      unfold tbK
      rw [show (6 * k + dg R (nC G) c k) % 6 = dg R (nC G) c k by omega, show (6 * k + dg R (nC G) c k) / 6 = k by omega]
      by_cases z : dg R (nC G) c k = b
      · rw [if_pos ⟨z, by omega⟩, if_pos z]
      · rw [if_neg (fun w => z w.1), if_neg z, Int.mul_zero]
  exact key (nC G) (Nat.le_refl _)
theorem x_bb16 (hD : 3 ≤ D) (W : WF G) {b : Nat} (hb : b < hR G) (x2 e : Int) : ∀ m k (M : pM), k + m = nC G → XH M G → CL M G → (∀ i, i < 60 → M 37 i = tbK G b e k i) → ∃ M', xE (D + 1) 60 16 [.inr 2, .inl (b : Int), .inl x2, .inl e, .inl (k : Int)] [] M = xE (D + 1) 60 16 [.inr 2, .inl (b : Int), .inl x2, .inl e, .inl (nC G : Int)] [] M' ∧ (∀ i, i < 60 → M' 37 i = tbK G b e (nC G) i) ∧ ∀ o i, o ≠ 37 → M' o i = M o i
  | 0, k, M, hk, X, C, t => by
    have : k = nC G := by omega
    rw [this] at t ⊢
    exact ⟨M, rfl, t, fun _ _ _ => rfl⟩
  | m + 1, k, M, hk, X, C, t => by
    have w1 := W.1
    have n10 := nC_le W
    have bl := blk_range W (cOf G k)
    have t0 : M 37 (6 * k + b) = 0 := by
      rw [t _ (by omega)]
      unfold tbK
      rw [if_neg (by omega)]
    have lo : ∀ o i, o < 32 → pset M 37 (6 * k + b) (0 + e * blk G (cOf G k)) o i = M o i := fun o i ho => pset_ne (by omega)
    obtain ⟨M', e1, a1, f1⟩ := x_bb16 hD W hb x2 e m (k + 1) (pset M 37 (6 * k + b) (0 + e * blk G (cOf G k))) (by omega) (XH_hi lo X) (CL_hi lo C) (fun i hi => by
      by_cases z : i = 6 * k + b
      · rw [z, pset_eq]
        unfold tbK
        rw [show (6 * k + b) % 6 = b by omega, show (6 * k + b) / 6 = k by omega, if_pos ⟨rfl, by omega⟩, Int.zero_add]
      · rw [pset_ne2 z, t i hi]
        unfold tbK
        by_cases z2 : i % 6 = b ∧ i / 6 < k
        · rw [if_pos z2, if_pos ⟨z2.1, by omega⟩]
        · rw [if_neg z2, if_neg (fun w => z2 ⟨w.1, by
            have := w.1
            have := w.2
            omega⟩)])
    refine ⟨M', ?_, a1, fun o i ho => by rw [f1 o i ho, pset_ne ho]⟩
    rw [L_X_chooseByBulk_16, C.1, if_neg (by rw [le32_iff] <;> omega), c_clumpBulk (by omega) W X C (by omega), pbI_rI, T_Walk_add, if_neg (by rw [lt32_iff] <;> omega), if_neg (by rw [le32_iff] <;> omega), if_neg (by rw [lt32_iff] <;> omega), if_neg (by rw [le32_iff] <;> omega), if_pos (by omega), if_pos (by omega), show ((k : Int) * 6 + (b : Int)).toNat = 6 * k + b by omega, t0, pbN_rV, show ((k : Int) + 1) = ((k + 1 : Nat) : Int) by omega]
    exact e1
theorem x_byBulk (hd : 6 ≤ d) (W : WF G) (q : ¬ tmG G) (X : XH M G) (C : CL M G) {b : Nat} (hb : b < hR G) {m e : Int} (hm : -5000 ≤ m ∧ m ≤ 5000) (he : e = 1 ∨ e = -1) : ∃ M', xF d 60 [.inr 2, .inl (b : Int), .inl m, .inl e] M = rI (if (chF (fnW (hR G) (nC G) (szB G b m) (bkG G)) (svT (hR G) (nC G) (tbK G b e (nC G))) (hR G ^ nC G)).1 = 0 then 0 else 1) M' ∧ CHr (hR G) (nC G) (szB G b m) (bkG G) (tbK G b e (nC G)) (hR G ^ nC G) M' ∧ ∀ o i, o < 32 → M' o i = M o i := by
  obtain ⟨D, rfl, hD⟩ := dsucc hd
  obtain ⟨D', rfl, hD'⟩ := dsucc (show 1 ≤ D by omega)
  have w1 := W.1
  have B := WB_G W q
  obtain ⟨N1, s1, s2, s3, s4, s5⟩ := x_startG (d := D' + 1) (by omega) W X C
  obtain ⟨v4, M3, z1, z2⟩ := pbI_inv s1
  have sb := W.2.2.2.1 b hb
  have k33 : N1 33 b = G 1 b := s2.2.2.1 b hb
  have lo1 : ∀ o i, o < 32 → pset N1 33 b (G 1 b - -m) o i = M o i := fun o i ho => by rw [pset_ne (by omega), s5 o i (by omega)]
  obtain ⟨N2, e2, a2, f2⟩ := x_bb16 (D := D') (by omega) W hb m e (nC G) 0 (pset N1 33 b (G 1 b - -m)) (by omega) (XH_hi lo1 X) (CL_hi lo1 C) (fun i hi => by
    rw [pset_ne (by decide), s4 i hi]
    unfold tbK
    rw [if_neg (by omega)])
  have K2 : WK N2 (hR G) (nC G) (szB G b m) (bkG G) := by
    obtain ⟨k1, k2, k3, k4⟩ := s2
    refine ⟨by rw [f2 32 6 (by decide), pset_ne (by decide)]; exact k1, by rw [f2 32 7 (by decide), pset_ne (by decide)]; exact k2, fun r hr => ?_, fun j hj => by rw [f2 35 j (by decide), pset_ne (by decide)]; exact k4 j hj⟩
    rw [f2 33 r (by decide)]
    unfold szB
    by_cases z : r = b
    · rw [z, pset_eq, if_pos rfl]; omega
    · rw [pset_ne2 z, if_neg z]; exact k3 r hr
  have F2 : WF0 N2 (hR G) (nC G) := by
    obtain ⟨k1, k2, k3, k4⟩ := s3
    exact ⟨by rw [f2 32 8 (by decide), pset_ne (by decide)]; exact k1, by rw [f2 32 9 (by decide), pset_ne (by decide)]; exact k2, fun j hj => by rw [f2 36 j (by decide), pset_ne (by decide)]; exact k3 j hj, fun r hr => by rw [f2 34 r (by decide), pset_ne (by decide)]; exact k4 r hr⟩
  have B2 : WB0 (hR G) (nC G) (szB G b m) (bkG G) := by
    obtain ⟨b1, b2, b3, b4, b5, b6⟩ := B
    refine ⟨b1, b2, b3, fun r hr => ?_, b5, b6⟩
    have := W.2.2.2.1 r hr
    unfold szB
    split <;> omega
  have lo2 : ∀ o i, o < 32 → N2 o i = M o i := fun o i ho => by rw [f2 o i (by omega), lo1 o i ho]
  have hv : ∀ c, -100000000 ≤ svT (hR G) (nC G) (tbK G b e (nC G)) c ∧ svT (hR G) (nC G) (tbK G b e (nC G)) c ≤ 100000000 := fun c => by
    have n10 := nC_le W
    have s := sumTo_range (f := fun i => if dg (hR G) (nC G) c i = b then blk G (cOf G i) else 0) (lo := 0) (hi := 990) (n := nC G) (fun i _ => by
      have := blk_range W (cOf G i)
      show 0 ≤ (if dg (hR G) (nC G) c i = b then blk G (cOf G i) else 0) ∧ (if dg (hR G) (nC G) c i = b then blk G (cOf G i) else 0) ≤ 990
      split <;> omega)
    have s2 : ((nC G : Nat) : Int) * 0 ≤ wlq (fun i => blk G (cOf G i)) (dg (hR G) (nC G) c) b (nC G) ∧ wlq (fun i => blk G (cOf G i)) (dg (hR G) (nC G) c) b (nC G) ≤ (nC G : Int) * 990 := s
    rw [svT_bb w1 (by omega)]
    rcases he with rfl | rfl
    · rw [Int.one_mul]; omega
    · rw [Int.neg_mul, Int.one_mul]; omega
  obtain ⟨N3, c1, c2, c3⟩ := x_choose (d := D' + 1) (by omega) B2 hv K2 F2 a2
  refine ⟨N3, ?_, c2, fun o i ho => by rw [c3 o i (by omega) (by omega) (by omega) (by omega), lo2 o i ho]⟩
  have CN2 := CL_hi lo2 C
  have n10 := nC_le W
  rw [T_X_chooseByBulk, z1, pbI_rI, z2, pbN_rV, T_Walk_lessen, if_neg (by rw [lt32_iff] <;> omega), s2.1, if_neg (by rw [le32_iff] <;> omega), if_pos (by omega), if_pos (by omega), Int.toNat_natCast, k33, pbN_rV, show (.inl 0 : pV) = .inl ((0 : Nat) : Int) from rfl, e2, L_X_chooseByBulk_16, CN2.1, if_pos (by rw [le32_iff] <;> omega), c1, pbI_rI]
  by_cases z : (chF (fnW (hR G) (nC G) (szB G b m) (bkG G)) (svT (hR G) (nC G) (tbK G b e (nC G))) (hR G ^ nC G)).1 = 0
  · rw [if_pos z, if_pos (Or.inl rfl)]
  · rw [if_neg z, if_pos (Or.inr rfl)]
end BBK
/-! fullest: what it answers, on both sides -/
section FUL
variable {D d R n : Nat} {M M' M1 M2 G h : pM} {w1 : List (Nat × Nat)} {v y : Int} {sz bk : Nat → Int} {fine : Nat → Bool} {val : Nat → Int}
/-- the load of a room by a code -/
def ldG (G : pM) (b c : Nat) : Int := wlq (fun i => blk G (cOf G i)) (dg (hR G) (nC G) c) b (nC G)
theorem ldG_range (W : WF G) (b c : Nat) : 0 ≤ ldG G b c ∧ ldG G b c ≤ 9900 := by
  have n10 := nC_le W
  have s := sumTo_range (f := fun i => if dg (hR G) (nC G) c i = b then blk G (cOf G i) else 0) (lo := 0) (hi := 990) (n := nC G) (fun i _ => by
    have := blk_range W (cOf G i)
    show 0 ≤ (if dg (hR G) (nC G) c i = b then blk G (cOf G i) else 0) ∧ (if dg (hR G) (nC G) c i = b then blk G (cOf G i) else 0) ≤ 990
    split <;> omega)
  have s2 : ((nC G : Nat) : Int) * 0 ≤ wlq (fun i => blk G (cOf G i)) (dg (hR G) (nC G) c) b (nC G) ∧ wlq (fun i => blk G (cOf G i)) (dg (hR G) (nC G) c) b (nC G) ≤ (nC G : Int) * 990 := s
  unfold ldG
  omega
theorem m_freeG (hd : 1 ≤ d) (W : WF G) {a c : Nat} (S : SR M G a) (h78 : ∀ t, t < hT G → M 78 t = (plG G c t : Int)) {b : Nat} (hb : b < hR G) : xF d 198 [.inr 62, .inr 80, .inl (b : Int)] M = rI (G 1 b - ldG G b c) M := by
  have w1 := W.1
  have w2 := W.2.1
  have X := S.2.1
  have hp : ∀ t, t < hT G → 0 ≤ M 78 t ∧ M 78 t < hR G := fun t ht => by
    have := dg_lt (R := hR G) (C := nC G) (code := c) (by omega) (oOf G t)
    rw [h78 t ht]
    unfold plG
    omega
  have e : blk G (inR G (M 78) (b : Int)) = ldG G b c := by
    unfold ldG
    rw [blk_inR, ← blk_parts W]
    refine sumTo_congr fun t ht => ?_
    rw [h78 t ht]
    unfold plG
    by_cases z : dg (hR G) (nC G) c (oOf G t) = b
    · rw [if_pos z, if_pos (by omega)]
    · rw [if_neg z, if_neg (by omega)]
  rw [m_freeIn_78 hd X.2.1 w2 (by omega), free_same W X hp hb, e]
theorem chF_next {a c : Nat} (hac : a ≤ c) (nf : ∀ c', a ≤ c' → c' < c → fine c' = false) (hf : fine c = true) : chF fine val (c + 1) = if (chF fine val a).1 = 0 ∨ (chF fine val a).2.1 < val c then ((chF fine val a).1 + 1, val c, c) else ((chF fine val a).1 + 1, (chF fine val a).2) := by
  rw [← chF_to (val := val) hac nf]
  show (if fine c then _ else _) = _
  rw [hf, if_pos rfl]
/-- the greatest value so far, z if there is none -/
def mxV (fine : Nat → Bool) (val : Nat → Int) (z : Int) (a : Nat) : Int := if (chF fine val a).1 = 0 then z else (chF fine val a).2.1
theorem mxV_next {a c : Nat} {z : Int} (hac : a ≤ c) (nf : ∀ c', a ≤ c' → c' < c → fine c' = false) (hf : fine c = true) (hz : z < val c) : mxV fine val z (c + 1) = if mxV fine val z a < val c then val c else mxV fine val z a := by
  unfold mxV
  rw [chF_next hac nf hf]
  by_cases q : (chF fine val a).1 = 0
  · rw [if_pos (Or.inl q), if_pos q, if_pos hz, if_neg (Nat.succ_ne_zero _)]
  · rw [if_neg q]
    by_cases q2 : (chF fine val a).2.1 < val c
    · rw [if_pos (Or.inr q2), if_pos q2, if_neg (Nat.succ_ne_zero _)]
    · rw [if_neg (show ¬ ((chF fine val a).1 = 0 ∨ (chF fine val a).2.1 < val c) from fun w => w.elim q q2), if_neg q2, if_neg (Nat.succ_ne_zero _)]
theorem mxV_end {a b : Nat} {z : Int} (hab : a ≤ b) (nf : ∀ c', a ≤ c' → c' < b → fine c' = false) : mxV fine val z b = mxV fine val z a := by
  unfold mxV
  rw [chF_to hab nf]
theorem mxV_range {lo hi z : Int} (hv : ∀ c, lo ≤ val c ∧ val c ≤ hi) (hz : lo ≤ z ∧ z ≤ hi) : ∀ a, lo ≤ mxV fine val z a ∧ mxV fine val z a ≤ hi := by
  have key : ∀ a, (chF fine val a).1 = 0 ∨ (lo ≤ (chF fine val a).2.1 ∧ (chF fine val a).2.1 ≤ hi) := by
    intro a
    induction a with
    | zero => exact Or.inl rfl
    | succ a ih =>
      unfold chF
      split
      · split
        · exact Or.inr (hv a)
        · rename_i q2
          exact Or.inr (ih.resolve_left (fun w => q2 (Or.inl w)))
      · exact ih
  intro a
  unfold mxV
  split
  · exact hz
  · rename_i q
    exact (key a).resolve_left q
theorem m_ful18 (hD : 3 ≤ D) (W : WF G) (hW : hR G ^ nC G ≤ 20000) {b : Nat} (hb : b < hR G) : ∀ m a (y3 : pV) (M : pM), hR G ^ nC G - a + 1 ≤ m → a ≤ hR G ^ nC G → SR M G a → xE D 244 18 [.inr 62, .inl (b : Int), .inl (mxV (fnG G) (ldG G b) (-1) a), y3] [] M = rI y M2 → y = if mxV (fnG G) (ldG G b) (-1) (hR G ^ nC G) = -1 then -2 else mxV (fnG G) (ldG G b) (-1) (hR G ^ nC G) := by
  have w1 := W.1
  have w2 := W.2.1
  intro m
  induction m with
  | zero => intro a y3 M hm; omega
  | succ m ih =>
    intro a y3 M hm ha S e
    have mr := mxV_range (fine := fnG G) (z := -1) (fun c => (show -1 ≤ ldG G b c ∧ ldG G b c ≤ 9900 by have := ldG_range W b c; omega)) (by omega) a
    obtain ⟨N, n1, g1, r⟩ := m_nextG (d := D) (by omega) W hW ha S
    rw [L_M_fullest_18] at e
    rcases r with ⟨r1, c, c1, c2, c3, c4, c5, c6⟩ | ⟨r1, nf⟩
    · have lr := ldG_range W b c
      have s := mxV_next (val := ldG G b) (z := -1) c1 c4 c3 (by omega)
      have k61 : N 61 b = G 1 b := c5.2.1.2.2.2.1 b hb
      rw [r1, pbI_rI, if_neg (by decide), if_pos (by omega), m_freeG (by omega) W c5 c6 hb, pbI_rI, Int.toNat_natCast, k61, show G 1 b - (G 1 b - ldG G b c) = ldG G b c by omega] at e
      by_cases z : mxV (fnG G) (ldG G b) (-1) a < ldG G b c
      · rw [if_pos z] at s
        obtain ⟨N2, u1, u2, u3⟩ := u_take (d := D) (by omega) g1
        rw [if_pos (by rw [lt32_iff] <;> omega), u1, pbN_rV, ← s] at e
        exact ih (c + 1) _ N2 (by omega) (by omega) (SR_Fr u3 u2 (by decide) c5) e
      · rw [if_neg z] at s
        rw [if_neg (by rw [lt32_iff] <;> omega), ← s] at e
        exact ih (c + 1) _ N (by omega) (by omega) c5 e
    · rw [r1, pbI_rI, if_pos (by decide)] at e
      rw [mxV_end ha nf]
      by_cases z : mxV (fnG G) (ldG G b) (-1) a = -1
      · rw [if_neg (fun w => w (by rw [z]))] at e
        rw [if_pos z]
        exact (rI_inj e).1.symm
      · rw [if_pos (by rw [eq32_iff] <;> omega)] at e
        obtain ⟨_, -, e⟩ := pbN_inv e
        rw [if_neg z]
        exact (rI_inj e).1.symm
theorem szB_0 (b : Nat) : szB G b 0 = G 1 := funext fun r => by
  unfold szB
  split
  · rename_i z; rw [z, Int.add_zero]
  · rfl
theorem kc_fullest (R : RI0 M) (C : CI M) (K : CK M) (R1 : RI0 M1) {a1 : Int} (h1 : -2147483648 ≤ a1 ∧ a1 ≤ 2147483647) (e1 : xF 1000 30 [.inr 2, .inl a1] M = rI v M1) (f1 : Fr w1 M M1) (k1 : okW cm cmo w1 = true) (e2 : xF 1000 244 [.inr 62, .inl a1] M1 = rI y M2) : v = y := by
  obtain ⟨G, X, Y⟩ := C
  obtain ⟨W, -⟩ := ci_facts R X Y
  have hw1 := W.1
  have C := CK_G K X.1
  have t1 : xF (998 + 1 + 1) 30 [.inr 2, .inl a1] M = rI v M1 := e1
  have t2 : xF (998 + 1 + 1) 244 [.inr 62, .inl a1] M1 = rI y M2 := e2
  have Y1 := MG_thr (MG_Fr f1 k1 Y)
  have gT := gM_thr R1.1
  rw [T_X_fullest, c_isRoom7 (by omega) W X.1 (by omega) (by omega), pbI_rI, ite01pn] at t1
  rw [T_M_fullest, m_isRoom (by omega) Y1.1.1 hw1 (by omega) (by omega), pbI_rI, ite01pn] at t2
  by_cases q1 : 0 ≤ a1 ∧ a1 < (hR G : Int)
  · rw [if_pos q1] at t1 t2
    obtain ⟨b, rfl⟩ := natI q1.1
    have hb : b < hR G := by omega
    obtain ⟨qx1, qx2⟩ := x_tooMany (d := 998 + 1) (by omega) W X.1 C
    obtain ⟨N, g2, fN, p1, p2⟩ := m_tooMG (d := 998 + 1) (by omega) gT W Y1.1 (by rw [pset_ne2 (by decide)]; exact R1.2.1)
    rcases Classical.em (tmG G) with q | q
    · rw [qx1 q, pbI_rI, if_neg (by decide)] at t1
      rw [p1 q, pbI_rI, if_neg (by decide)] at t2
      rw [← (rI_inj t1).1, ← (rI_inj t2).1]
    · have hW : hR G ^ nC G ≤ 20000 := by unfold tmG at q; omega
      obtain ⟨p3, p4⟩ := p2 q
      obtain ⟨N3, c1, c2, c3⟩ := x_byBulk (d := 998 + 1) (by omega) W q X.1 C hb (m := 0) (e := 1) (by omega) (Or.inl rfl)
      have ev : svT (hR G) (nC G) (tbK G b 1 (nC G)) = ldG G b := funext fun c => by
        rw [svT_bb hw1 (by omega), Int.one_mul]; rfl
      unfold CHr at c2
      rw [szB_0, fnG_f, ev] at c1 c2
      obtain ⟨c21, c22⟩ := c2
      have mr := mxV_range (fine := fnG G) (z := -1) (fun c => (show -1 ≤ ldG G b c ∧ ldG G b c ≤ 9900 by have := ldG_range W b c; omega)) (by omega) (hR G ^ nC G)
      have a : v = if mxV (fnG G) (ldG G b) (-1) (hR G ^ nC G) = -1 then -2 else mxV (fnG G) (ldG G b) (-1) (hR G ^ nC G) := by
        rw [qx2 q, pbI_rI, if_pos (by decide), c1, pbI_rI] at t1
        by_cases z : (chF (fnG G) (ldG G b) (hR G ^ nC G)).1 = 0
        · rw [if_pos z, if_neg (fun w => w (by decide))] at t1
          have : mxV (fnG G) (ldG G b) (-1) (hR G ^ nC G) = -1 := if_pos z
          rw [if_pos this]
          exact (rI_inj t1).1.symm
        · have mv : mxV (fnG G) (ldG G b) (-1) (hR G ^ nC G) = (chF (fnG G) (ldG G b) (hR G ^ nC G)).2.1 := if_neg z
          have nn : 0 ≤ (chF (fnG G) (ldG G b) (hR G ^ nC G)).2.1 := by
            rw [← mv]
            have := mxV_range (fine := fnG G) (z := 0) (fun c => (show 0 ≤ ldG G b c ∧ ldG G b c ≤ 9900 by have := ldG_range W b c; omega)) (by omega) (hR G ^ nC G)
            unfold mxV at this ⊢
            rw [if_neg z] at this ⊢
            exact this.1
          have X2 : XH (pset N3 5 1 0) G := XH_eq X.1 (fun o i o1 o2 _ => by rw [pset_ne (by omega), c3 o i (by omega)])
          have C2 : CL (pset N3 5 1 0) G := by
            obtain ⟨b1, b2, b3⟩ := C
            exact ⟨by rw [pset_ne (by decide), c3 7 12 (by decide)]; exact b1, fun i hi => by rw [pset_ne (by decide), c3 15 i (by decide)]; exact b2 i hi, fun t ht => by rw [pset_ne (by decide), c3 16 t (by decide)]; exact b3 t ht⟩
          obtain ⟨N4, u1, u2⟩ := x_tellChosen (d := 998 + 1) (s := 0) (by omega) W X2 C2 pset_eq (by decide)
          rw [if_neg z, if_pos (by decide), T_Numbers_start, pbN_rV, u1, pbN_rV, u2 32 10 (by decide) (by decide), pset_ne (by decide), (c22 z).1] at t1
          rw [mv, if_neg (by omega)]
          exact (rI_inj t1).1.symm
      have b' : y = if mxV (fnG G) (ldG G b) (-1) (hR G ^ nC G) = -1 then -2 else mxV (fnG G) (ldG G b) (-1) (hR G ^ nC G) := by
        rw [p3, pbI_rI, if_pos (by decide), T_M_beginRows, pbN_rV] at t2
        exact m_ful18 (D := 998 + 1) (by omega) W hW hb (hR G ^ nC G + 1) 0 _ _ (by omega) (Nat.zero_le _) p4 t2
      rw [a, b']
  · rw [if_neg q1] at t1 t2
    rw [← (rI_inj t1).1, ← (rI_inj t2).1]
end FUL
/-! space: what it answers, on both sides -/
section SPC
variable {D d R n : Nat} {M M' M1 M2 G h : pM} {w1 : List (Nat × Nat)} {v y : Int} {fine : Nat → Bool} {val : Nat → Int}
theorem chF_max : ∀ a, ((chF fine val a).1 = 0 → ∀ c, c < a → fine c = false) ∧ ((chF fine val a).1 ≠ 0 → (∃ c, c < a ∧ fine c = true ∧ val c = (chF fine val a).2.1) ∧ ∀ c, c < a → fine c = true → val c ≤ (chF fine val a).2.1)
  | 0 => ⟨fun _ c hc => absurd hc (Nat.not_lt_zero c), fun h => absurd rfl h⟩
  | a + 1 => by
    obtain ⟨i1, i2⟩ := chF_max a
    have e : chF fine val (a + 1) = if fine a then (if (chF fine val a).1 = 0 ∨ (chF fine val a).2.1 < val a then ((chF fine val a).1 + 1, val a, a) else ((chF fine val a).1 + 1, (chF fine val a).2)) else chF fine val a := rfl
    rw [e]
    cases q : fine a with
    | false =>
      rw [if_neg (by decide)]
      refine ⟨fun h c hc => ?_, fun h => ⟨?_, fun c hc hf => ?_⟩⟩
      · rcases Nat.lt_or_ge c a with u | u
        · exact i1 h c u
        · rw [show c = a by omega]; exact q
      · obtain ⟨⟨c, c1, c2, c3⟩, -⟩ := i2 h
        exact ⟨c, by omega, c2, c3⟩
      · rcases Nat.lt_or_ge c a with u | u
        · exact (i2 h).2 c u hf
        · rw [show c = a by omega, q] at hf; cases hf
    | true =>
      rw [if_pos rfl]
      by_cases q2 : (chF fine val a).1 = 0 ∨ (chF fine val a).2.1 < val a
      · rw [if_pos q2]
        refine ⟨fun h => absurd h (Nat.succ_ne_zero _), fun _ => ⟨⟨a, Nat.lt_succ_self a, q, rfl⟩, fun c hc hf => ?_⟩⟩
        show val c ≤ val a
        rcases Nat.lt_or_ge c a with u | u
        · rcases q2 with q2 | q2
          · rw [i1 q2 c u] at hf; cases hf
          · by_cases q3 : (chF fine val a).1 = 0
            · rw [i1 q3 c u] at hf; cases hf
            · have := (i2 q3).2 c u hf
              omega
        · rw [show c = a by omega]; exact Int.le_refl _
      · rw [if_neg q2]
        have q3 : (chF fine val a).1 ≠ 0 := fun z => q2 (Or.inl z)
        obtain ⟨⟨c0, c1, c2, c3⟩, i4⟩ := i2 q3
        refine ⟨fun h => absurd h (Nat.succ_ne_zero _), fun _ => ⟨⟨c0, by omega, c2, c3⟩, fun c hc hf => ?_⟩⟩
        show val c ≤ (chF fine val a).2.1
        rcases Nat.lt_or_ge c a with u | u
        · exact i4 c u hf
        · rw [show c = a by omega]
          exact Int.not_lt.mp (fun z => q2 (Or.inr z))
/-- V is the greatest of what f says, over what P lets in; -1 if it lets in nothing -/
def GM (P : Nat → Nat → Prop) (f : Nat → Nat → Int) (V : Int) : Prop := (∀ r c, P r c → f r c ≤ V) ∧ ((V = -1 ∧ ∀ r c, ¬ P r c) ∨ ∃ r c, P r c ∧ f r c = V)
theorem GM_uniq {P : Nat → Nat → Prop} {f : Nat → Nat → Int} {V V' : Int} (a : GM P f V) (b : GM P f V') : V = V' := by
  obtain ⟨a1, a2⟩ := a
  obtain ⟨b1, b2⟩ := b
  rcases a2 with ⟨a2, a3⟩ | ⟨r, c, a3, a4⟩
  · rcases b2 with ⟨b2, -⟩ | ⟨r, c, b3, -⟩
    · rw [a2, b2]
    · exact absurd b3 (a3 r c)
  · rcases b2 with ⟨-, b3⟩ | ⟨r', c', b3, b4⟩
    · exact absurd a3 (b3 r c)
    · have h1 := a1 r' c' b3
      have h2 := b1 r c a3
      omega
theorem GM_cg {P Q : Nat → Nat → Prop} {f : Nat → Nat → Int} {V : Int} (e : ∀ r c, P r c ↔ Q r c) (a : GM P f V) : GM Q f V := by
  obtain ⟨a1, a2⟩ := a
  refine ⟨fun r c q => a1 r c ((e r c).mpr q), ?_⟩
  rcases a2 with ⟨a2, a3⟩ | ⟨r, c, a3, a4⟩
  · exact Or.inl ⟨a2, fun r c q => a3 r c ((e r c).mpr q)⟩
  · exact Or.inr ⟨r, c, (e r c).mp a3, a4⟩
def frG (G : pM) (r c : Nat) : Int := G 1 r - ldG G r c
def spP (G : pM) (W : Nat) (k : Nat) (r c : Nat) : Prop := r < k ∧ c < W ∧ fnG G c = true
theorem frG_range (W : WF G) {r c : Nat} (hr : r < hR G) (hf : fnG G c = true) : 0 ≤ frG G r c ∧ frG G r c ≤ 99 := by
  have s := W.2.2.2.1 r hr
  have l := ldG_range W r c
  have := fnW_iff.mp hf r hr
  have : ldG G r c ≤ G 1 r := this
  unfold frG
  omega
theorem GM_range (W : WF G) {P : Nat → Nat → Prop} (hP : ∀ r c, P r c → r < hR G ∧ fnG G c = true) {V : Int} (g : GM P (frG G) V) : -1 ≤ V ∧ V ≤ 99 := by
  rcases g.2 with ⟨g, -⟩ | ⟨r, c, g1, g2⟩
  · omega
  · obtain ⟨a, b⟩ := hP r c g1
    have := frG_range W a b
    omega
theorem x_sp10 (hD : 6 ≤ D) (W : WF G) (q : ¬ tmG G) : ∀ m k (V : Int) (M : pM), k + m = hR G → XH M G → CL M G → GM (spP G (hR G ^ nC G) k) (frG G) V → xE D 26 10 [.inr 2, .inl V, .inl (k : Int)] [] M = rI v M' → ∃ V', GM (spP G (hR G ^ nC G) (hR G)) (frG G) V' ∧ v = if V' = -1 then -2 else V'
  | 0, k, V, M, hk, X, C, g, e => by
    have w1 := W.1
    have ek : k = hR G := by omega
    have gr := GM_range W (fun r c p => ⟨by have := p.1; omega, p.2.2⟩) g
    rw [L_X_space_10, X.1, if_pos (by rw [le32_iff] <;> omega)] at e
    rw [ek] at g
    refine ⟨V, g, ?_⟩
    by_cases z : V = -1
    · rw [if_neg (fun w => w (by rw [z]))] at e
      rw [if_pos z]; exact (rI_inj e).1.symm
    · rw [if_pos (by rw [eq32_iff] <;> omega)] at e
      rw [if_neg z]; exact (rI_inj e).1.symm
  | m + 1, k, V, M, hk, X, C, g, e => by
    have w1 := W.1
    have hkR : k < hR G := by omega
    have gr := GM_range W (fun r c p => ⟨by have := p.1; omega, p.2.2⟩) g
    have sb := W.2.2.2.1 k hkR
    obtain ⟨N, c1, c2, c3⟩ := x_byBulk (d := D) hD W q X C hkR (m := 0) (e := -1) (by omega) (Or.inr rfl)
    have ev : svT (hR G) (nC G) (tbK G k (-1) (nC G)) = fun c => -ldG G k c := funext fun c => by
      rw [svT_bb w1 (by omega), Int.neg_mul, Int.one_mul]; rfl
    unfold CHr at c2
    rw [szB_0, fnG_f, ev] at c1 c2
    obtain ⟨c21, c22⟩ := c2
    obtain ⟨i1, i2⟩ := chF_max (fine := fnG G) (val := fun c => -ldG G k c) (hR G ^ nC G)
    have XN := XH_hi c3 X
    have CN := CL_hi c3 C
    rw [L_X_space_10, X.1, if_neg (by rw [le32_iff] <;> omega), c1, pbI_rI] at e
    by_cases z : (chF (fnG G) (fun c => -ldG G k c) (hR G ^ nC G)).1 = 0
    · rw [if_pos z, if_pos (by decide), show ((k : Int) + 1) = ((k + 1 : Nat) : Int) by omega] at e
      refine x_sp10 hD W q m (k + 1) V N (by omega) XN CN (GM_cg (fun r c => ?_) g) e
      constructor
      · intro p; exact ⟨by have := p.1; omega, p.2⟩
      · intro p
        have := i1 z c p.2.1
        rw [p.2.2] at this; cases this
    · obtain ⟨⟨c0, d1, d2, d3⟩, i4⟩ := i2 z
      have v10 := (c22 z).1
      have fr0 := frG_range W hkR d2
      have k8 : N 8 k = G 1 k := XN.2.2.2.1 k hkR
      have fe : G 1 k + (chF (fnG G) (fun c => -ldG G k c) (hR G ^ nC G)).2.1 = frG G k c0 := by
        rw [← d3]
        unfold frG
        omega
      rw [if_neg z, if_neg (by decide), if_pos (by omega), Int.toNat_natCast, k8, v10, fe] at e
      have up : ∀ V', (V' = V ∧ frG G k c0 ≤ V) ∨ (V' = frG G k c0 ∧ V < frG G k c0) → GM (spP G (hR G ^ nC G) (k + 1)) (frG G) V' := fun V' hV => by
        obtain ⟨g1, g2⟩ := g
        refine ⟨fun r c p => ?_, Or.inr ?_⟩
        · rcases Nat.lt_or_ge r k with u | u
          · have := g1 r c ⟨u, p.2⟩
            omega
          · have rk : r = k := by have := p.1; omega
            subst rk
            have := i4 c p.2.1 p.2.2
            have this : -ldG G r c ≤ (chF (fnG G) (fun c => -ldG G r c) (hR G ^ nC G)).2.1 := this
            have : frG G r c ≤ frG G r c0 := by
              rw [← fe]
              unfold frG
              omega
            omega
        · rcases hV with ⟨e1, e2⟩ | ⟨e1, e2⟩
          · rcases g2 with ⟨g2, g3⟩ | ⟨r, c, g3, g4⟩
            · omega
            · exact ⟨r, c, ⟨by have := g3.1; omega, g3.2⟩, by rw [e1]; exact g4⟩
          · exact ⟨k, c0, ⟨Nat.lt_succ_self k, d1, d2⟩, e1.symm⟩
      by_cases z2 : frG G k c0 ≤ V
      · rw [if_pos (by rw [le32_iff] <;> omega), show ((k : Int) + 1) = ((k + 1 : Nat) : Int) by omega] at e
        exact x_sp10 hD W q m (k + 1) V N (by omega) XN CN (up V (Or.inl ⟨rfl, z2⟩)) e
      · obtain ⟨D', hD'⟩ : ∃ D', D = D' + 1 := ⟨D - 1, by omega⟩
        have lo5 : ∀ o i, o < 32 → o ≠ 5 → pset N 5 1 0 o i = N o i := fun o i _ h5 => pset_ne h5
        obtain ⟨N5, u1, u2, u3⟩ := x_tell (d := D) (M := pset N 5 1 0) (n := 0) (by omega) (by decide) pset_eq (k : Int)
        have X5 : XH N5 G := XH_eq XN (fun o i o1 o2 _ => by rw [u3 o i (by omega) (by omega), pset_ne (by omega)])
        have C5 : CL N5 G := by
          obtain ⟨b1, b2, b3⟩ := CN
          exact ⟨by rw [u3 7 12 (by decide) (by decide), pset_ne (by decide)]; exact b1, fun i hi => by rw [u3 15 i (by decide) (by decide), pset_ne (by decide)]; exact b2 i hi, fun t ht => by rw [u3 16 t (by decide) (by decide), pset_ne (by decide)]; exact b3 t ht⟩
        obtain ⟨N6, u4, u5⟩ := x_tellChosen (d := D) (s := 1) (by omega) W X5 C5 u2 (by decide)
        have X6 : XH N6 G := XH_eq X5 (fun o i o1 o2 _ => u5 o i (by omega) (by omega))
        have C6 : CL N6 G := by
          obtain ⟨b1, b2, b3⟩ := C5
          exact ⟨by rw [u5 7 12 (by decide) (by decide)]; exact b1, fun i hi => by rw [u5 15 i (by decide) (by decide)]; exact b2 i hi, fun t ht => by rw [u5 16 t (by decide) (by decide)]; exact b3 t ht⟩
        have us : xF D 127 [.inr 7] N = rV (pset N 5 1 0) := by rw [hD']; exact T_Numbers_start D' N
        rw [if_neg (by rw [le32_iff] <;> omega), if_pos (by omega), us, pbN_rV, u1, pbN_rV, u4, pbN_rV, show ((k : Int) + 1) = ((k + 1 : Nat) : Int) by omega] at e
        exact x_sp10 hD W q m (k + 1) _ N6 (by omega) X6 C6 (up _ (Or.inr ⟨rfl, by omega⟩)) e
/-- codes below a, and of code c the rooms below k -/
def spQ (G : pM) (a c0 k : Nat) (r c : Nat) : Prop := fnG G c = true ∧ ((r < hR G ∧ c < a) ∨ (c = c0 ∧ r < k))
theorem m_sp24 (hD : 3 ≤ D) (W : WF G) {a c0 : Nat} (hf : fnG G c0 = true) : ∀ m k (V x2 : Int) (y4 : pV) (M : pM), k + m = hR G → -1 ≤ x2 ∧ x2 ≤ 6 → SR M G (c0 + 1) → (∀ t, t < hT G → M 78 t = (plG G c0 t : Int)) → GM (spQ G a c0 k) (frG G) V → ∃ (V' x2' : Int) (y4' : pV) (M' : pM), xE D 240 24 [.inr 62, .inl V, .inl x2, .inl (k : Int), y4] [] M = xE D 240 19 [.inr 62, .inl V', .inl x2', .inl (hR G : Int), y4'] [] M' ∧ (-1 ≤ x2' ∧ x2' ≤ 6) ∧ SR M' G (c0 + 1) ∧ GM (spQ G a c0 (hR G)) (frG G) V'
  | 0, k, V, x2, y4, M, hk, hx, S, h78, g => by
    have w1 := W.1
    have ek : k = hR G := by omega
    rw [ek] at g ⊢
    rw [L_M_space_24, S.2.1.1, if_pos (by rw [le32_iff] <;> omega)]
    exact ⟨V, x2, y4, M, rfl, hx, S, g⟩
  | m + 1, k, V, x2, y4, M, hk, hx, S, h78, g => by
    have w1 := W.1
    have hkR : k < hR G := by omega
    have gr := GM_range W (fun r c p => ⟨by have := p.2; omega, p.1⟩) g
    have fr := frG_range W hkR hf
    have up : ∀ V', (V' = V ∧ frG G k c0 ≤ V) ∨ (V' = frG G k c0 ∧ V ≤ frG G k c0) → GM (spQ G a c0 (k + 1)) (frG G) V' := fun V' hV => by
      obtain ⟨g1, g2⟩ := g
      refine ⟨fun r c p => ?_, Or.inr ?_⟩
      · rcases p.2 with u | ⟨u1, u2⟩
        · have := g1 r c ⟨p.1, Or.inl u⟩
          omega
        · rcases Nat.lt_or_ge r k with u | u
          · have := g1 r c ⟨p.1, Or.inr ⟨u1, u⟩⟩
            omega
          · rw [show r = k by omega, u1]
            omega
      · rcases hV with ⟨e1, e2⟩ | ⟨e1, e2⟩
        · rcases g2 with ⟨g2, g3⟩ | ⟨r, c, g3, g4⟩
          · omega
          · exact ⟨r, c, ⟨g3.1, g3.2.imp id (fun z => ⟨z.1, by omega⟩)⟩, by rw [e1]; exact g4⟩
        · exact ⟨k, c0, ⟨hf, Or.inr ⟨rfl, Nat.lt_succ_self k⟩⟩, e1.symm⟩
    have tk : ∃ M3, xF D 233 [.inr 62] M = rV M3 ∧ SR M3 G (c0 + 1) ∧ ∀ t, t < hT G → M3 78 t = (plG G c0 t : Int) := by
      obtain ⟨N2, u1, u2, u3⟩ := u_take (d := D) (by omega) S.1
      exact ⟨N2, u1, SR_Fr u3 u2 (by decide) S, fun t ht => by rw [u3 78 t rfl]; exact h78 t ht⟩
    obtain ⟨M3, t1, t2, t3⟩ := tk
    rw [L_M_space_24, S.2.1.1, if_neg (by rw [le32_iff] <;> omega), m_freeG (by omega) W S h78 hkR, pbI_rI, show G 1 k - ldG G k c0 = frG G k c0 from rfl, show ((k : Int) + 1) = ((k + 1 : Nat) : Int) by omega]
    by_cases z : frG G k c0 < V
    · rw [if_pos (by rw [lt32_iff] <;> omega)]
      exact m_sp24 hD W hf m (k + 1) V x2 _ M (by omega) hx S h78 (up V (Or.inl ⟨rfl, by omega⟩))
    · rw [if_neg (by rw [lt32_iff] <;> omega)]
      by_cases z2 : frG G k c0 = V
      · rw [if_neg (fun w => w (by rw [z2]))]
        by_cases z3 : (k : Int) < x2
        · rw [if_pos (by rw [lt32_iff] <;> omega), t1, pbN_rV]
          exact m_sp24 hD W hf m (k + 1) _ _ _ M3 (by omega) (by omega) t2 t3 (up _ (Or.inr ⟨rfl, by omega⟩))
        · rw [if_neg (by rw [lt32_iff] <;> omega)]
          exact m_sp24 hD W hf m (k + 1) V x2 _ M (by omega) hx S h78 (up V (Or.inl ⟨rfl, by omega⟩))
      · rw [if_pos (by rw [eq32_iff] <;> omega), t1, pbN_rV]
        exact m_sp24 hD W hf m (k + 1) _ _ _ M3 (by omega) (by omega) t2 t3 (up _ (Or.inr ⟨rfl, by omega⟩))
theorem m_sp19 (hD : 3 ≤ D) (W : WF G) (hW : hR G ^ nC G ≤ 20000) : ∀ m a (V x2 : Int) (y3 y4 : pV) (M : pM), hR G ^ nC G - a + 1 ≤ m → a ≤ hR G ^ nC G → -1 ≤ x2 ∧ x2 ≤ 6 → SR M G a → GM (spP G a (hR G)) (frG G) V → xE D 240 19 [.inr 62, .inl V, .inl x2, y3, y4] [] M = rI y M2 → ∃ V', GM (spP G (hR G ^ nC G) (hR G)) (frG G) V' ∧ y = if V' = -1 then -2 else V' := by
  have w1 := W.1
  intro m
  induction m with
  | zero => intro a V x2 y3 y4 M hm; omega
  | succ m ih =>
    intro a V x2 y3 y4 M hm ha hx S g e
    have gr := GM_range W (fun r c p => ⟨p.1, p.2.2⟩) g
    obtain ⟨N, n1, g1, r⟩ := m_nextG (d := D) (by omega) W hW ha S
    rw [L_M_space_19] at e
    rcases r with ⟨r1, c, c1, c2, c3, c4, c5, c6⟩ | ⟨r1, nf⟩
    · have g0 : GM (spQ G a c 0) (frG G) V := GM_cg (fun r c' => ⟨fun p => ⟨p.2.2, Or.inl ⟨p.1, p.2.1⟩⟩, fun p => by
        rcases p.2 with u | ⟨_, u⟩
        · exact ⟨u.1, u.2, p.1⟩
        · exact absurd u (Nat.not_lt_zero r)⟩) g
      obtain ⟨V', x2', y4', M3, e3, hx', S3, g3⟩ := m_sp24 (D := D) hD W (a := a) c3 (hR G) 0 V x2 y4 N (by omega) hx c5 c6 g0
      rw [r1, pbI_rI, if_neg (by decide), show (.inl 0 : pV) = .inl ((0 : Nat) : Int) from rfl, e3] at e
      refine ih (c + 1) V' x2' _ y4' M3 (by omega) (by omega) hx' S3 (GM_cg (fun r c' => ⟨fun p => ?_, fun p => ?_⟩) g3) e
      · rcases p.2 with u | u
        · exact ⟨u.1, by omega, p.1⟩
        · exact ⟨u.2, by omega, p.1⟩
      · refine ⟨p.2.2, ?_⟩
        rcases Nat.lt_or_ge c' a with u | u
        · exact Or.inl ⟨p.1, u⟩
        · rcases Nat.lt_or_ge c' c with u2 | u2
          · have := c4 c' u u2
            rw [p.2.2] at this; cases this
          · exact Or.inr ⟨by have := p.2.1; omega, p.1⟩
    · rw [r1, pbI_rI, if_pos (by decide)] at e
      refine ⟨V, GM_cg (fun r c' => ⟨fun p => ⟨p.1, by have := p.2.1; omega, p.2.2⟩, fun p => ⟨p.1, ?_, p.2.2⟩⟩) g, ?_⟩
      · by_cases z : V = -1
        · rw [if_neg (fun w => w (by rw [z]))] at e
          rw [if_pos z]; exact (rI_inj e).1.symm
        · rw [if_pos (by rw [eq32_iff] <;> omega)] at e
          obtain ⟨_, -, e⟩ := pbN_inv e
          obtain ⟨_, -, e⟩ := pbN_inv e
          rw [if_neg z]; exact (rI_inj e).1.symm
      · rcases Nat.lt_or_ge c' a with u | u
        · exact u
        · have := nf c' u p.2.1
          rw [p.2.2] at this; cases this
theorem kc_space (R : RI0 M) (C : CI M) (K : CK M) (R1 : RI0 M1) (e1 : xF 1000 26 [.inr 2] M = rI v M1) (f1 : Fr w1 M M1) (k1 : okW cm cmo w1 = true) (e2 : xF 1000 240 [.inr 62] M1 = rI y M2) : v = y := by
  obtain ⟨G, X, Y⟩ := C
  obtain ⟨W, -⟩ := ci_facts R X Y
  have hw1 := W.1
  have C := CK_G K X.1
  have t1 : xF (998 + 1 + 1) 26 [.inr 2] M = rI v M1 := e1
  have t2 : xF (998 + 1 + 1) 240 [.inr 62] M1 = rI y M2 := e2
  have Y1 := MG_thr (MG_Fr f1 k1 Y)
  have gT := gM_thr R1.1
  obtain ⟨qx1, qx2⟩ := x_tooMany (d := 998 + 1) (by omega) W X.1 C
  rw [T_X_space] at t1
  rw [T_M_space, Y1.1.1] at t2
  have base : GM (spP G (hR G ^ nC G) 0) (frG G) (-1) := ⟨fun r c p => absurd p.1 (Nat.not_lt_zero r), Or.inl ⟨rfl, fun r c p => absurd p.1 (Nat.not_lt_zero r)⟩⟩
  rcases Nat.eq_zero_or_pos (hR G) with z | z
  · have nq : ¬ tmG G := fun q => by
      have t0 := R0_T0 W z
      have c0 : nC G = 0 := by have := nC_T G; omega
      unfold tmG at q
      rw [z, c0, Nat.pow_zero] at q
      omega
    rw [z, if_neg (fun w => w (by decide))] at t2
    rw [qx2 nq, pbI_rI, if_pos (by decide), L_X_space_10, X.1.1, z, if_pos (by decide), if_neg (fun w => w (by decide))] at t1
    rw [← (rI_inj t1).1, ← (rI_inj t2).1]
  · obtain ⟨N, g2, fN, p1, p2⟩ := m_tooMG (d := 998 + 1) (by omega) gT W Y1.1 (by rw [pset_ne2 (by decide)]; exact R1.2.1)
    rw [if_pos (by rw [eq32_iff] <;> omega)] at t2
    rcases Classical.em (tmG G) with q | q
    · rw [qx1 q, pbI_rI, if_neg (by decide)] at t1
      rw [p1 q, pbI_rI, if_neg (by decide)] at t2
      rw [← (rI_inj t1).1, ← (rI_inj t2).1]
    · have hW : hR G ^ nC G ≤ 20000 := by unfold tmG at q; omega
      obtain ⟨p3, p4⟩ := p2 q
      rw [qx2 q, pbI_rI, if_pos (by decide)] at t1
      rw [p3, pbI_rI, if_pos (by decide), T_M_beginRows, pbN_rV] at t2
      obtain ⟨V1, ga, ea⟩ := x_sp10 (D := 998 + 1) (by omega) W q (hR G) 0 (-1) M (by omega) X.1 C base t1
      obtain ⟨V2, gb, eb⟩ := m_sp19 (D := 998 + 1) (by omega) W hW (hR G ^ nC G + 1) 0 (-1) 0 _ _ _ (by omega) (Nat.zero_le _) (by omega) p4 ⟨fun r c p => absurd p.2.1 (Nat.not_lt_zero c), Or.inl ⟨rfl, fun r c p => absurd p.2.1 (Nat.not_lt_zero c)⟩⟩ t2
      rw [ea, eb, GM_uniq ga gb]
end SPC
/-! near, guest: the least to be carried, on both sides -/
section NEA
variable {D d R n : Nat} {M M' M1 M2 N G h : pM} {w1 : List (Nat × Nat)} {v y : Int} {sz : Nat → Int} {fine : Nat → Bool} {val : Nat → Int}
theorem sumTo_neg {f : Nat → Int} : ∀ k, sumTo (fun i => -f i) k = -sumTo f k
  | 0 => rfl
  | k + 1 => by
    show sumTo (fun i => -f i) k + -f k = -(sumTo f k + f k)
    rw [sumTo_neg k, Int.neg_add]
/-- what it costs, less than nothing, to have a thing in a room -/
def ccG (G : pM) (t r : Nat) : Int := if r < hR G then (if cst G t (G 6 t).toNat r < 0 then -1000000 else -cst G t (G 6 t).toNat r) else 0
def tbN (G : pM) (k i : Nat) : Int := sumTo (fun t => if oOf G t = i / 6 then ccG G t (i % 6) else 0) k
theorem ccG_range (W : WF G) {t : Nat} (ht : t < hT G) (r : Nat) : -1000000 ≤ ccG G t r ∧ ccG G t r ≤ 0 := by
  have := cst_range W ht (G 6 t).toNat r
  unfold ccG
  split
  · split <;> omega
  · omega
theorem svT_N (W : WF G) (c : Nat) : svT (hR G) (nC G) (tbN G (hT G)) c = sumTo (fun t => ccG G t (plG G c t)) (hT G) := by
  rcases Nat.eq_zero_or_pos (hR G) with z | z
  · have t0 := R0_T0 W z
    have c0 : nC G = 0 := by have := nC_T G; omega
    unfold svT
    rw [c0, t0]; rfl
  · have w1 := W.1
    have e1 : svT (hR G) (nC G) (tbN G (hT G)) c = sumTo (fun j => sumTo (fun t => if oOf G t = j then ccG G t (dg (hR G) (nC G) c j) else 0) (hT G)) (nC G) := sumTo_congr fun j hj => by
      have dl := dg_lt (R := hR G) (C := nC G) (code := c) z j
      unfold tbN
      rw [show (6 * j + dg (hR G) (nC G) c j) / 6 = j by omega, show (6 * j + dg (hR G) (nC G) c j) % 6 = dg (hR G) (nC G) c j by omega]
    rw [e1, sumTo_swap]
    refine sumTo_congr fun t ht => ?_
    obtain ⟨a, -⟩ := oOf_in W ht
    have : sumTo (fun j => if oOf G t = j then ccG G t (dg (hR G) (nC G) c j) else 0) (nC G) = sumTo (fun j => if oOf G t = j then ccG G t (plG G c t) else 0) (nC G) := sumTo_congr fun j _ => by
      by_cases z : oOf G t = j
      · rw [if_pos z, if_pos z, ← z]; rfl
      · rw [if_neg z, if_neg z]
    rw [this, sumTo_one, if_pos a]
/-- what it costs to come to a code's arrangement, -1 if some thing does not get there -/
def ctG (G : pM) (c : Nat) : Int := cto G (fun t => (plG G c t : Int))
def cvG (G : pM) (c : Nat) : Int := if ctG G c < 0 then 1000000 else ctG G c
theorem nr_val (W : WF G) (c : Nat) : (0 ≤ ctG G c → svT (hR G) (nC G) (tbN G (hT G)) c = -ctG G c) ∧ (ctG G c < 0 → svT (hR G) (nC G) (tbN G (hT G)) c ≤ -1000000) ∧ (-10000000 ≤ svT (hR G) (nC G) (tbN G (hT G)) c ∧ svT (hR G) (nC G) (tbN G (hT G)) c ≤ 0) := by
  have w2 := W.2.1
  rw [svT_N W]
  have pl : ∀ t, t < hT G → plG G c t < hR G := fun t ht => dg_lt (by have := (W.2.2.2.2.2.2.2.1 t ht).2.2.2; omega) _
  have cc : ∀ t, t < hT G → ccG G t (plG G c t) = if csp G (fun t => (plG G c t : Int)) t < 0 then -1000000 else -csp G (fun t => (plG G c t : Int)) t := fun t ht => by
    unfold ccG
    rw [if_pos (pl t ht)]
    rfl
  have rg := sumTo_range (f := fun t => ccG G t (plG G c t)) (lo := -1000000) (hi := 0) (n := hT G) (fun t ht => ccG_range W ht _)
  unfold ctG cto
  refine ⟨fun h => ?_, fun h => ?_, by omega⟩
  · by_cases z : allTo (fun t => decide (0 ≤ csp G (fun t => (plG G c t : Int)) t)) (hT G) = true
    · rw [if_pos z, ← sumTo_neg]
      refine sumTo_congr fun t ht => ?_
      have := of_decide_eq_true (allTo_iff.mp z t ht)
      rw [cc t ht, if_neg (by omega)]
    · rw [if_neg z] at h; omega
  · by_cases z : allTo (fun t => decide (0 ≤ csp G (fun t => (plG G c t : Int)) t)) (hT G) = true
    · rw [if_pos z] at h
      have := sumTo_range (f := csp G (fun t => (plG G c t : Int))) (lo := 0) (hi := 45) (n := hT G) (fun t ht => ⟨of_decide_eq_true (allTo_iff.mp z t ht), (cst_range W ht _ _).2⟩)
      omega
    · obtain ⟨t, ht⟩ := Classical.not_forall.mp (fun w => z (allTo_iff.mpr w))
      obtain ⟨ht1, ht2⟩ := Classical.not_imp.mp ht
      have c1 : csp G (fun t => (plG G c t : Int)) t < 0 := Int.not_le.mp (fun w => ht2 (decide_eq_true w))
      have le := sumTo_le (f := fun i => ccG G i (plG G c i)) (g := fun i => if t = i then (-1000000 : Int) else 0) (hT G) (fun i hi => by
        show ccG G i (plG G c i) ≤ if t = i then (-1000000 : Int) else 0
        by_cases y : t = i
        · subst y
          rw [if_pos rfl, cc t hi, if_pos c1]
          exact Int.le_refl _
        · rw [if_neg y]
          exact (ccG_range W hi _).2)
      rw [sumTo_one, if_pos ht1] at le
      exact le
theorem x_nr22 (hD : 3 ≤ D) (W : WF G) {k : Nat} (hk : k < hT G) (x1 x2 : Int) : ∀ m r (y5 : pV) (M : pM), r + m = hR G → XH M G → CL M G → (∀ i, i < 60 → M 37 i = tbN G k i + if oOf G k = i / 6 ∧ i % 6 < r then ccG G k (i % 6) else 0) → ∃ (y' : pV) (M' : pM), xE (D + 1) 59 22 [.inr 2, .inl x1, .inl x2, .inl (k : Int), .inl (r : Int), y5] [] M = xE (D + 1) 59 15 [.inr 2, .inl x1, .inl x2, .inl ((k + 1 : Nat) : Int), .inl (hR G : Int), y'] [] M' ∧ (∀ i, i < 60 → M' 37 i = tbN G (k + 1) i) ∧ ∀ o i, o ≠ 37 → M' o i = M o i
  | 0, r, y5, M, hr, X, C, t => by
    have w1 := W.1
    have w2 := W.2.1
    have er : r = hR G := by omega
    rw [er] at t ⊢
    have e0 : xE (D + 1) 59 22 [.inr 2, .inl x1, .inl x2, .inl (k : Int), .inl (hR G : Int), y5] [] M = xE (D + 1) 59 15 [.inr 2, .inl x1, .inl x2, .inl ((k + 1 : Nat) : Int), .inl (hR G : Int), y5] [] M := by
      rw [L_X_nearest_22, X.1, if_pos (by rw [le32_iff] <;> omega), show ((k : Int) + 1) = ((k + 1 : Nat) : Int) by omega]
    refine ⟨y5, M, e0, fun i hi => ?_, fun _ _ _ => rfl⟩
    rw [t i hi]
    show tbN G k i + _ = tbN G k i + (if oOf G k = i / 6 then ccG G k (i % 6) else 0)
    congr 1
    by_cases z : oOf G k = i / 6
    · rw [if_pos z]
      by_cases z2 : i % 6 < hR G
      · rw [if_pos ⟨z, z2⟩]
      · rw [if_neg (fun w => z2 w.2)]
        unfold ccG
        rw [if_neg z2]
    · rw [if_neg z, if_neg (fun w => z w.1)]
  | m + 1, r, y5, M, hr, X, C, t => by
    have w1 := W.1
    have w2 := W.2.1
    have n10 := nC_le W
    have hkt := W.2.2.2.2.2.2.2.1 k hk
    obtain ⟨a, ha⟩ : ∃ a : Nat, G 6 k = a := natI hkt.2.2.2.1
    have ec : cst G k (G 6 k).toNat r = cst G k a r := by rw [ha, Int.toNat_natCast]
    have cr := cst_range W hk a r
    have ok := (oOf_in W hk).1
    have m13 : M 13 k = (a : Int) := by rw [← ha]; exact (X.2.2.2.2.2.1 k hk).2.2.2
    have c16 : M 16 k = (oOf G k : Int) := C.2.2 k hk
    have fin : ∀ (z : Int) (y5' : pV), z = ccG G k r → ∃ (y' : pV) (M' : pM), xE (D + 1) 59 22 [.inr 2, .inl x1, .inl x2, .inl (k : Int), .inl ((r + 1 : Nat) : Int), y5'] [] (pset M 37 (6 * oOf G k + r) (M 37 (6 * oOf G k + r) + z)) = xE (D + 1) 59 15 [.inr 2, .inl x1, .inl x2, .inl ((k + 1 : Nat) : Int), .inl (hR G : Int), y'] [] M' ∧ (∀ i, i < 60 → M' 37 i = tbN G (k + 1) i) ∧ ∀ o i, o ≠ 37 → M' o i = M o i := fun z y5' hz => by
      obtain ⟨y', M', e, t', f⟩ := x_nr22 hD W hk x1 x2 m (r + 1) y5' (pset M 37 (6 * oOf G k + r) (M 37 (6 * oOf G k + r) + z)) (by omega) (XH_hi (fun o i ho => pset_ne (by omega)) X) (CL_hi (fun o i ho => pset_ne (by omega)) C) (fun i hi => by
        by_cases z1 : i = 6 * oOf G k + r
        · subst z1
          rw [pset_eq, t _ hi, hz, show (6 * oOf G k + r) / 6 = oOf G k by omega, show (6 * oOf G k + r) % 6 = r by omega, if_neg (fun w => Nat.lt_irrefl r w.2), if_pos ⟨rfl, Nat.lt_succ_self r⟩, Int.add_zero]
        · rw [pset_ne2 z1, t i hi]
          congr 1
          by_cases z2 : oOf G k = i / 6 ∧ i % 6 < r
          · rw [if_pos z2, if_pos ⟨z2.1, by omega⟩]
          · rw [if_neg z2, if_neg (fun w => z2 ⟨w.1, by
              have := w.1
              have := w.2
              omega⟩)])
      exact ⟨y', M', e, t', fun o i ho => by rw [f o i ho, pset_ne ho]⟩
    rw [L_X_nearest_22, X.1, if_neg (by rw [le32_iff] <;> omega), if_pos (by omega), Int.toNat_natCast, m13, c_cost (by omega) W X hk (by omega) (by omega), pbI_rI, if_pos (by omega), c16]
    by_cases z : 0 ≤ cst G k a r
    · rw [if_pos (by rw [le32_iff] <;> omega), T_Walk_add, if_neg (by rw [lt32_iff] <;> omega), if_neg (by rw [le32_iff] <;> omega), if_neg (by rw [lt32_iff] <;> omega), if_neg (by rw [le32_iff] <;> omega), if_pos (by omega), if_pos (by omega), show ((oOf G k : Int) * 6 + (r : Int)).toNat = 6 * oOf G k + r by omega, pbN_rV, show ((r : Int) + 1) = ((r + 1 : Nat) : Int) by omega]
      exact fin _ _ (by unfold ccG; rw [if_pos (by omega), ec, if_neg (by omega)])
    · rw [if_neg (by rw [le32_iff] <;> omega), T_Walk_add, if_neg (by rw [lt32_iff] <;> omega), if_neg (by rw [le32_iff] <;> omega), if_neg (by rw [lt32_iff] <;> omega), if_neg (by rw [le32_iff] <;> omega), if_pos (by omega), if_pos (by omega), show ((oOf G k : Int) * 6 + (r : Int)).toNat = 6 * oOf G k + r by omega, pbN_rV, show ((r : Int) + 1) = ((r + 1 : Nat) : Int) by omega]
      exact fin _ _ (by unfold ccG; rw [if_pos (by omega), ec, if_pos (by omega)])
theorem x_nr15 (hD : 3 ≤ D) (W : WF G) (x1 x2 : Int) : ∀ m k (y4 y5 : pV) (M : pM), k + m = hT G → XH M G → CL M G → (∀ i, i < 60 → M 37 i = tbN G k i) → ∃ (y4' y5' : pV) (M' : pM), xE (D + 1) 59 15 [.inr 2, .inl x1, .inl x2, .inl (k : Int), y4, y5] [] M = xE (D + 1) 59 15 [.inr 2, .inl x1, .inl x2, .inl (hT G : Int), y4', y5'] [] M' ∧ (∀ i, i < 60 → M' 37 i = tbN G (hT G) i) ∧ ∀ o i, o ≠ 37 → M' o i = M o i
  | 0, k, y4, y5, M, hk, X, C, t => by
    have ek : k = hT G := by omega
    rw [ek] at t ⊢
    exact ⟨y4, y5, M, rfl, t, fun _ _ _ => rfl⟩
  | m + 1, k, y4, y5, M, hk, X, C, t => by
    have w1 := W.1
    have w2 := W.2.1
    obtain ⟨y', M1, e1, t1, f1⟩ := x_nr22 hD W (show k < hT G by omega) x1 x2 (hR G) 0 y5 M (by omega) X C (fun i hi => by rw [t i hi, if_neg (fun w => Nat.not_lt_zero _ w.2), Int.add_zero])
    obtain ⟨y4', y5', M', e2, t2, f2⟩ := x_nr15 hD W x1 x2 m (k + 1) (.inl (hR G : Int)) y' M1 (by omega) (XH_hi (fun o i ho => f1 o i (by omega)) X) (CL_hi (fun o i ho => f1 o i (by omega)) C) t1
    have e0 : xE (D + 1) 59 15 [.inr 2, .inl x1, .inl x2, .inl (k : Int), y4, y5] [] M = xE (D + 1) 59 22 [.inr 2, .inl x1, .inl x2, .inl (k : Int), .inl ((0 : Nat) : Int), y5] [] M := by
      rw [L_X_nearest_15, X.2.1, if_neg (by rw [le32_iff] <;> omega)]; rfl
    exact ⟨y4', y5', M', e0.trans (e1.trans e2), t2, fun o i ho => by rw [f2 o i ho, f1 o i ho]⟩
/-- what one side answers -/
def nrV (G : pM) (fine : Nat → Bool) : Int := if (chF fine (svT (hR G) (nC G) (tbN G (hT G))) (hR G ^ nC G)).1 = 0 ∨ (chF fine (svT (hR G) (nC G) (tbN G (hT G))) (hR G ^ nC G)).2.1 ≤ -1000000 then -2 else -(chF fine (svT (hR G) (nC G) (tbN G (hT G))) (hR G ^ nC G)).2.1
theorem x_near1 (hD : 3 ≤ D) (W : WF G) (B : WB0 (hR G) (nC G) sz (bkG G)) (X : XH N G) (C : CL N G) (K : WK N (hR G) (nC G) sz (bkG G)) (F : WF0 N (hR G) (nC G)) (t0 : ∀ i, i < 60 → N 37 i = 0) (x1 x2 : Int) (y4 y5 : pV) (e : xE (D + 1) 59 15 [.inr 2, .inl x1, .inl x2, .inl ((0 : Nat) : Int), y4, y5] [] N = rI v M') : v = nrV G (fnW (hR G) (nC G) sz (bkG G)) := by
  have w1 := W.1
  have w2 := W.2.1
  obtain ⟨y4', y5', N2, e1, t2, f2⟩ := x_nr15 hD W x1 x2 (hT G) 0 y4 y5 N (by omega) X C (fun i hi => by rw [t0 i hi]; rfl)
  rw [e1] at e
  have K2 : WK N2 (hR G) (nC G) sz (bkG G) := by
    obtain ⟨k1, k2, k3, k4⟩ := K
    exact ⟨by rw [f2 32 6 (by decide)]; exact k1, by rw [f2 32 7 (by decide)]; exact k2, fun r hr => by rw [f2 33 r (by decide)]; exact k3 r hr, fun j hj => by rw [f2 35 j (by decide)]; exact k4 j hj⟩
  have F2 : WF0 N2 (hR G) (nC G) := by
    obtain ⟨k1, k2, k3, k4⟩ := F
    exact ⟨by rw [f2 32 8 (by decide)]; exact k1, by rw [f2 32 9 (by decide)]; exact k2, fun j hj => by rw [f2 36 j (by decide)]; exact k3 j hj, fun r hr => by rw [f2 34 r (by decide)]; exact k4 r hr⟩
  have X2 := XH_hi (fun o i ho => f2 o i (by omega)) X
  have C2 := CL_hi (fun o i ho => f2 o i (by omega)) C
  have hv : ∀ c, -100000000 ≤ svT (hR G) (nC G) (tbN G (hT G)) c ∧ svT (hR G) (nC G) (tbN G (hT G)) c ≤ 100000000 := fun c => by
    have := (nr_val W c).2.2
    omega
  obtain ⟨N3, c1, c2, c3⟩ := x_choose (d := D + 1) (by omega) B hv K2 F2 t2
  obtain ⟨c21, c22⟩ := c2
  obtain ⟨i1, i2⟩ := chF_max (fine := fnW (hR G) (nC G) sz (bkG G)) (val := svT (hR G) (nC G) (tbN G (hT G))) (hR G ^ nC G)
  rw [L_X_nearest_15, X2.2.1, if_pos (by rw [le32_iff] <;> omega), c1, pbI_rI] at e
  unfold nrV
  by_cases z : (chF (fnW (hR G) (nC G) sz (bkG G)) (svT (hR G) (nC G) (tbN G (hT G))) (hR G ^ nC G)).1 = 0
  · rw [if_pos z, if_pos (by decide)] at e
    rw [if_pos (Or.inl z)]
    exact (rI_inj e).1.symm
  · obtain ⟨⟨c0, d1, d2, d3⟩, i4⟩ := i2 z
    have v10 := (c22 z).1
    have rg := (nr_val W c0).2.2
    rw [d3] at rg
    rw [if_neg z, if_neg (by decide), v10] at e
    by_cases z2 : (chF (fnW (hR G) (nC G) sz (bkG G)) (svT (hR G) (nC G) (tbN G (hT G))) (hR G ^ nC G)).2.1 ≤ -1000000
    · rw [if_neg (by rw [lt32_iff] <;> omega)] at e
      rw [if_pos (Or.inr z2)]
      exact (rI_inj e).1.symm
    · have lo3 : ∀ o i, o < 32 → N3 o i = N2 o i := fun o i ho => c3 o i (by omega) (by omega) (by omega) (by omega)
      have X3 : XH (pset N3 5 1 0) G := XH_eq X2 (fun o i o1 o2 _ => by rw [pset_ne (by omega), lo3 o i (by omega)])
      have C3 : CL (pset N3 5 1 0) G := by
        obtain ⟨b1, b2, b3⟩ := C2
        exact ⟨by rw [pset_ne (by decide), lo3 7 12 (by decide)]; exact b1, fun i hi => by rw [pset_ne (by decide), lo3 15 i (by decide)]; exact b2 i hi, fun t ht => by rw [pset_ne (by decide), lo3 16 t (by decide)]; exact b3 t ht⟩
      obtain ⟨N4, u1, u2⟩ := x_tellChosen (d := D + 1) (s := 0) (by omega) W X3 C3 pset_eq (by decide)
      rw [if_pos (by rw [lt32_iff] <;> omega), T_Numbers_start, pbN_rV, u1, pbN_rV, u2 32 10 (by decide) (by decide), pset_ne (by decide), v10] at e
      rw [if_neg (fun w => w.elim z z2)]
      exact (rI_inj e).1.symm
/-- what fits, and has so much free in that room -/
def fnN (G : pM) (b f : Int) (c : Nat) : Bool := fnG G c && decide (b < 0 ∨ f ≤ frG G b.toNat c)
theorem fnN_none (f : Int) : fnN G (-1) f = fnG G := funext fun c => by
  unfold fnN
  rw [decide_eq_true (Or.inl (by decide)), Bool.and_true]
theorem fnN_szB {b : Nat} (hb : b < hR G) {f : Int} (hf : 0 ≤ f) : fnW (hR G) (nC G) (szB G b (-f)) (bkG G) = fnN G (b : Int) f := funext fun c => by
  have e : ∀ r, wlq (bkG G) (dg (hR G) (nC G) c) r (nC G) = ldG G r c := fun r => sumTo_congr fun i hi => by
    unfold bkG
    rw [bkL_all (nC G) (Nat.le_refl _) hi]
  refine Bool.eq_iff_iff.mpr ?_
  unfold fnN
  rw [fnW_iff, Bool.and_eq_true, decide_eq_true_eq, ← fnG_bk, fnW_iff, Int.toNat_natCast]
  unfold szB frG
  constructor
  · intro p
    refine ⟨fun r hr => ?_, Or.inr ?_⟩
    · have := p r hr
      by_cases z : r = b
      · rw [if_pos z] at this
        rw [z] at this ⊢
        omega
      · rw [if_neg z] at this; exact this
    · have := p b hb
      rw [if_pos rfl, e] at this
      omega
  · intro p r hr
    by_cases z : r = b
    · rw [if_pos z, z, e]
      rcases p.2 with u | u
      · omega
      · omega
    · rw [if_neg z]; exact p.1 r hr
theorem x_nearest (hd : 5 ≤ d) (W : WF G) (q : ¬ tmG G) (X : XH M G) (C : CL M G) {b f : Int} (hb : b = -1 ∨ (0 ≤ b ∧ b < hR G)) (hf : 0 ≤ f ∧ f ≤ 99) (e : xF d 59 [.inr 2, .inl b, .inl f] M = rI v M') : v = nrV G (fnN G b f) := by
  obtain ⟨D, rfl, hD⟩ := dsucc hd
  obtain ⟨D', rfl, hD'⟩ := dsucc (show 1 ≤ D by omega)
  have w1 := W.1
  have B := WB_G W q
  obtain ⟨N1, s1, s2, s3, s4, s5⟩ := x_startG (d := D' + 1) (by omega) W X C
  obtain ⟨v4, M3, z1, z2⟩ := pbI_inv s1
  rw [T_X_nearest, z1, pbI_rI, z2, pbN_rV, T_Walk_lessen, s2.1] at e
  rcases hb with rfl | hb
  · rw [if_pos (by decide), pbN_rV, show (.inl 0 : pV) = .inl ((0 : Nat) : Int) from rfl] at e
    have := x_near1 (by omega) W B (XH_hi (fun o i ho => s5 o i (by omega)) X) (CL_hi (fun o i ho => s5 o i (by omega)) C) s2 s3 s4 _ _ _ _ e
    rw [fnG_f] at this
    rw [fnN_none]
    exact this
  · obtain ⟨b, rfl⟩ := natI hb.1
    have hb : b < hR G := by omega
    have sb := W.2.2.2.1 b hb
    have k33 : N1 33 b = G 1 b := s2.2.2.1 b hb
    have lo1 : ∀ o i, o < 32 → pset N1 33 b (G 1 b - f) o i = M o i := fun o i ho => by rw [pset_ne (by omega), s5 o i (by omega)]
    rw [if_neg (by rw [lt32_iff] <;> omega), if_neg (by rw [le32_iff] <;> omega), if_pos (by omega), if_pos (by omega), Int.toNat_natCast, k33, pbN_rV, show (.inl 0 : pV) = .inl ((0 : Nat) : Int) from rfl] at e
    have K2 : WK (pset N1 33 b (G 1 b - f)) (hR G) (nC G) (szB G b (-f)) (bkG G) := by
      obtain ⟨k1, k2, k3, k4⟩ := s2
      refine ⟨by rw [pset_ne (by decide)]; exact k1, by rw [pset_ne (by decide)]; exact k2, fun r hr => ?_, fun j hj => by rw [pset_ne (by decide)]; exact k4 j hj⟩
      unfold szB
      by_cases z : r = b
      · rw [z, pset_eq, if_pos rfl]; omega
      · rw [pset_ne2 z, if_neg z]; exact k3 r hr
    have F2 : WF0 (pset N1 33 b (G 1 b - f)) (hR G) (nC G) := by
      obtain ⟨k1, k2, k3, k4⟩ := s3
      exact ⟨by rw [pset_ne (by decide)]; exact k1, by rw [pset_ne (by decide)]; exact k2, fun j hj => by rw [pset_ne (by decide)]; exact k3 j hj, fun r hr => by rw [pset_ne (by decide)]; exact k4 r hr⟩
    have B2 : WB0 (hR G) (nC G) (szB G b (-f)) (bkG G) := by
      obtain ⟨b1, b2, b3, b4, b5, b6⟩ := B
      refine ⟨b1, b2, b3, fun r hr => ?_, b5, b6⟩
      have := W.2.2.2.1 r hr
      unfold szB
      split <;> omega
    have := x_near1 (by omega) W B2 (XH_hi lo1 X) (CL_hi lo1 C) K2 F2 (fun i hi => by rw [pset_ne (by decide)]; exact s4 i hi) _ _ _ _ e
    rw [fnN_szB hb hf.1] at this
    exact this
/-- V is the least of what f says, over what P lets in; 1000000 if nothing is less -/
def MN (P : Nat → Prop) (f : Nat → Int) (V : Int) : Prop := (∀ c, P c → V ≤ f c) ∧ V ≤ 1000000 ∧ (V = 1000000 ∨ ∃ c, P c ∧ f c = V)
theorem MN_cg {P Q : Nat → Prop} {f : Nat → Int} {V : Int} (e : ∀ c, P c ↔ Q c) (a : MN P f V) : MN Q f V := by
  obtain ⟨a1, a2, a3⟩ := a
  exact ⟨fun c q => a1 c ((e c).mpr q), a2, a3.imp id (fun ⟨c, a4, a5⟩ => ⟨c, (e c).mp a4, a5⟩)⟩
theorem nr_end (W : WF G) {V : Int} (g : MN (fun c => c < hR G ^ nC G ∧ fine c = true) (cvG G) V) : nrV G fine = if V = 1000000 then -2 else V := by
  obtain ⟨g1, g2, g3⟩ := g
  obtain ⟨i1, i2⟩ := chF_max (fine := fine) (val := svT (hR G) (nC G) (tbN G (hT G))) (hR G ^ nC G)
  have up : ∀ c, ctG G c ≤ 450 := fun c => (cto_range W _).2
  unfold nrV
  by_cases z : (chF fine (svT (hR G) (nC G) (tbN G (hT G))) (hR G ^ nC G)).1 = 0
  · rw [if_pos (Or.inl z)]
    rcases g3 with g3 | ⟨c, ⟨g4, g5⟩, -⟩
    · rw [if_pos g3]
    · rw [i1 z c g4] at g5; cases g5
  · obtain ⟨⟨c0, d1, d2, d3⟩, i4⟩ := i2 z
    obtain ⟨n1, n2, n3⟩ := nr_val W c0
    have l0 := g1 c0 ⟨d1, d2⟩
    have u0 := up c0
    unfold cvG at l0
    by_cases y0 : ctG G c0 < 0
    · have a1 := n2 y0
      rw [if_pos (Or.inr (by omega))]
      rcases g3 with g3 | ⟨c, ⟨g4, g5⟩, g6⟩
      · rw [if_pos g3]
      · obtain ⟨m1, m2, -⟩ := nr_val W c
        have m4 := i4 c g4 g5
        have uc := up c
        unfold cvG at g6
        by_cases yc : ctG G c < 0
        · rw [if_pos yc] at g6
          rw [if_pos g6.symm]
        · have := m1 (by omega)
          omega
    · rw [if_neg y0] at l0
      have a1 := n1 (by omega)
      rw [if_neg (fun w => w.elim z (fun w => by omega)), if_neg (by omega)]
      rcases g3 with g3 | ⟨c, ⟨g4, g5⟩, g6⟩
      · omega
      · obtain ⟨m1, m2, -⟩ := nr_val W c
        have m4 := i4 c g4 g5
        unfold cvG at g6
        by_cases yc : ctG G c < 0
        · rw [if_pos yc] at g6
          omega
        · rw [if_neg yc] at g6
          have := m1 (by omega)
          omega
theorem m_costG (hd : 5 ≤ d) (W : WF G) {a c : Nat} (S : SR M G a) (h78 : ∀ t, t < hT G → M 78 t = (plG G c t : Int)) : ∃ M', xF d 209 [.inr 62, .inr 68, .inl 0, .inr 80, .inl 0] M = rI (cvG G c) M' ∧ SR M' G a ∧ ∀ t, t < hT G → M' 78 t = (plG G c t : Int) := by
  obtain ⟨M', e, f⟩ := m_cost78 (p := fun t => (plG G c t : Int)) hd W S.2.1 (fun t ht => ⟨h78 t ht, (by
    show (0 : Int) ≤ (plG G c t : Int)
    omega), by
    have := dg_lt (R := hR G) (C := nC G) (code := c) (by have := (W.2.2.2.2.2.2.2.1 t ht).2.2.2; omega) (oOf G t)
    show ((dg (hR G) (nC G) c (oOf G t) : Nat) : Int) < hR G
    omega⟩)
  obtain ⟨z, M'', e', g, fr, -⟩ := v_cost (d := d) (by omega) S.1 (a2 := 0) (a4 := 0) (by omega) (by omega)
  rw [e] at e'
  obtain ⟨-, rfl⟩ := rI_inj e'
  exact ⟨M', e, SR_Fr fr g (by decide) S, fun t ht => by rw [f 78 t (by decide)]; exact h78 t ht⟩
def mnP (G : pM) (b f : Int) (a c : Nat) : Prop := c < a ∧ fnN G b f c = true
theorem m_nr9 (hD : 5 ≤ D) (W : WF G) (hW : hR G ^ nC G ≤ 20000) {b f : Int} (hb : b = -1 ∨ (0 ≤ b ∧ b < hR G)) (hf : 0 ≤ f ∧ f ≤ 99) : ∀ m a (V : Int) (y4 : pV) (M : pM), hR G ^ nC G - a + 1 ≤ m → a ≤ hR G ^ nC G → SR M G a → MN (mnP G b f a) (cvG G) V → -1 ≤ V → xE D 237 9 [.inr 62, .inl b, .inl f, .inl V, y4] [] M = rI y M2 → ∃ V', MN (mnP G b f (hR G ^ nC G)) (cvG G) V' ∧ y = if V' = 1000000 then -2 else V' := by
  have w1 := W.1
  intro m
  induction m with
  | zero => intro a V y4 M hm; omega
  | succ m ih =>
    intro a V y4 M hm ha S g hV e
    obtain ⟨N, n1, g1, r⟩ := m_nextG (d := D) (by omega) W hW ha S
    rw [L_M_nearest_9] at e
    rcases r with ⟨r1, c, c1, c2, c3, c4, c5, c6⟩ | ⟨r1, nf⟩
    · have cr : -1 ≤ ctG G c ∧ ctG G c ≤ 450 := cto_range W _
      have cv : 0 ≤ cvG G c ∧ cvG G c ≤ 1000000 := by
        unfold cvG
        split <;> omega
      have V1 := g.2.1
      rw [r1, pbI_rI, if_neg (by decide)] at e
      -- a code that does not count
      have skip : fnN G b f c = false → MN (mnP G b f (c + 1)) (cvG G) V := fun h => by
        refine MN_cg (fun c' => ⟨fun p => ⟨by have := p.1; omega, p.2⟩, fun p => ?_⟩) g
        refine ⟨?_, p.2⟩
        rcases Nat.lt_or_ge c' a with u | u
        · exact u
        · have h0 := p.2
          rcases Nat.lt_or_ge c' c with u2 | u2
          · unfold fnN at h0
            rw [c4 c' u u2] at h0; cases h0
          · have e : c' = c := by have := p.1; omega
            rw [e, h] at h0; cases h0
      have take : fnN G b f c = true → ∀ V', (V' = V ∧ V ≤ cvG G c) ∨ (V' = cvG G c ∧ cvG G c ≤ V) → MN (mnP G b f (c + 1)) (cvG G) V' := fun h V' hV' => by
        obtain ⟨g1, g2, g3⟩ := g
        refine ⟨fun c' p => ?_, by omega, ?_⟩
        · rcases Nat.lt_or_ge c' a with u | u
          · have := g1 c' ⟨u, p.2⟩
            omega
          · rcases Nat.lt_or_ge c' c with u2 | u2
            · have h0 := p.2
              unfold fnN at h0
              rw [c4 c' u u2] at h0; cases h0
            · have : c' = c := by have := p.1; omega
              rw [this]
              omega
        · rcases hV' with ⟨e1, e2⟩ | ⟨e1, e2⟩
          · rcases g3 with g3 | ⟨c', g4, g5⟩
            · exact Or.inl (by omega)
            · exact Or.inr ⟨c', ⟨by have := g4.1; omega, g4.2⟩, by omega⟩
          · exact Or.inr ⟨c, ⟨Nat.lt_succ_self c, h⟩, e1.symm⟩
      obtain ⟨M3, k1, k2, k3⟩ := m_costG (d := D) (by omega) W c5 c6
      have tk : ∃ M4, xF D 233 [.inr 62] M3 = rV M4 ∧ SR M4 G (c + 1) := by
        obtain ⟨N2, u1, u2, u3⟩ := u_take (d := D) (by omega) k2.1
        exact ⟨N2, u1, SR_Fr u3 u2 (by decide) k2⟩
      obtain ⟨M4, t1, t2⟩ := tk
      rcases hb with rfl | hb
      · have fn : fnN G (-1) f c = true := by rw [fnN_none]; exact c3
        rw [if_pos (by decide), k1, pbI_rI] at e
        by_cases z : cvG G c < V
        · rw [if_pos (by rw [lt32_iff] <;> omega), t1, pbN_rV] at e
          exact ih (c + 1) (cvG G c) _ M4 (by omega) (by omega) t2 (take fn _ (Or.inr ⟨rfl, by omega⟩)) (by omega) e
        · rw [if_neg (by rw [lt32_iff] <;> omega)] at e
          exact ih (c + 1) V _ M3 (by omega) (by omega) k2 (take fn _ (Or.inl ⟨rfl, by omega⟩)) hV e
      · obtain ⟨b, rfl⟩ := natI hb.1
        have hb' : b < hR G := by omega
        have fr := frG_range W hb' c3
        rw [if_neg (by rw [eq32_iff] <;> omega), m_freeG (by omega) W c5 c6 hb', pbI_rI, show G 1 b - ldG G b c = frG G b c from rfl] at e
        by_cases y : f ≤ frG G b c
        · have fn : fnN G (b : Int) f c = true := by
            unfold fnN
            rw [c3, Int.toNat_natCast, decide_eq_true (Or.inr y), Bool.and_true]
          rw [if_pos (by rw [le32_iff] <;> omega), k1, pbI_rI] at e
          by_cases z : cvG G c < V
          · rw [if_pos (by rw [lt32_iff] <;> omega), t1, pbN_rV] at e
            exact ih (c + 1) (cvG G c) _ M4 (by omega) (by omega) t2 (take fn _ (Or.inr ⟨rfl, by omega⟩)) (by omega) e
          · rw [if_neg (by rw [lt32_iff] <;> omega)] at e
            exact ih (c + 1) V _ M3 (by omega) (by omega) k2 (take fn _ (Or.inl ⟨rfl, by omega⟩)) hV e
        · have fn : fnN G (b : Int) f c = false := by
            unfold fnN
            rw [c3, Int.toNat_natCast, decide_eq_false (fun w => w.elim (by omega) y), Bool.and_false]
          rw [if_neg (by rw [le32_iff] <;> omega)] at e
          exact ih (c + 1) V _ N (by omega) (by omega) c5 (skip fn) hV e
    · rw [r1, pbI_rI, if_pos (by decide)] at e
      have V1 := g.2.1
      refine ⟨V, MN_cg (fun c' => ⟨fun p => ⟨by have := p.1; omega, p.2⟩, fun p => ⟨?_, p.2⟩⟩) g, ?_⟩
      · by_cases z : V = 1000000
        · rw [if_neg (fun w => w (by rw [z]))] at e
          rw [if_pos z]; exact (rI_inj e).1.symm
        · rw [if_pos (by rw [eq32_iff] <;> omega)] at e
          obtain ⟨_, -, e⟩ := pbN_inv e
          rw [if_neg z]; exact (rI_inj e).1.symm
      · rcases Nat.lt_or_ge c' a with u | u
        · exact u
        · have h0 := p.2
          unfold fnN at h0
          rw [nf c' u p.1] at h0; cases h0
theorem nr_both (W : WF G) (X : XH M G) (C : CL M G) (hM : gM gAll N) (Y : MH N G) (h38 : N 60 38 = 0) {b f : Int} (hb : b = -1 ∨ (0 ≤ b ∧ b < hR G)) (hf : 0 ≤ f ∧ f ≤ 99) (e1 : (pbI (xF (998 + 1) 92 [.inr 9] M) fun v2 M1 => if eq32 v2 0 then (pbI (xF (998 + 1) 59 [.inr 2, .inl b, .inl f] M1) fun v4 M3 => some (some (.inl v4), M3)) else some (some (.inl (-3)), M1)) = rI v M1) (e2 : xF (998 + 1) 237 [.inr 62, .inl b, .inl f] N = rI y M2) : v = y := by
  obtain ⟨qx1, qx2⟩ := x_tooMany (d := 998 + 1) (by omega) W X C
  obtain ⟨N1, g2, fN, p1, p2⟩ := m_tooMG (d := 998) (by omega) hM W Y h38
  rw [T_M_nearest] at e2
  rcases Classical.em (tmG G) with q | q
  · rw [qx1 q, pbI_rI, if_neg (by decide)] at e1
    rw [p1 q, pbI_rI, if_neg (by decide)] at e2
    rw [← (rI_inj e1).1, ← (rI_inj e2).1]
  · have hW : hR G ^ nC G ≤ 20000 := by unfold tmG at q; omega
    obtain ⟨p3, p4⟩ := p2 q
    rw [qx2 q, pbI_rI, if_pos (by decide)] at e1
    obtain ⟨v4, M3, z1, z2⟩ := pbI_inv e1
    have a := x_nearest (d := 998 + 1) (by omega) W q X C hb hf z1
    obtain ⟨V, gb, eb⟩ := m_nr9 (D := 998) (by omega) W hW hb hf (hR G ^ nC G + 1) 0 1000000 _ _ (by omega) (Nat.zero_le _) p4 ⟨fun c p => absurd p.1 (Nat.not_lt_zero c), Int.le_refl _, Or.inl rfl⟩ (by omega) (by
      rw [p3, pbI_rI, if_pos (by decide), T_M_beginRows, pbN_rV] at e2
      exact e2)
    rw [← (rI_inj z2).1, a, eb]
    exact nr_end W gb
theorem kc_near (R : RI0 M) (C : CI M) (K : CK M) (R1 : RI0 M1) (e1 : xF 1000 24 [.inr 2] M = rI v M1) (f1 : Fr w1 M M1) (k1 : okW cm cmo w1 = true) (e2 : xF 1000 238 [.inr 62] M1 = rI y M2) : v = y := by
  obtain ⟨G, X, Y⟩ := C
  obtain ⟨W, -⟩ := ci_facts R X Y
  have C := CK_G K X.1
  have t1 : xF (998 + 1 + 1) 24 [.inr 2] M = rI v M1 := e1
  have t2 : xF (998 + 1 + 1) 238 [.inr 62] M1 = rI y M2 := e2
  have Y1 := MG_thr (MG_Fr f1 k1 Y)
  have gT := gM_thr R1.1
  rw [T_X_near] at t1
  rw [T_M_near] at t2
  obtain ⟨v2, M3, z1, z2⟩ := pbI_inv t2
  rw [← (rI_inj z2).1]
  exact nr_both W X.1 C gT Y1.1 (by rw [pset_ne2 (by decide)]; exact R1.2.1) (Or.inl rfl) (by omega) t1 z1
theorem kc_guest (R : RI0 M) (C : CI M) (K : CK M) (R1 : RI0 M1) {a1 a2 : Int} (h1 : -2147483648 ≤ a1 ∧ a1 ≤ 2147483647) (h2 : -2147483648 ≤ a2 ∧ a2 ≤ 2147483647) (e1 : xF 1000 25 [.inr 2, .inl a1, .inl a2] M = rI v M1) (f1 : Fr w1 M M1) (k1 : okW cm cmo w1 = true) (e2 : xF 1000 239 [.inr 62, .inl a1, .inl a2] M1 = rI y M2) : v = y := by
  obtain ⟨G, X, Y⟩ := C
  obtain ⟨W, -⟩ := ci_facts R X Y
  have hw1 := W.1
  have C := CK_G K X.1
  have t1 : xF (998 + 1 + 1) 25 [.inr 2, .inl a1, .inl a2] M = rI v M1 := e1
  have t2 : xF (998 + 1 + 1) 239 [.inr 62, .inl a1, .inl a2] M1 = rI y M2 := e2
  have Y1 := MG_thr (MG_Fr f1 k1 Y)
  have gT := gM_thr R1.1
  rw [T_X_guest, c_isRoom7 (by omega) W X.1 (by omega) (by omega), pbI_rI, ite01p] at t1
  rw [T_M_guest, m_isRoom (by omega) Y1.1.1 hw1 (by omega) (by omega), pbI_rI, ite01p] at t2
  by_cases q1 : 0 ≤ a1 ∧ a1 < (hR G : Int)
  · rw [if_pos q1] at t1 t2
    rw [m_in (by omega), pbI_rI] at t2
    by_cases q2 : 0 ≤ a2 ∧ a2 ≤ 99
    · have hin : ¬ (lt32 a2 0 ∨ lt32 99 a2) := fun w => by
        rcases w with w | w
        · rw [lt32_iff] at w <;> omega
        · rw [lt32_iff] at w <;> omega
      rw [if_neg (by rw [lt32_iff] <;> omega), if_pos (by rw [le32_iff] <;> omega)] at t1
      rw [if_neg hin, if_neg (by decide)] at t2
      obtain ⟨v2, M3, z1, z2⟩ := pbI_inv t2
      rw [← (rI_inj z2).1]
      exact nr_both W X.1 C gT Y1.1 (by rw [pset_ne2 (by decide)]; exact R1.2.1) (Or.inr q1) q2 t1 z1
    · have hin : lt32 a2 0 ∨ lt32 99 a2 := by
        by_cases z : a2 < 0
        · exact Or.inl (by rw [lt32_iff] <;> omega)
        · exact Or.inr (by rw [lt32_iff] <;> omega)
      have y0 : y = -1 := by
        rw [if_pos hin, if_pos (by decide)] at t2
        exact (rI_inj t2).1.symm
      by_cases q3 : a2 < 0
      · rw [if_pos (by rw [lt32_iff] <;> omega)] at t1
        rw [y0, ← (rI_inj t1).1]
      · rw [if_neg (by rw [lt32_iff] <;> omega), if_neg (by rw [le32_iff] <;> omega)] at t1
        rw [y0, ← (rI_inj t1).1]
  · rw [if_neg q1] at t1 t2
    rw [← (rI_inj t1).1, ← (rI_inj t2).1]
end NEA
/-! is there an arrangement at all: of some clumps, with other sizes -/
section EXA
variable {D d R n : Nat} {M M' M1 M2 G h N : pM} {w1 : List (Nat × Nat)} {v y : Int} {sz bk : Nat → Int} {q : Nat → Nat}
/-- the parts can be put -/
def EX (R n : Nat) (sz bk : Nat → Int) : Prop := ∃ q : Nat → Nat, (∀ j, j < n → q j < R) ∧ ∀ r, r < R → wlq bk q r n ≤ sz r
theorem ex_code (h1 : 1 ≤ R) (hq : ∀ j, j < n → q j < R) : ∃ c, c < R ^ n ∧ ∀ j, j < n → dg R n c j = q j := by
  have cl := pcd_lt h1 n hq
  exact ⟨pcd R q n, by omega, dg_of (c := pcd R q n) h1 n (Nat.le_refl n) hq (by rw [Nat.sub_self, Nat.pow_zero, Nat.div_one])⟩
theorem EX_iff (h1 : 1 ≤ R ∨ n = 0) : EX R n sz bk ↔ ∃ c, c < R ^ n ∧ fnW R n sz bk c = true := by
  constructor
  · intro ⟨q, q1, q2⟩
    rcases h1 with h1 | h1
    · obtain ⟨c, c1, c2⟩ := ex_code h1 q1
      refine ⟨c, c1, fnW_iff.mpr fun r hr => ?_⟩
      rw [wlq_cg n c2]; exact q2 r hr
    · subst h1
      exact ⟨0, by rw [Nat.pow_zero]; exact Nat.zero_lt_one, fnW_iff.mpr fun r hr => q2 r hr⟩
  · intro ⟨c, c1, c2⟩
    refine ⟨dg R n c, fun j hj => ?_, fnW_iff.mp c2⟩
    rcases h1 with h1 | h1
    · exact dg_lt h1 j
    · omega
theorem x_nextE (hd : 3 ≤ d) (K : WK M R n sz bk) (B : WB0 R n sz bk) (F : WF0 M R n) : ∃ M', (EX R n sz bk → xF d 163 [.inr 34] M = rI 1 M') ∧ (¬ EX R n sz bk → xF d 163 [.inr 34] M = rI 0 M') ∧ ∀ o i, o < 32 → M' o i = M o i := by
  obtain ⟨M', f, r⟩ := x_next0 hd K B F
  refine ⟨M', fun e => ?_, fun e => ?_, fun o i ho => f o i (by omega) (by omega) (by omega)⟩
  · rcases r with ⟨r1, -⟩ | ⟨r1, nf⟩
    · exact r1
    · obtain ⟨c, c1, c2⟩ := (EX_iff B.1).mp e
      have := nf c (Nat.zero_le c) c1
      rw [c2] at this; cases this
  · rcases r with ⟨r1, c, c1, c2, c3, c4⟩ | ⟨r1, nf⟩
    · exact absurd ((EX_iff B.1).mpr ⟨c, c4.2.2.1, c2⟩) e
    · exact r1
/-- some clumps can be put -/
def EG (G : pM) (some : Nat) (sz : Nat → Int) : Prop := ∃ p : Nat → Nat, (∀ i, i < nC G → some.testBit i = true → p i < hR G) ∧ ∀ r, r < hR G → sumTo (fun i => if some.testBit i = true ∧ p i = r then blk G (cOf G i) else 0) (nC G) ≤ sz r
theorem ex_mono {c : Nat → Bool} {i : Nat} : ∀ m, cntTo c i ≤ cntTo c (i + m)
  | 0 => Nat.le_refl _
  | m + 1 => by
    have ih := ex_mono (c := c) (i := i) m
    have e : cntTo c (i + (m + 1)) = if c (i + m) then cntTo c (i + m) + 1 else cntTo c (i + m) := rfl
    rw [e]
    split <;> omega
theorem ex_cnt {c : Nat → Bool} {i n : Nat} (hi : i < n) (hc : c i = true) : cntTo c i < cntTo c n := by
  have e := cnt_succ (c := c) (k := i)
  rw [hc, if_pos rfl] at e
  have m := ex_mono (c := c) (i := i + 1) (n - (i + 1))
  rw [show i + 1 + (n - (i + 1)) = n by omega] at m
  omega
theorem bkL_sum (q : Nat → Nat) (r some : Nat) : ∀ k, wlq (bkL h some k) q r (cntTo some.testBit k) = sumTo (fun i => if some.testBit i = true ∧ q (cntTo some.testBit i) = r then blk h (cOf h i) else 0) k
  | 0 => rfl
  | k + 1 => by
    have ih := bkL_sum q r some k
    have cs := cnt_succ (c := some.testBit) (k := k)
    have st : sumTo (fun i => if some.testBit i = true ∧ q (cntTo some.testBit i) = r then blk h (cOf h i) else 0) (k + 1) = sumTo (fun i => if some.testBit i = true ∧ q (cntTo some.testBit i) = r then blk h (cOf h i) else 0) k + if some.testBit k = true ∧ q (cntTo some.testBit k) = r then blk h (cOf h k) else 0 := rfl
    have be : ∀ i, bkL h some (k + 1) i = if some.testBit k = true ∧ i = cntTo some.testBit k then blk h (cOf h k) else bkL h some k i := fun _ => rfl
    have lo : wlq (bkL h some (k + 1)) q r (cntTo some.testBit k) = wlq (bkL h some k) q r (cntTo some.testBit k) := sumTo_congr fun i hi => by
      have bi : bkL h some (k + 1) i = bkL h some k i := by
        rw [be i, if_neg (fun z => absurd z.2 (Nat.ne_of_lt hi))]
      by_cases z : q i = r
      · rw [if_pos z, if_pos z]; exact bi
      · rw [if_neg z, if_neg z]
    rw [st, ← ih, ← lo]
    by_cases b : some.testBit k = true
    · rw [b, if_pos rfl] at cs
      have bk : bkL h some (k + 1) (cntTo some.testBit k) = blk h (cOf h k) := by
        rw [be (cntTo some.testBit k), if_pos ⟨b, rfl⟩]
      rw [cs, wlq_succ, bk]
      by_cases z : q (cntTo some.testBit k) = r
      · rw [if_pos z, if_pos ⟨b, z⟩]
      · rw [if_neg z, if_neg (fun w => z w.2)]
    · rw [if_neg b] at cs
      rw [cs, if_neg (fun z => b z.1), Int.add_zero]
def qL (p : Nat → Nat) (some : Nat) : Nat → Nat → Nat
  | 0, _ => 0
  | k + 1, j => if some.testBit k = true ∧ j = cntTo some.testBit k then p k else qL p some k j
theorem qL_at (p : Nat → Nat) (some : Nat) : ∀ k i, i < k → some.testBit i = true → qL p some k (cntTo some.testBit i) = p i
  | 0, i, hi, _ => absurd hi (Nat.not_lt_zero i)
  | k + 1, i, hi, hb => by
    have e : qL p some (k + 1) (cntTo some.testBit i) = if some.testBit k = true ∧ cntTo some.testBit i = cntTo some.testBit k then p k else qL p some k (cntTo some.testBit i) := rfl
    rcases Nat.lt_or_ge i k with u | u
    · have := ex_cnt (c := some.testBit) u hb
      rw [e, if_neg (fun z => by have := z.2; omega)]
      exact qL_at p some k i u hb
    · have ik : i = k := by omega
      rw [e, ik, if_pos ⟨by rw [← ik]; exact hb, rfl⟩]
theorem qL_lt {p : Nat → Nat} {some R : Nat} : ∀ k, (∀ i, i < k → some.testBit i = true → p i < R) → ∀ j, j < cntTo some.testBit k → qL p some k j < R
  | 0, _, j, hj => absurd hj (Nat.not_lt_zero j)
  | k + 1, hp, j, hj => by
    have e : qL p some (k + 1) j = if some.testBit k = true ∧ j = cntTo some.testBit k then p k else qL p some k j := rfl
    have cs := cnt_succ (c := some.testBit) (k := k)
    rw [e]
    by_cases z : some.testBit k = true ∧ j = cntTo some.testBit k
    · rw [if_pos z]; exact hp k (Nat.lt_succ_self k) z.1
    · rw [if_neg z]
      refine qL_lt k (fun i hi hb => hp i (by omega) hb) j ?_
      by_cases b : some.testBit k = true
      · rw [if_pos b] at cs
        have : j ≠ cntTo some.testBit k := fun w => z ⟨b, w⟩
        omega
      · rw [if_neg b] at cs
        omega
theorem EX_EG (some : Nat) : EX (hR G) (cntTo some.testBit (nC G)) sz (bkL G some (nC G)) ↔ EG G some sz := by
  constructor
  · intro ⟨q, q1, q2⟩
    refine ⟨fun i => q (cntTo some.testBit i), fun i hi hb => q1 _ (ex_cnt hi hb), fun r hr => ?_⟩
    have := q2 r hr
    rw [bkL_sum] at this
    exact this
  · intro ⟨p, p1, p2⟩
    refine ⟨qL p some (nC G), qL_lt (nC G) p1, fun r hr => ?_⟩
    have e : sumTo (fun i => if some.testBit i = true ∧ qL p some (nC G) (cntTo some.testBit i) = r then blk G (cOf G i) else 0) (nC G) = sumTo (fun i => if some.testBit i = true ∧ p i = r then blk G (cOf G i) else 0) (nC G) := sumTo_congr fun i hi => by
      by_cases b : some.testBit i = true
      · rw [qL_at p some (nC G) i hi b]
      · rw [if_neg (fun w => b w.1), if_neg (fun w => b w.1)]
    rw [bkL_sum, e]
    exact p2 r hr
theorem WB_S (W : WF G) (q : ¬ tmG G) (some : Nat) (hs : ∀ r, r < hR G → -10000 ≤ sz r ∧ sz r ≤ 10000) : WB0 (hR G) (cntTo some.testBit (nC G)) sz (bkL G some (nC G)) := by
  obtain ⟨b1, b2, b3, -, -, b6⟩ := WB_G W q
  have cl := cntTo_le (c := some.testBit) (nC G)
  refine ⟨by omega, b2, by omega, hs, fun j _ => bkL_range W _ j _, ?_⟩
  rcases b1 with b1 | b1
  · exact Nat.le_trans (Nat.pow_le_pow_right b1 cl) b6
  · have e : cntTo some.testBit (nC G) = 0 := by omega
    rw [e, Nat.pow_zero]; decide
theorem x_startL (hd : 4 ≤ d) (W : WF G) (X : XH M G) (C : CL M G) {some : Nat} (hs : some < 1024) {b : Nat} (hb : b < hR G) {x : Int} (hx : -5000 ≤ x ∧ x ≤ 5000) : ∃ M3 M4, xF d 160 [.inr 34, .inr 9, .inl (some : Int)] M = rV M3 ∧ xF d 161 [.inr 34, .inl (b : Int), .inl x] M3 = rV M4 ∧ WK M4 (hR G) (cntTo some.testBit (nC G)) (szB G b (-x)) (bkL G some (nC G)) ∧ WF0 M4 (hR G) (cntTo some.testBit (nC G)) ∧ ∀ o i, o < 32 → M4 o i = M o i := by
  have w1 := W.1
  obtain ⟨N1, s1, s2, s3, s4, s5⟩ := x_start hd W X C (some := some) (by omega)
  obtain ⟨D, rfl, -⟩ := dsucc (show 1 ≤ d by omega)
  have sb := W.2.2.2.1 b hb
  have k33 : N1 33 b = G 1 b := s2.2.2.1 b hb
  refine ⟨N1, pset N1 33 b (G 1 b - x), s1, ?_, ?_, ?_, fun o i ho => by rw [pset_ne (by omega), s5 o i (by omega)]⟩
  · rw [T_Walk_lessen, s2.1, if_neg (by rw [lt32_iff] <;> omega), if_neg (by rw [le32_iff] <;> omega), if_pos (by omega), if_pos (by omega), Int.toNat_natCast, k33]
  · obtain ⟨k1, k2, k3, k4⟩ := s2
    refine ⟨by rw [pset_ne (by decide)]; exact k1, by rw [pset_ne (by decide)]; exact k2, fun r hr => ?_, fun j hj => by rw [pset_ne (by decide)]; exact k4 j hj⟩
    unfold szB
    by_cases z : r = b
    · rw [z, pset_eq, if_pos rfl]; omega
    · rw [pset_ne2 z, if_neg z]; exact k3 r hr
  · obtain ⟨k1, k2, k3, k4⟩ := s3
    exact ⟨by rw [pset_ne (by decide)]; exact k1, by rw [pset_ne (by decide)]; exact k2, fun j hj => by rw [pset_ne (by decide)]; exact k3 j hj, fun r hr => by rw [pset_ne (by decide)]; exact k4 r hr⟩
noncomputable def exB (P : Prop) : Bool := @decide P (Classical.propDecidable P)
theorem exB_iff {P : Prop} : exB P = true ↔ P := by
  unfold exB
  exact ⟨fun h => @of_decide_eq_true P (Classical.propDecidable P) h, fun h => @decide_eq_true P (Classical.propDecidable P) h⟩
end EXA
/-! could: what it answers, on both sides -/
section COU
variable {D d R n : Nat} {M M' M1 M2 G h N : pM} {w1 : List (Nat × Nat)} {v y : Int} {sz bk : Nat → Int}
/-- clumps but those of j can be put, so that room r has x less -/
def cdS (G : pM) (j : Nat) (x : Int) (r : Nat) : Prop := EG G (nan (2 ^ nC G - 1) j) (szB G r (-x))
theorem x_co40 (hD : 3 ≤ D) (W : WF G) (q : ¬ tmG G) {j : Nat} (hj : j < 1024) {x : Int} (hx : 0 ≤ x ∧ x ≤ 2000) (x1 x2 : Int) : ∀ m k (M : pM), k + m = hR G → XH M G → CL M G → xE (D + 1) 27 40 [.inr 2, .inl x1, .inl x2, .inl (j : Int), .inl x, .inl (bitsOf (fun r => exB (cdS G j x r)) k : Nat), .inl (k : Int)] [] M = rI v M' → v = (bitsOf (fun r => exB (cdS G j x r)) (hR G) : Nat)
  | 0, k, M, hk, X, C, e => by
    have w1 := W.1
    rw [L_X_could_40, X.1, if_pos (by rw [le32_iff] <;> omega)] at e
    rw [show hR G = k by omega]
    exact (rI_inj e).1.symm
  | m + 1, k, M, hk, X, C, e => by
    have w1 := W.1
    have n10 := nC_le W
    have hkR : k < hR G := by omega
    have p : 2 ^ nC G ≤ 1024 := pow_le_of n10
    have p1 : 1 ≤ 2 ^ nC G := Nat.one_le_two_pow
    have nl := nan_le (2 ^ nC G - 1) j
    obtain ⟨M3, M4, s1, s2, s3, s4, s5⟩ := x_startL (d := D + 1) (by omega) W X C (some := nan (2 ^ nC G - 1) j) (by omega) hkR (x := x) (by omega)
    have B := WB_S W q (nan (2 ^ nC G - 1) j) (sz := szB G k (-x)) (fun r hr => by
      have := W.2.2.2.1 r hr
      have := W.2.2.2.1 k hkR
      unfold szB
      split <;> omega)
    obtain ⟨M5, n1, n2, n3⟩ := x_nextE (d := D + 1) (by omega) s3 B s4
    have lo : ∀ o i, o < 32 → M5 o i = M o i := fun o i ho => by rw [n3 o i ho, s5 o i ho]
    have b : bitsOf (fun r => exB (cdS G j x r)) (k + 1) = if exB (cdS G j x k) then bitsOf (fun r => exB (cdS G j x r)) k ||| 2 ^ k else bitsOf (fun r => exB (cdS G j x r)) k := rfl
    have ih := x_co40 hD W q hj hx x1 x2 m (k + 1) M5 (by omega) (XH_hi lo X) (CL_hi lo C)
    rw [L_X_could_40, X.1, if_neg (by rw [le32_iff] <;> omega), T_House_allClumps, C.1, pbI_rI, jshl_one (nC G) (by omega), show (((2 ^ nC G : Nat) : Int) - 1) = ((2 ^ nC G - 1 : Nat) : Int) by omega, jxor_m1 (by omega), jand_not (by omega) (by omega), s1, pbN_rV, s2, pbN_rV, show ((k : Int) + 1) = ((k + 1 : Nat) : Int) by omega] at e
    by_cases z : cdS G j x k
    · rw [n1 ((EX_EG _).mpr z), pbI_rI, if_neg (by decide), jor_shl (bitsOf_lt _ _) (by omega)] at e
      rw [exB_iff.mpr z, if_pos rfl] at b
      rw [b] at ih
      exact ih e
    · rw [n2 (fun w => z ((EX_EG _).mp w)), pbI_rI, if_pos (by decide)] at e
      rw [if_neg (fun w => z (exB_iff.mp w))] at b
      rw [b] at ih
      exact ih e
/-- an arrangement leaves b in room r, and has all of w there -/
def coB (G : pM) (b : Int) (w r c : Nat) : Bool := decide (b ≤ frG G r c) && allTo (fun t => !(w.testBit t) || decide (plG G c t = r)) (hT G)
theorem coB_iff {b : Int} {w r c : Nat} : coB G b w r c = true ↔ b ≤ frG G r c ∧ ∀ t, t < hT G → w.testBit t = true → plG G c t = r := by
  unfold coB
  rw [Bool.and_eq_true, allTo_iff]
  constructor
  · intro ⟨a, e⟩
    refine ⟨of_decide_eq_true a, fun t ht hw => ?_⟩
    have := e t ht
    rw [hw] at this
    exact of_decide_eq_true this
  · intro ⟨a, e⟩
    refine ⟨decide_eq_true a, fun t ht => ?_⟩
    cases z : w.testBit t with
    | false => rfl
    | true => exact decide_eq_true (e t ht z)
theorem m_co74 (hD : 1 ≤ D) (W : WF G) {c r w B : Nat} (hw : w < 1024) (hr : r < hR G) (hB : B < 64) (h78 : ∀ t, t < hT G → M 78 t = (plG G c t : Int)) (h3 : M 60 3 = (hT G : Int)) (x1 x2 : Int) (tg : Bool) : ∀ m k (x6 : Int), k + m = hT G → ((x6 = 1 ∧ (tg = true ↔ ∀ t, k ≤ t → t < hT G → w.testBit t = true → plG G c t = r)) ∨ (x6 = 0 ∧ tg = false)) → ∃ (z6 z7 : Int), xE D 241 74 [.inr 62, .inl x1, .inl x2, .inl (w : Int), .inl (B : Int), .inl (r : Int), .inl x6, .inl (k : Int)] [] M = xE D 241 57 [.inr 62, .inl x1, .inl x2, .inl (w : Int), .inl ((if tg then B ||| 2 ^ r else B : Nat) : Int), .inl ((r + 1 : Nat) : Int), .inl z6, .inl z7] [] M := by
  have w1 := W.1
  have w2 := W.2.1
  have jz : jor (B : Int) 0 = (B : Int) := by
    have := jor_nat (a := B) (b := 0) (by omega) (by decide)
    rw [Nat.or_zero] at this; exact this
  have j1 : jor (B : Int) (jshl 1 (r : Int)) = ((B ||| 2 ^ r : Nat) : Int) := jor_one hB (by omega)
  have r1 : ((r : Int) + 1) = ((r + 1 : Nat) : Int) := by omega
  intro m
  induction m with
  | zero =>
    intro k x6 hk s
    rw [L_M_could_74, h3, if_pos (by rw [le32_iff] <;> omega)]
    rcases s with ⟨rfl, s⟩ | ⟨rfl, rfl⟩
    · rw [if_neg (by decide), j1, r1, s.mpr (fun t h1 h2 => by omega)]
      exact ⟨_, _, rfl⟩
    · rw [if_pos (by decide), jz, r1]
      exact ⟨_, _, rfl⟩
  | succ m ih =>
    intro k x6 hk s
    rw [L_M_could_74, h3, if_neg (by rw [le32_iff] <;> omega)]
    rcases s with ⟨rfl, s⟩ | ⟨rfl, rfl⟩
    · rw [if_neg (by decide), m_has hD (by omega) (by omega), pbI_rI, ite01, show ((k : Int) + 1) = ((k + 1 : Nat) : Int) by omega]
      cases b : w.testBit k with
      | false =>
        rw [if_neg (by decide)]
        refine ih (k + 1) 1 (by omega) (Or.inl ⟨rfl, s.trans ⟨fun z t h1 h2 => z t (by omega) h2, fun z t h1 h2 h3 => ?_⟩⟩)
        rcases Nat.lt_or_ge k t with u | u
        · exact z t u h2 h3
        · rw [show t = k by omega, b] at h3; cases h3
      | true =>
        have pl : 1 ≤ hR G := by omega
        have dl := dg_lt (R := hR G) (C := nC G) (code := c) pl (oOf G k)
        have e78 := h78 k (by omega)
        unfold plG at e78
        rw [if_pos rfl, if_pos (by omega), Int.toNat_natCast, e78]
        by_cases z : dg (hR G) (nC G) c (oOf G k) = r
        · rw [if_neg (fun w => w (by rw [z]))]
          refine ih (k + 1) 1 (by omega) (Or.inl ⟨rfl, s.trans ⟨fun y t h1 h2 => y t (by omega) h2, fun y t h1 h2 h3 => ?_⟩⟩)
          rcases Nat.lt_or_ge k t with u | u
          · exact y t u h2 h3
          · rw [show t = k by omega]; exact z
        · rw [if_pos (by rw [eq32_iff] <;> omega)]
          refine ih (k + 1) 0 (by omega) (Or.inr ⟨rfl, ?_⟩)
          cases y : tg with
          | false => rfl
          | true => exact absurd (s.mp y k (Nat.le_refl k) (by omega) b) z
    · rw [if_pos (by decide), if_pos (by decide), jz, r1]
      exact ⟨_, _, rfl⟩
theorem BB_step {f g : Nat → Bool} {R k : Nat} (hk : k < R) : (if g k then bitsOf (fun r => f r || (decide (r < k) && g r)) R ||| 2 ^ k else bitsOf (fun r => f r || (decide (r < k) && g r)) R) = bitsOf (fun r => f r || (decide (r < k + 1) && g r)) R := by
  apply Nat.eq_of_testBit_eq
  intro i
  by_cases z : i = k
  · subst z
    cases b : g i with
    | true =>
      rw [if_pos rfl, Nat.testBit_or, Nat.testBit_two_pow_self, Bool.or_true, bitsOf_bit, decide_eq_true hk, b, decide_eq_true (Nat.lt_succ_self i), Bool.true_and, Bool.true_and, Bool.or_true]
    | false =>
      rw [if_neg (by decide), bitsOf_bit, bitsOf_bit, b, Bool.and_false, Bool.and_false]
  · have e : decide (i < k + 1) = decide (i < k) := by
      by_cases y : i < k
      · rw [decide_eq_true y, decide_eq_true (show i < k + 1 by omega)]
      · rw [decide_eq_false y, decide_eq_false (show ¬ i < k + 1 by omega)]
    split
    · rw [Nat.testBit_or, Nat.testBit_two_pow_of_ne (fun q => z q.symm), Bool.or_false, bitsOf_bit, bitsOf_bit, e]
    · rw [bitsOf_bit, bitsOf_bit, e]
/-- what is gathered of the codes below a, and of code c in the rooms below k -/
def coU (G : pM) (b : Int) (w a c k : Nat) : Nat := bitsOf (fun r => decide (0 < cntTo (fun c => fnG G c && coB G b w r c) a) || (decide (r < k) && coB G b w r c)) (hR G)
theorem coU_lt (W : WF G) (b : Int) (w a c k : Nat) : coU G b w a c k < 64 := Nat.lt_of_lt_of_le (bitsOf_lt _ _) (show 2 ^ hR G ≤ 2 ^ 6 from Nat.pow_le_pow_right (by decide) W.1)
theorem m_co57 (hD : 1 ≤ D) (W : WF G) {a c w : Nat} {b : Int} (hb : 1 ≤ b ∧ b ≤ 99) (hf : fnG G c = true) (hw : w < 1024) (S : SR M G (c + 1)) (h78 : ∀ t, t < hT G → M 78 t = (plG G c t : Int)) (x2 : Int) : ∀ m k (y6 y7 : pV), k + m = hR G → ∃ (z5 z6 z7 : pV), xE D 241 57 [.inr 62, .inl b, .inl x2, .inl (w : Int), .inl (coU G b w a c k : Nat), .inl (k : Int), y6, y7] [] M = xE D 241 52 [.inr 62, .inl b, .inl x2, .inl (w : Int), .inl (coU G b w a c (hR G) : Nat), z5, z6, z7] [] M
  | 0, k, y6, y7, hk => by
    have w1 := W.1
    rw [L_M_could_57, S.2.1.1, if_pos (by rw [le32_iff] <;> omega), show k = hR G by omega]
    exact ⟨_, _, _, rfl⟩
  | m + 1, k, y6, y7, hk => by
    have w1 := W.1
    have hkR : k < hR G := by omega
    have fr := frG_range W hkR hf
    have st : (if coB G b w k c then coU G b w a c k ||| 2 ^ k else coU G b w a c k) = coU G b w a c (k + 1) := BB_step (f := fun r => decide (0 < cntTo (fun c => fnG G c && coB G b w r c) a)) (g := fun r => coB G b w r c) hkR
    rw [L_M_could_57, S.2.1.1, if_neg (by rw [le32_iff] <;> omega), m_freeG hD W S h78 hkR, pbI_rI, show G 1 k - ldG G k c = frG G k c from rfl, show (.inl 0 : pV) = .inl ((0 : Nat) : Int) from rfl]
    have go : ∀ x6 : Int, ((x6 = 1 ∧ (coB G b w k c = true ↔ ∀ t, 0 ≤ t → t < hT G → w.testBit t = true → plG G c t = k)) ∨ (x6 = 0 ∧ coB G b w k c = false)) → ∃ (z5 z6 z7 : pV), xE D 241 74 [.inr 62, .inl b, .inl x2, .inl (w : Int), .inl (coU G b w a c k : Nat), .inl (k : Int), .inl x6, .inl ((0 : Nat) : Int)] [] M = xE D 241 52 [.inr 62, .inl b, .inl x2, .inl (w : Int), .inl (coU G b w a c (hR G) : Nat), z5, z6, z7] [] M := fun x6 h => by
      obtain ⟨z6, z7, e⟩ := m_co74 hD W hw hkR (coU_lt W b w a c k) h78 S.2.1.2.1 b x2 (coB G b w k c) (hT G) 0 x6 (by omega) h
      obtain ⟨u5, u6, u7, e2⟩ := m_co57 (a := a) hD W hb hf hw S h78 x2 m (k + 1) (.inl z6) (.inl z7) (by omega)
      rw [st] at e
      exact ⟨u5, u6, u7, e.trans e2⟩
    by_cases z : frG G k c < b
    · rw [if_pos (by rw [lt32_iff] <;> omega)]
      exact go 0 (Or.inr ⟨rfl, by
        cases y : coB G b w k c with
        | false => rfl
        | true =>
          have := (coB_iff.mp y).1
          omega⟩)
    · rw [if_neg (by rw [lt32_iff] <;> omega)]
      exact go 1 (Or.inl ⟨rfl, coB_iff.trans ⟨fun y t _ h1 h2 => y.2 t h1 h2, fun y => ⟨by omega, fun t h1 h2 => y t (Nat.zero_le t) h1 h2⟩⟩⟩)
theorem coU_0 (b : Int) (w a c : Nat) : coU G b w a c 0 = bitsOf (fun r => decide (0 < cntTo (fun c => fnG G c && coB G b w r c) a)) (hR G) := bitsOf_congr fun r _ => by
  rw [decide_eq_false (Nat.not_lt_zero r), Bool.false_and, Bool.or_false]
theorem coU_R {a c : Nat} (b : Int) (w : Nat) (hac : a ≤ c) (nf : ∀ c', a ≤ c' → c' < c → fnG G c' = false) (hf : fnG G c = true) : coU G b w a c (hR G) = bitsOf (fun r => decide (0 < cntTo (fun c => fnG G c && coB G b w r c) (c + 1))) (hR G) := bitsOf_congr fun r hr => by
  rw [decide_eq_true hr, Bool.true_and, cnt_next (g := coB G b w r) hac nf hf]
  cases z : coB G b w r c with
  | false => rw [if_neg (by decide), Bool.or_false]
  | true => rw [if_pos rfl, Bool.or_true, decide_eq_true (Nat.succ_pos _)]
theorem m_co52 (hD : 3 ≤ D) (W : WF G) (hW : hR G ^ nC G ≤ 20000) {w : Nat} {b : Int} (hb : 1 ≤ b ∧ b ≤ 99) (hw : w < 1024) (x2 : Int) : ∀ m a (y5 y6 y7 : pV) (M : pM), hR G ^ nC G - a + 1 ≤ m → a ≤ hR G ^ nC G → SR M G a → xE D 241 52 [.inr 62, .inl b, .inl x2, .inl (w : Int), .inl (bitsOf (fun r => decide (0 < cntTo (fun c => fnG G c && coB G b w r c) a)) (hR G) : Nat), y5, y6, y7] [] M = rI y M2 → y = (bitsOf (fun r => decide (0 < cntTo (fun c => fnG G c && coB G b w r c) (hR G ^ nC G))) (hR G) : Nat) := by
  intro m
  induction m with
  | zero => intro a y5 y6 y7 M hm; omega
  | succ m ih =>
    intro a y5 y6 y7 M hm ha S e
    obtain ⟨N, n1, g1, r⟩ := m_nextG (d := D) (by omega) W hW ha S
    rw [L_M_could_52] at e
    rcases r with ⟨r1, c, c1, c2, c3, c4, c5, c6⟩ | ⟨r1, nf⟩
    · obtain ⟨z5, z6, z7, e2⟩ := m_co57 (D := D) (a := a) (by omega) W hb c3 hw c5 c6 x2 (hR G) 0 y6 y7 (by omega)
      rw [r1, pbI_rI, if_neg (by decide), ← coU_0 b w a c, show (.inl 0 : pV) = .inl ((0 : Nat) : Int) from rfl, e2, coU_R b w c1 c4 c3] at e
      exact ih (c + 1) z5 z6 z7 N (by omega) (by omega) c5 e
    · rw [r1, pbI_rI, if_pos (by decide)] at e
      rw [← (rI_inj e).1]
      congr 1
      exact bitsOf_congr fun r _ => by rw [cnt_end (g := coB G b w r) ha nf]
/-- the things of some sets -/
def wiS (G : pM) (told : Nat) : Nat := orTo told.testBit (me G) (hS G)
theorem orTo_bit {c : Nat → Bool} {f : Nat → Nat} {t : Nat} : ∀ n, (orTo c f n).testBit t = true ↔ ∃ i, i < n ∧ c i = true ∧ (f i).testBit t = true
  | 0 => by
    rw [show orTo c f 0 = 0 from rfl, Nat.zero_testBit]
    exact ⟨fun h => Bool.noConfusion h, fun ⟨i, hi, _⟩ => absurd hi (Nat.not_lt_zero i)⟩
  | n + 1 => by
    have ih := orTo_bit (c := c) (f := f) (t := t) n
    have e : orTo c f (n + 1) = if c n then orTo c f n ||| f n else orTo c f n := rfl
    rw [e]
    constructor
    · intro h
      by_cases z : c n = true
      · rw [if_pos z, Nat.testBit_or, Bool.or_eq_true] at h
        rcases h with h | h
        · obtain ⟨i, i1, i2⟩ := ih.mp h
          exact ⟨i, by omega, i2⟩
        · exact ⟨n, Nat.lt_succ_self n, z, h⟩
      · rw [if_neg z] at h
        obtain ⟨i, i1, i2⟩ := ih.mp h
        exact ⟨i, by omega, i2⟩
    · intro ⟨i, i1, i2, i3⟩
      rcases Nat.lt_or_ge i n with u | u
      · have := ih.mpr ⟨i, u, i2, i3⟩
        by_cases z : c n = true
        · rw [if_pos z, Nat.testBit_or, this, Bool.true_or]
        · rw [if_neg z]; exact this
      · have ei : i = n := by omega
        rw [ei] at i2 i3
        rw [if_pos i2, Nat.testBit_or, i3, Bool.or_true]
theorem wiL (W : WF G) (told : Nat) : ∀ n, n ≤ hS G → orTo told.testBit (me G) n < 1024
  | 0, _ => (show 0 < 1024 by decide)
  | n + 1, hn => by
    have ih := wiL W told n (by omega)
    have e : orTo told.testBit (me G) (n + 1) = if told.testBit n then orTo told.testBit (me G) n ||| me G n else orTo told.testBit (me G) n := rfl
    rw [e]
    split
    · exact Nat.or_lt_two_pow (n := 10) ih (me_lt W (by omega))
    · exact ih
theorem wiS_lt (W : WF G) (told : Nat) : wiS G told < 1024 := wiL W told _ (Nat.le_refl _)
theorem m_co29 (hD : 1 ≤ D) (W : WF G) (X : MH M G) {told : Nat} (ht : told < 2147483648) (x1 : Int) : ∀ m k, k + m = hS G → xE D 241 29 [.inr 62, .inl x1, .inl (told : Int), .inl (orTo told.testBit (me G) k : Nat), .inl (k : Int), .inr 0, .inr 0, .inr 0] [] M = pbN (xF D 229 [.inr 62] M) fun M1 => xE D 241 52 [.inr 62, .inl x1, .inl (told : Int), .inl (wiS G told : Nat), .inl 0, .inr 0, .inr 0, .inr 0] [] M1
  | 0, k, hk => by
    have w3 := W.2.2.1
    rw [L_M_could_29, X.2.2.1, if_pos (by rw [le32_iff] <;> omega), show k = hS G by omega]
    rfl
  | m + 1, k, hk => by
    have w3 := W.2.2.1
    have ol := wiL W told k (by omega)
    have ml := me_lt W (show k < hS G by omega)
    have e : orTo told.testBit (me G) (k + 1) = if told.testBit k then orTo told.testBit (me G) k ||| me G k else orTo told.testBit (me G) k := rfl
    have ih := m_co29 hD W X ht x1 m (k + 1) (by omega)
    rw [L_M_could_29, X.2.2.1, if_neg (by rw [le32_iff] <;> omega), m_has hD ht (by omega), pbI_rI, ite01, show ((k : Int) + 1) = ((k + 1 : Nat) : Int) by omega]
    cases b : told.testBit k with
    | false =>
      have jz : jor ((orTo told.testBit (me G) k : Nat) : Int) 0 = ((orTo told.testBit (me G) k : Nat) : Int) := by
        have := jor_nat (a := orTo told.testBit (me G) k) (b := 0) (by omega) (by decide)
        rw [Nat.or_zero] at this; exact this
      rw [b, if_neg (by decide)] at e
      rw [if_neg (by decide), jz, ← e]
      exact ih
    | true =>
      rw [b, if_pos rfl] at e
      rw [if_pos rfl, if_pos (by omega), Int.toNat_natCast, X.2.2.2.2.2.2 k (by omega), jor_nat (by omega) (by omega), ← e]
      exact ih
theorem sp_sum {j r r' : Nat} {p p' : Nat → Nat} {f : Nat → Int} (hp : ∀ i, j.testBit i = true → p' i = r) (hq : ∀ i, j.testBit i = false → p' i = p i) : ∀ n, sumTo (fun i => if p' i = r' then f i else 0) n = sumTo (fun i => if j.testBit i = false ∧ p i = r' then f i else 0) n + (if r' = r then sumTo (fun i => if j.testBit i = true then f i else 0) n else 0) := by
  intro n
  by_cases z : r' = r
  · rw [if_pos z, ← sumTo_add]
    refine sumTo_congr fun i _ => ?_
    show (if p' i = r' then f i else 0) = (if j.testBit i = false ∧ p i = r' then f i else 0) + (if j.testBit i = true then f i else 0)
    cases b : j.testBit i with
    | false =>
      rw [hq i b, if_neg (show ¬ (false = true) by decide), Int.add_zero]
      by_cases y : p i = r'
      · rw [if_pos y, if_pos ⟨rfl, y⟩]
      · rw [if_neg y, if_neg (fun w => y w.2)]
    | true =>
      rw [hp i b, if_pos z.symm, if_neg (fun w => by cases w.1), if_pos rfl, Int.zero_add]
  · rw [if_neg z, Int.add_zero]
    refine sumTo_congr fun i _ => ?_
    show (if p' i = r' then f i else 0) = (if j.testBit i = false ∧ p i = r' then f i else 0)
    cases b : j.testBit i with
    | false =>
      rw [hq i b]
      by_cases y : p i = r'
      · rw [if_pos y, if_pos ⟨rfl, y⟩]
      · rw [if_neg y, if_neg (fun w => y w.2)]
    | true =>
      rw [hp i b, if_neg (fun w => z w.symm), if_neg (fun w => by cases w.1)]
theorem tOf_bit (W : WF G) (j : Nat) {t : Nat} (ht : t < hT G) : (tOf G j).testBit t = j.testBit (oOf G t) := by
  have o := (oOf_in W ht).1
  apply Bool.eq_iff_iff.mpr
  unfold tOf
  rw [orTo_bit]
  constructor
  · intro ⟨i, i1, i2, i3⟩
    rw [(oOf_iff W ht i1).mp i3]; exact i2
  · intro h
    exact ⟨oOf G t, o, h, (oOf_iff W ht o).mpr rfl⟩
theorem blk_tOf (W : WF G) (j : Nat) : blk G (tOf G j) = sumTo (fun i => if j.testBit i = true then blk G (cOf G i) else 0) (nC G) := by
  have e1 : blk G (tOf G j) = sumTo (fun t => if (if j.testBit (oOf G t) = true then 1 else 0) = 1 then G 3 t else 0) (hT G) := sumTo_congr fun t ht => by
    rw [tOf_bit W j ht]
    by_cases b : j.testBit (oOf G t) = true
    · rw [if_pos b, if_pos b, if_pos rfl]
    · rw [if_neg b, if_neg b, if_neg (by decide)]
  rw [e1, blk_parts W (fun i => if j.testBit i = true then 1 else 0) 1]
  refine sumTo_congr fun i _ => ?_
  by_cases b : j.testBit i = true
  · exact Eq.trans (if_pos (show (if j.testBit i = true then 1 else 0) = 1 from if_pos b)) (if_pos b).symm
  · exact Eq.trans (if_neg (show ¬ (if j.testBit i = true then 1 else 0) = 1 from fun z => by rw [if_neg b] at z; cases z)) (if_neg b).symm
theorem cIn_bit (W : WF G) (told : Nat) {i : Nat} : (cIn G told).testBit i = true ↔ ∃ t, t < hT G ∧ oOf G t = i ∧ (wiS G told).testBit t = true := by
  have so : ∀ t, t < hT G → (sOf G t &&& told ≠ 0 ↔ (wiS G told).testBit t = true) := fun t ht => by
    unfold wiS
    rw [orTo_bit]
    constructor
    · intro h
      obtain ⟨s, s1, s2⟩ := and_ex h
      unfold sOf at s1
      rw [bitsOf_bit, Bool.and_eq_true] at s1
      exact ⟨s, of_decide_eq_true s1.1, s2, s1.2⟩
    · intro ⟨s, s1, s2, s3⟩ h
      have : (sOf G t).testBit s = true := by
        unfold sOf
        rw [bitsOf_bit, decide_eq_true s1, Bool.true_and]; exact s3
      have := and_no h this
      rw [s2] at this; cases this
  unfold cIn
  rw [orTo_bit]
  constructor
  · intro ⟨t, t1, t2, t3⟩
    rw [if_pos t1, pow_bit] at t3
    exact ⟨t, t1, of_decide_eq_true t3, (so t t1).mp (of_decide_eq_true t2)⟩
  · intro ⟨t, t1, t2, t3⟩
    refine ⟨t, t1, decide_eq_true ((so t t1).mpr t3), ?_⟩
    rw [if_pos t1, pow_bit]
    exact decide_eq_true t2
theorem nan_all {n i j : Nat} (hi : i < n) : (nan (2 ^ n - 1) j).testBit i = true ↔ j.testBit i = false := by
  rw [nan_bit, Nat.testBit_two_pow_sub_one, decide_eq_true hi, Bool.true_and]
  cases j.testBit i
  · exact ⟨fun _ => rfl, fun _ => rfl⟩
  · exact ⟨fun h => Bool.noConfusion h, fun h => Bool.noConfusion h⟩
theorem co_same (W : WF G) {b : Int} (hb : 1 ≤ b) {told r : Nat} (hr : r < hR G) : cdS G (cIn G told) (b + blk G (tOf G (cIn G told))) r ↔ 0 < cntTo (fun c => fnG G c && coB G b (wiS G told) r c) (hR G ^ nC G) := by
  have h1 : 1 ≤ hR G := by omega
  have pos : ∀ (f : Nat → Bool) (n : Nat), 0 < cntTo f n ↔ ∃ c, c < n ∧ f c = true := by
    intro f n
    induction n with
    | zero => exact ⟨fun h => absurd h (Nat.lt_irrefl 0), fun ⟨c, hc, _⟩ => absurd hc (Nat.not_lt_zero c)⟩
    | succ n ih =>
      rw [cnt_succ]
      constructor
      · intro h
        by_cases z : f n = true
        · exact ⟨n, Nat.lt_succ_self n, z⟩
        · rw [if_neg z] at h
          obtain ⟨c, c1, c2⟩ := ih.mp h
          exact ⟨c, by omega, c2⟩
      · intro ⟨c, c1, c2⟩
        by_cases z : f n = true
        · rw [if_pos z]; exact Nat.succ_pos _
        · rw [if_neg z]
          refine ih.mpr ⟨c, ?_, c2⟩
          rcases Nat.lt_or_ge c n with u | u
          · exact u
          · rw [show c = n by omega] at c2; exact absurd c2 z
  rw [pos]
  unfold cdS EG
  have bs := blk_tOf W (cIn G told)
  -- the load of a room, by the clumps that are joined and by the others
  have ld : ∀ (p p' : Nat → Nat) (c r' : Nat), (∀ i, i < nC G → dg (hR G) (nC G) c i = p' i) → (∀ i, (cIn G told).testBit i = true → p' i = r) → (∀ i, (cIn G told).testBit i = false → p' i = p i) → ldG G r' c = sumTo (fun i => if (nan (2 ^ nC G - 1) (cIn G told)).testBit i = true ∧ p i = r' then blk G (cOf G i) else 0) (nC G) + (if r' = r then blk G (tOf G (cIn G told)) else 0) := fun p p' c r' e1 e2 e3 => by
    unfold ldG
    rw [wlq_cg (nC G) e1, bs]
    have := sp_sum (r' := r') (f := fun i => blk G (cOf G i)) e2 e3 (nC G)
    refine this.trans ?_
    congr 1
    refine sumTo_congr fun i hi => ?_
    by_cases z : (cIn G told).testBit i = false
    · have z2 := (nan_all hi).mpr z
      by_cases y : p i = r'
      · rw [if_pos ⟨z, y⟩, if_pos ⟨z2, y⟩]
      · rw [if_neg (fun w => y w.2), if_neg (fun w => y w.2)]
    · rw [if_neg (fun w => z w.1), if_neg (fun w => z ((nan_all hi).mp w.1))]
  constructor
  · intro ⟨p, p1, p2⟩
    obtain ⟨c, c1, c2⟩ := ex_code (R := hR G) (n := nC G) (q := fun i => if (cIn G told).testBit i = true then r else p i) h1 (fun i hi => by
      by_cases z : (cIn G told).testBit i = true
      · rw [if_pos z]; exact hr
      · rw [if_neg z]
        exact p1 i hi ((nan_all hi).mpr (by
          cases y : (cIn G told).testBit i with
          | false => rfl
          | true => exact absurd y z)))
    have l := fun r' => ld p (fun i => if (cIn G told).testBit i = true then r else p i) c r' c2 (fun i z => if_pos z) (fun i z => if_neg (fun w => by rw [z] at w; cases w))
    refine ⟨c, c1, ?_⟩
    rw [Bool.and_eq_true]
    have fits : ∀ r', r' < hR G → ldG G r' c ≤ if r' = r then G 1 r - b else G 1 r' := fun r' hr' => by
      have a := p2 r' hr'
      have e := l r'
      unfold szB at a
      by_cases z : r' = r
      · rw [if_pos z] at a e ⊢; omega
      · rw [if_neg z] at a e ⊢; omega
    refine ⟨fnW_iff.mpr fun r' hr' => ?_, coB_iff.mpr ⟨?_, fun t ht hw => ?_⟩⟩
    · have a := fits r' hr'
      show ldG G r' c ≤ G 1 r'
      by_cases z : r' = r
      · rw [if_pos z] at a; rw [z] at a ⊢; omega
      · rw [if_neg z] at a; exact a
    · have a := fits r hr
      rw [if_pos rfl] at a
      unfold frG
      omega
    · unfold plG
      rw [c2 _ (oOf_in W ht).1, if_pos ((cIn_bit W told).mpr ⟨t, ht, rfl, hw⟩)]
  · intro ⟨c, c1, c2⟩
    rw [Bool.and_eq_true] at c2
    obtain ⟨f, k⟩ := c2
    obtain ⟨k1, k2⟩ := coB_iff.mp k
    have l := fun r' => ld (dg (hR G) (nC G) c) (dg (hR G) (nC G) c) c r' (fun _ _ => rfl) (fun i z => by
      obtain ⟨t, t1, t2, t3⟩ := (cIn_bit W told).mp z
      have := k2 t t1 t3
      unfold plG at this
      rw [t2] at this; exact this) (fun _ _ => rfl)
    refine ⟨dg (hR G) (nC G) c, fun i _ _ => dg_lt h1 i, fun r' hr' => ?_⟩
    have a : ldG G r' c ≤ G 1 r' := fnW_iff.mp f r' hr'
    have e := l r'
    unfold frG at k1
    unfold szB
    by_cases z : r' = r
    · rw [if_pos z] at e ⊢; rw [z] at a e ⊢; omega
    · rw [if_neg z] at e ⊢; omega
theorem kc_could (R : RI0 M) (C : CI M) (K : CK M) (R1 : RI0 M1) {a1 a2 : Int} (h1 : -2147483648 ≤ a1 ∧ a1 ≤ 2147483647) (h2 : -2147483648 ≤ a2 ∧ a2 ≤ 2147483647) (e1 : xF 1000 27 [.inr 2, .inl a1, .inl a2] M = rI v M1) (f1 : Fr w1 M M1) (k1 : okW cm cmo w1 = true) (e2 : xF 1000 241 [.inr 62, .inl a1, .inl a2] M1 = rI y M2) : v = y := by
  obtain ⟨G, X, Y⟩ := C
  obtain ⟨W, -⟩ := ci_facts R X Y
  have hw1 := W.1
  have w3 := W.2.2.1
  have C := CK_G K X.1
  have t1 : xF (998 + 1 + 1) 27 [.inr 2, .inl a1, .inl a2] M = rI v M1 := e1
  have t2 : xF (998 + 1 + 1) 241 [.inr 62, .inl a1, .inl a2] M1 = rI y M2 := e2
  have Y1 := MG_thr (MG_Fr f1 k1 Y)
  have gT := gM_thr R1.1
  have pS : 2 ^ hS G ≤ 256 := pow_le_of (n := 8) w3
  have pS1 : 1 ≤ 2 ^ hS G := Nat.one_le_two_pow
  rw [T_X_could] at t1
  rw [T_M_could, m_in (by omega), pbI_rI] at t2
  by_cases q1 : 1 ≤ a1 ∧ a1 ≤ 99
  · have q1' : ¬ (lt32 a1 1 ∨ lt32 99 a1) := fun z => by
      rcases z with z | z
      · rw [lt32_iff] at z <;> omega
      · rw [lt32_iff] at z <;> omega
    rw [if_neg (by rw [lt32_iff] <;> omega), if_neg (by rw [lt32_iff] <;> omega)] at t1
    rw [if_neg q1', if_neg (by decide), Y1.1.2.2.1, m_in (by omega), pbI_rI, jshl_one (hS G) (by omega), show (((2 ^ hS G : Nat) : Int) - 1) = ((2 ^ hS G - 1 : Nat) : Int) by omega] at t2
    by_cases q2 : a2 < 0
    · rw [if_pos (by rw [lt32_iff] <;> omega)] at t1
      rw [if_pos (Or.inl (by rw [lt32_iff] <;> omega)), if_neg (fun z => z (by decide))] at t2
      rw [← (rI_inj t1).1, ← (rI_inj t2).1]
    · rw [if_neg (by rw [lt32_iff] <;> omega), c_allSets (by omega) W X.1, pbI_rI] at t1
      by_cases q3 : a2 ≤ ((2 ^ hS G - 1 : Nat) : Int)
      · obtain ⟨told, rfl⟩ : ∃ i : Nat, a2 = i := natI (by omega)
        have q3' : ¬ (lt32 (told : Int) 0 ∨ lt32 ((2 ^ hS G - 1 : Nat) : Int) (told : Int)) := fun z => by
          rcases z with z | z
          · rw [lt32_iff] at z <;> omega
          · rw [lt32_iff] at z <;> omega
        rw [if_pos (by rw [le32_iff] <;> omega)] at t1
        rw [if_neg q3', if_pos (by decide)] at t2
        obtain ⟨qx1, qx2⟩ := x_tooMany (d := 998 + 1) (by omega) W X.1 C
        obtain ⟨N, g2, fN, p1, p2⟩ := m_tooMG (d := 998 + 1) (by omega) gT W Y1.1 (by rw [pset_ne2 (by decide)]; exact R1.2.1)
        rcases Classical.em (tmG G) with q | q
        · rw [qx1 q, pbI_rI, if_neg (by decide)] at t1
          rw [p1 q, pbI_rI, if_neg (by decide)] at t2
          rw [← (rI_inj t1).1, ← (rI_inj t2).1]
        · have hW : hR G ^ nC G ≤ 20000 := by unfold tmG at q; omega
          obtain ⟨p3, p4⟩ := p2 q
          have cl : cIn G told < 1024 := by
            unfold cIn
            refine orTo_lt (fun t => ?_) _
            split
            · rename_i ht
              have := (oOf_in W ht).1
              have := nC_le W
              exact pow10 (by omega)
            · decide
          have tl := tOf_lt W (cIn G told)
          have bl := blk_range W (tOf G (cIn G told))
          have a : v = (bitsOf (fun r => exB (cdS G (cIn G told) (a1 + blk G (tOf G (cIn G told))) r)) (hR G) : Nat) := by
            rw [qx2 q, pbI_rI, if_pos (by decide), c_clumpsIn (by omega) W X.1 C (by omega), pbI_rI, c_thingsOf (by omega) W C (by omega), pbI_rI, c_bulkOf (by omega) W X.1 (by omega), pbI_rI] at t1
            exact x_co40 (D := 998) (by omega) W q cl (by omega) _ _ (hR G) 0 M (by omega) X.1 C t1
          have XN : MH N G := MH_c (M := pset N 60 40 (-1)) (fun o i h1 h2 => by
            unfold pset
            rw [if_neg (fun z => h2 ⟨z.1, by omega, by omega, by omega⟩)]) p4.2.1
          have b : y = (bitsOf (fun r => decide (0 < cntTo (fun c => fnG G c && coB G a1 (wiS G told) r c) (hR G ^ nC G))) (hR G) : Nat) := by
            have e29 := m_co29 (D := 998 + 1) (by omega) W XN (told := told) (by omega) a1 (hS G) 0 (by omega)
            rw [p3, pbI_rI, if_pos (by decide), show (.inl 0 : pV) = .inl ((0 : Nat) : Int) from rfl] at t2
            rw [show orTo told.testBit (me G) 0 = 0 from rfl] at e29
            rw [e29, T_M_beginRows, pbN_rV] at t2
            have z0 : bitsOf (fun r => decide (0 < cntTo (fun c => fnG G c && coB G a1 (wiS G told) r c) 0)) (hR G) = 0 := by
              apply Nat.eq_of_testBit_eq
              intro i
              rw [bitsOf_bit, Nat.zero_testBit, show cntTo (fun c => fnG G c && coB G a1 (wiS G told) i c) 0 = 0 from rfl, decide_eq_false (Nat.lt_irrefl 0), Bool.and_false]
            refine m_co52 (M2 := M2) (D := 998 + 1) (by omega) W hW q1 (wiS_lt W told) (told : Int) (hR G ^ nC G + 1) 0 (.inr 0) (.inr 0) (.inr 0) _ (by omega) (Nat.zero_le _) p4 ?_
            rw [z0]
            exact t2
          rw [a, b]
          congr 1
          exact bitsOf_congr fun r hr => Bool.eq_iff_iff.mpr (exB_iff.trans ((co_same W q1.1 hr).trans ⟨fun z => decide_eq_true z, fun z => of_decide_eq_true z⟩))
      · rw [if_neg (by rw [le32_iff] <;> omega)] at t1
        rw [if_pos (Or.inr (by rw [lt32_iff] <;> omega)), if_neg (fun z => z (by decide))] at t2
        rw [← (rI_inj t1).1, ← (rI_inj t2).1]
  · have y1 : y = -1 := by
      have q1' : lt32 a1 1 ∨ lt32 99 a1 := by
        by_cases z : a1 < 1
        · exact Or.inl (by rw [lt32_iff] <;> omega)
        · exact Or.inr (by rw [lt32_iff] <;> omega)
      rw [if_pos q1', if_pos (by decide)] at t2
      exact (rI_inj t2).1.symm
    by_cases z : a1 < 1
    · rw [if_pos (by rw [lt32_iff] <;> omega)] at t1
      rw [y1, ← (rI_inj t1).1]
    · rw [if_neg (by rw [lt32_iff] <;> omega), if_pos (by rw [lt32_iff] <;> omega)] at t1
      rw [y1, ← (rI_inj t1).1]
end COU
/-! build: what it answers, on both sides -/
section BLD
variable {D d R n : Nat} {M M' M1 M2 G h N : pM} {w1 : List (Nat × Nat)} {v y : Int} {sz bk : Nat → Int}
/-- all can be put, if room r is greater by m -/
def ndW (G : pM) (r : Nat) (m : Int) : Prop := ∃ c, c < hR G ^ nC G ∧ fnW (hR G) (nC G) (szB G r m) (fun i => blk G (cOf G i)) c = true
theorem fnW_bk (sz : Nat → Int) : fnW (hR G) (nC G) sz (bkG G) = fnW (hR G) (nC G) sz (fun i => blk G (cOf G i)) := funext fun c => by
  unfold fnW
  have e : ∀ r, wlq (bkG G) (dg (hR G) (nC G) c) r (nC G) = wlq (fun i => blk G (cOf G i)) (dg (hR G) (nC G) c) r (nC G) := fun r => sumTo_congr fun i hi => by
    unfold bkG
    rw [bkL_all (nC G) (Nat.le_refl _) hi]
  simp only [e]
theorem fn_mono {r c : Nat} {m m' : Int} (h : m ≤ m') (a : fnW (hR G) (nC G) (szB G r m) bk c = true) : fnW (hR G) (nC G) (szB G r m') bk c = true := fnW_iff.mpr fun r' hr' => by
  have := fnW_iff.mp a r' hr'
  unfold szB at this ⊢
  by_cases z : r' = r
  · rw [if_pos z] at this ⊢; omega
  · rw [if_neg z] at this ⊢; exact this
theorem nd_mono {r : Nat} {m m' : Int} (h : m ≤ m') (a : ndW G r m) : ndW G r m' := by
  obtain ⟨c, c1, c2⟩ := a
  exact ⟨c, c1, fn_mono h c2⟩
theorem frF_d {p : Nat → Int} {z : Int} (h63 : ∀ k, N 63 k = M 63 k) : ∀ n, frF N p z n = frF M p z n + (N 61 z.toNat - M 61 z.toNat)
  | 0 => by
    show N 61 z.toNat = M 61 z.toNat + (N 61 z.toNat - M 61 z.toNat)
    omega
  | n + 1 => by
    have ih := frF_d (p := p) (z := z) h63 n
    unfold frF
    rw [ih, h63]
    split <;> omega
theorem fnB_sz (W : WF G) (X : MH M G) (h72 : ∀ t, t < hT G → M 72 t = (oOf G t : Int)) (h1 : 1 ≤ hR G) {r : Nat} {m : Int} (hm : 0 ≤ m ∧ m ≤ 200) (hN : ∀ o i, ¬ (o = 61 ∧ i = r) → ¬ (o = 60 ∧ i = 40) → N o i = M o i) (hr : r < hR G) (hNr : N 61 r = G 1 r + m) (c : Nat) : fnB N (hR G) (hT G) (nC G) c = fnW (hR G) (nC G) (szB G r m) (fun i => blk G (cOf G i)) c := by
  have tr : trP N (hR G) (nC G) c = trP M (hR G) (nC G) c := funext fun t => by
    unfold trP
    rw [hN 72 t (by omega) (by omega)]
  have key : ∀ r', r' < hR G → decide (le32 0 (frF N (trP N (hR G) (nC G) c) r' (hT G))) = decide (wlq (fun i => blk G (cOf G i)) (dg (hR G) (nC G) c) r' (nC G) ≤ szB G r m r') := fun r' hr' => by
    have s := W.2.2.2.1 r' hr'
    have lr := ldG_range W r' c
    unfold ldG at lr
    have k61 : N 61 r' - M 61 r' = if r' = r then m else 0 := by
      by_cases z : r' = r
      · rw [if_pos z, z, hNr, X.2.2.2.1 r hr]; omega
      · rw [if_neg z, hN 61 r' (by omega) (by omega)]; omega
    rw [tr, frF_d (fun k => hN 63 k (by omega) (by omega)), load_G W X h72 h1 hr', Int.toNat_natCast, k61]
    refine decide_eq_decide.mpr ?_
    unfold szB
    by_cases z : r' = r
    · rw [if_pos z, if_pos z, le32_iff (by omega) (by omega) (by omega) (by omega), ← z]
      omega
    · rw [if_neg z, if_neg z, le32_iff (by omega) (by omega) (by omega) (by omega)]
      omega
  unfold fnB fnW
  apply Bool.eq_iff_iff.mpr
  rw [allTo_iff, allTo_iff]
  exact ⟨fun h r' hr' => by rw [← key r' hr']; exact h r' hr', fun h r' hr' => by rw [key r' hr']; exact h r' hr'⟩
theorem gM_61 (g : gM gAll M) {r : Nat} (hr : r < 6) (v : Int) : gM gAll (pset M 61 r v) := gMs_set g (by
  rw [gAll_row (o := 61) (v := (1, 0, 0, 0, 0, 0)) (by decide +kernel) (by decide +kernel) (show r < 100000 by omega)]
  exact Or.inr (Or.inl rfl))
theorem SR_sz {a b : Nat} (S : SR M G a) (g : gM gAll N) (sz : ∀ r, r < hR G → N 61 r = G 1 r) (fr : ∀ o i, o ≠ 78 → o ≠ 79 → o ≠ 61 → ¬ (o = 60 ∧ i = 40) → N o i = M o i) (e : N 60 40 = (b : Int) - 1) : SR N G b := by
  obtain ⟨-, ⟨x1, x2, x3, x4, x5, x6, x7⟩, s3, s4, s5, -, s7, s8⟩ := S
  exact ⟨g, ⟨by rw [fr 60 0 (by decide) (by decide) (by decide) (by omega)]; exact x1, by rw [fr 60 3 (by decide) (by decide) (by decide) (by omega)]; exact x2, by rw [fr 60 8 (by decide) (by decide) (by decide) (by omega)]; exact x3, sz, fun p hp => by rw [fr 62 p (by decide) (by decide) (by decide) (by omega)]; exact x5 p hp, fun t ht => by rw [fr 63 t (by decide) (by decide) (by decide) (by omega), fr 64 t (by decide) (by decide) (by decide) (by omega), fr 65 t (by decide) (by decide) (by decide) (by omega), fr 66 t (by decide) (by decide) (by decide) (by omega)]; exact x6 t ht, fun s hs => by rw [fr 67 s (by decide) (by decide) (by decide) (by omega)]; exact x7 s hs⟩, by rw [fr 60 38 (by decide) (by decide) (by decide) (by omega)]; exact s3, by rw [fr 60 30 (by decide) (by decide) (by decide) (by omega)]; exact s4, by rw [fr 60 39 (by decide) (by decide) (by decide) (by omega)]; exact s5, e, fun t ht => by rw [fr 72 t (by decide) (by decide) (by decide) (by omega)]; exact s7 t ht, fun i hi => by rw [fr 73 i (by decide) (by decide) (by decide) (by omega)]; exact s8 i hi⟩
theorem m_enoughB (hd : 5 ≤ d) (W : WF G) (hW : hR G ^ nC G ≤ 20000) {a : Nat} (S : SR M G a) {r : Nat} (hr : r < hR G) {m : Nat} (hm : m ≤ 200) : ∃ M' b, (ndW G r (m : Int) → xF d 249 [.inr 62, .inl (r : Int), .inl (m : Int)] M = rI 1 M') ∧ (¬ ndW G r (m : Int) → xF d 249 [.inr 62, .inl (r : Int), .inl (m : Int)] M = rI 0 M') ∧ SR M' G b := by
  obtain ⟨D, rfl, hD⟩ := dsucc hd
  obtain ⟨D', rfl, hD'⟩ := dsucc (show 1 ≤ D by omega)
  have w1 := W.1
  have w2 := W.2.1
  have n10 := nC_le W
  have h1 : 1 ≤ hR G := by omega
  obtain ⟨g, s2, s3, s4, s5, s6, s7, s8⟩ := id S
  have k61 : M 61 r = G 1 r := s2.2.2.2.1 r hr
  have nf : ∀ o i, ¬ (o = 61 ∧ i = r) → ¬ (o = 60 ∧ i = 40) → pset (pset M 61 r (G 1 r + (m : Int))) 60 40 (-1) o i = M o i := fun o i a b => by
    unfold pset
    rw [if_neg b, if_neg a]
  have nr : pset (pset M 61 r (G 1 r + (m : Int))) 60 40 (-1) 61 r = G 1 r + (m : Int) := by rw [pset_ne (by decide), pset_eq]
  have n40 : pset (pset M 61 r (G 1 r + (m : Int))) 60 40 (-1) 60 40 = -1 := pset_eq
  have gN : gM gAll (pset (pset M 61 r (G 1 r + (m : Int))) 60 40 (-1)) := gM_f (gM_61 g (by omega) _) (lo := -1) (hi := 1000000) (by decide +kernel) (by omega) (by omega)
  have e0 : xF (D' + 1 + 1) 249 [.inr 62, .inl (r : Int), .inl (m : Int)] M = pbI (xF (D' + 1) 230 [.inr 62] (pset (pset M 61 r (G 1 r + (m : Int))) 60 40 (-1))) fun v3 M2 => if v3 = 0 ∨ v3 = 1 then some (some (.inl v3), pset M2 61 r ((M2 61 r) - (m : Int))) else none := by
    rw [T_M_isEnough, if_pos (by omega), if_pos (by omega), Int.toNat_natCast, k61, T_M_beginRows, pbN_rV]
    congr 1
    funext v3 M2
    rw [if_pos (by omega), if_pos (by omega)]
  generalize hN : pset (pset M 61 r (G 1 r + (m : Int))) 60 40 (-1) = N at nf nr n40 gN e0
  have RX : RWx N (hR G) (hT G) (nC G) := ⟨by rw [nf 60 0 (by omega) (by omega)]; exact s2.1, h1, w1, by rw [nf 60 3 (by omega) (by omega)]; exact s2.2.1, w2, by rw [nf 60 30 (by omega) (by omega)]; exact s4, n10, by rw [nf 60 38 (by omega) (by omega)]; exact s3, fun t ht => ⟨oOf G t, by rw [nf 72 t (by omega) (by omega)]; exact s7 t ht, (oOf_in W ht).1⟩⟩
  obtain ⟨M', g', n, rr⟩ := m_nextRow (d := D' + 1) (code := 0) (W := hR G ^ nC G) (by omega) (by omega) (by omega) RX gN (by rw [nf 60 39 (by omega) (by omega)]; exact s5) (by rw [n40]; rfl)
  have fb := fnB_sz W s2 s7 h1 (m := (m : Int)) (by omega) nf hr nr
  have M61 : M' 61 r = G 1 r + (m : Int) := by rw [n 61 r (by decide) (by decide) (by omega)]; exact nr
  have mk : ∀ b : Nat, M' 60 40 = (b : Int) - 1 → SR (pset M' 61 r (M' 61 r - (m : Int))) G b := fun b hb => by
    refine SR_sz S (gM_61 g' (by omega) _) (fun r' hr' => ?_) (fun o i a1 a2 a3 a4 => by rw [pset_ne a3, n o i a1 a2 a4, nf o i (fun z => a3 z.1) a4]) (by rw [pset_ne (by decide)]; exact hb)
    by_cases z : r' = r
    · rw [z, pset_eq, M61]; omega
    · rw [pset_ne2 z, n 61 r' (by decide) (by decide) (by omega), nf 61 r' (by omega) (by omega)]; exact s2.2.2.2.1 r' hr'
  rcases rr with ⟨r1, r2, r3⟩ | ⟨r1, c1, r2, r3, r4, r5, r6, r7⟩
  · refine ⟨_, max 0 (hR G ^ nC G) + 1, fun ⟨c, c1, c2⟩ => ?_, fun _ => ?_, mk _ (by rw [r3]; omega)⟩
    · have := r2 c (Nat.zero_le c) c1
      rw [fb, c2] at this; cases this
    · rw [e0, r1, pbI_rI, if_pos (Or.inl rfl)]
  · refine ⟨_, c1 + 1, fun _ => ?_, fun z => absurd ⟨c1, r3, by rw [← fb]; exact r4⟩ z, mk _ (by rw [r6]; omega)⟩
    rw [e0, r1, pbI_rI, if_pos (Or.inr rfl)]
/-- V is the least by which a room below k has to be greater; 100 if none below 100 is enough -/
def LBd (G : pM) (k V : Nat) : Prop := V ≤ 100 ∧ (∀ r m : Nat, r < k → m < 100 → ndW G r (m : Int) → V ≤ m) ∧ (V = 100 ∨ ∃ r, r < k ∧ ndW G r (V : Int))
theorem LB_uniq {k V V' : Nat} (a : LBd G k V) (b : LBd G k V') : V = V' := by
  obtain ⟨a1, a2, a3⟩ := a
  obtain ⟨b1, b2, b3⟩ := b
  have l1 : V ≤ V' := by
    rcases b3 with b3 | ⟨r, b4, b5⟩
    · omega
    · rcases Nat.lt_or_ge V' 100 with u | u
      · exact a2 r V' b4 u b5
      · omega
  have l2 : V' ≤ V := by
    rcases a3 with a3 | ⟨r, a4, a5⟩
    · omega
    · rcases Nat.lt_or_ge V 100 with u | u
      · exact b2 r V a4 u a5
      · omega
  omega
theorem LB_step {k V low : Nat} (a : LBd G k V) (hl : low ≤ V) (h1 : ∀ m : Nat, m < low → ¬ ndW G k (m : Int)) (h2 : low = V ∨ ndW G k (low : Int)) : LBd G (k + 1) low := by
  obtain ⟨a1, a2, a3⟩ := a
  refine ⟨by omega, fun r m hr hm hn => ?_, ?_⟩
  · rcases Nat.lt_or_ge r k with u | u
    · have := a2 r m u hm hn
      omega
    · rcases Nat.lt_or_ge m low with u2 | u2
      · exact absurd (by rw [show r = k by omega] at hn; exact hn) (h1 m u2)
      · exact u2
  · rcases h2 with h2 | h2
    · rcases a3 with a3 | ⟨r, a4, a5⟩
      · exact Or.inl (by omega)
      · exact Or.inr ⟨r, by omega, by rw [h2]; exact a5⟩
    · exact Or.inr ⟨k, Nat.lt_succ_self k, h2⟩
def bdX (x1 : Int) (V : Nat) : Prop := (x1 = -1 ∧ V = 100) ∨ (0 ≤ x1 ∧ x1 ≤ 5 ∧ V < 100)
theorem m_bs27 (hD : 5 ≤ D) (W : WF G) (hW : hR G ^ nC G ≤ 20000) {k V : Nat} {x1 : Int} (hk : k < hR G) (L : LBd G k V) (hx : bdX x1 V) : ∀ n (a b s : Nat) (y6 : pV) (M : pM), a ≤ b → b ≤ V → b - a ≤ n → (∀ m : Nat, m < a → ¬ ndW G k (m : Int)) → (b = V ∨ ndW G k (b : Int)) → SR M G s → ∃ (z1 : Int) (V' : Nat) (y4 y5 y6' : pV) (M' : pM) (s' : Nat), LBd G (k + 1) V' ∧ bdX z1 V' ∧ SR M' G s' ∧ xE D 248 27 [.inr 62, .inl x1, .inl (V : Int), .inl (k : Int), .inl (a : Int), .inl (b : Int), y6] [] M = xE D 248 19 [.inr 62, .inl z1, .inl (V' : Int), .inl ((k + 1 : Nat) : Int), y4, y5, y6'] [] M' := by
  have w1 := W.1
  have hV := L.1
  have fin : ∀ (a s : Nat) (y6 : pV) (M : pM), a ≤ V → (∀ m : Nat, m < a → ¬ ndW G k (m : Int)) → (a = V ∨ ndW G k (a : Int)) → SR M G s → ∃ (z1 : Int) (V' : Nat) (y4 y5 y6' : pV) (M' : pM) (s' : Nat), LBd G (k + 1) V' ∧ bdX z1 V' ∧ SR M' G s' ∧ xE D 248 27 [.inr 62, .inl x1, .inl (V : Int), .inl (k : Int), .inl (a : Int), .inl (a : Int), y6] [] M = xE D 248 19 [.inr 62, .inl z1, .inl (V' : Int), .inl ((k + 1 : Nat) : Int), y4, y5, y6'] [] M' := by
    intro a s y6 M ha h1 h2 S
    have L' := LB_step L ha h1 h2
    rw [L_M_build_27, if_pos (by rw [le32_iff] <;> omega), show ((k : Int) + 1) = ((k + 1 : Nat) : Int) by omega]
    by_cases q : a < V
    · rw [if_pos (by rw [lt32_iff] <;> omega)]
      exact ⟨(k : Int), a, _, _, _, M, s, L', Or.inr ⟨by omega, by omega, by omega⟩, S, rfl⟩
    · rw [if_neg (by rw [lt32_iff] <;> omega)]
      have e : a = V := by omega
      rw [e] at L' ⊢
      exact ⟨x1, V, _, _, _, M, s, L', hx, S, rfl⟩
  intro n
  induction n with
  | zero =>
    intro a b s y6 M hab hb hn h1 h2 S
    rw [show b = a by omega] at h2 hb ⊢
    exact fin a s y6 M hb h1 h2 S
  | succ n ih =>
    intro a b s y6 M hab hb hn h1 h2 S
    by_cases e : b ≤ a
    · rw [show b = a by omega] at h2 hb ⊢
      exact fin a s y6 M hb h1 h2 S
    · have em : jdiv ((a : Int) + (b : Int)) 2 = (((a + b) / 2 : Nat) : Int) := by
        rw [show (a : Int) + (b : Int) = ((a + b : Nat) : Int) by omega, show (2 : Int) = ((2 : Nat) : Int) from rfl, jdiv_nat (by omega) (by omega) (by omega)]
      obtain ⟨M1, s1, e1, e2, S1⟩ := m_enoughB (d := D) hD W hW S hk (m := (a + b) / 2) (by omega)
      rw [L_M_build_27, if_neg (by rw [le32_iff] <;> omega), em]
      by_cases q : ndW G k (((a + b) / 2 : Nat) : Int)
      · rw [e1 q, pbI_rI, if_neg (by decide)]
        exact ih a ((a + b) / 2) s1 _ M1 (by omega) (by omega) (by omega) h1 (Or.inr q) S1
      · rw [e2 q, pbI_rI, if_pos (by decide), show (((a + b) / 2 : Nat) : Int) + 1 = (((a + b) / 2 + 1 : Nat) : Int) by omega]
        exact ih ((a + b) / 2 + 1) b s1 _ M1 (by omega) hb (by omega) (fun m hm z => q (nd_mono (by omega) z)) h2 S1
theorem m_bs19 (hD : 5 ≤ D) (W : WF G) (hW : hR G ^ nC G ≤ 20000) : ∀ m k (x1 : Int) (V s : Nat) (y4 y5 y6 : pV) (M : pM), k + m = hR G → LBd G k V → bdX x1 V → SR M G s → xE D 248 19 [.inr 62, .inl x1, .inl (V : Int), .inl (k : Int), y4, y5, y6] [] M = rI y M2 → ∃ V' : Nat, LBd G (hR G) V' ∧ y = if V' = 100 then -2 else (V' : Int)
  | 0, k, x1, V, s, y4, y5, y6, M, hk, L, hx, S, e => by
    have w1 := W.1
    have hV := L.1
    rw [L_M_build_19, S.2.1.1, if_pos (by rw [le32_iff] <;> omega)] at e
    rw [show k = hR G by omega] at L
    refine ⟨V, L, ?_⟩
    rcases hx with ⟨rfl, hx⟩ | ⟨hx1, hx2, hx3⟩
    · rw [if_neg (fun z => z (by decide))] at e
      rw [if_pos hx]; exact (rI_inj e).1.symm
    · rw [if_pos (by rw [eq32_iff] <;> omega)] at e
      rw [if_neg (by omega)]
      split at e
      · obtain ⟨_, -, e⟩ := pbN_inv e
        exact (rI_inj e).1.symm
      · obtain ⟨_, -, e⟩ := pbN_inv e
        exact (rI_inj e).1.symm
  | m + 1, k, x1, V, s, y4, y5, y6, M, hk, L, hx, S, e => by
    have w1 := W.1
    have hV := L.1
    obtain ⟨z1, V', z4, z5, z6, M', s', L', hx', S', e'⟩ := m_bs27 hD W hW (show k < hR G by omega) L hx 100 0 V s y6 M (Nat.zero_le _) (Nat.le_refl _) (by omega) (fun m hm => absurd hm (Nat.not_lt_zero m)) (Or.inl rfl) S
    rw [L_M_build_19, S.2.1.1, if_neg (by rw [le32_iff] <;> omega), show (.inl 0 : pV) = .inl ((0 : Nat) : Int) from rfl, e'] at e
    exact m_bs19 hD W hW m (k + 1) z1 V' s' z4 z5 z6 M' (by omega) L' hx' S' e
theorem x_bs32 (hD : 6 ≤ D) (W : WF G) (q : ¬ tmG G) (no : ∀ r, ¬ ndW G r 0) : ∀ m k (x1 : Int) (V : Nat) (M : pM), k + m = hR G → LBd G k V → 1 ≤ V → XH M G → CL M G → xE D 33 32 [.inr 2, .inl x1, .inl (if V = 100 then 1000000 else (V : Int)), .inl (k : Int)] [] M = rI v M' → ∃ V' : Nat, LBd G (hR G) V' ∧ v = if V' = 100 then -2 else (V' : Int)
  | 0, k, x1, V, M, hk, L, h1, X, C, e => by
    have w1 := W.1
    have hV := L.1
    rw [L_X_build_32, X.1, if_pos (by rw [le32_iff] <;> omega)] at e
    rw [show k = hR G by omega] at L
    refine ⟨V, L, ?_⟩
    by_cases z : V = 100
    · rw [if_pos z, if_neg (fun w => w (by decide))] at e
      rw [if_pos z]; exact (rI_inj e).1.symm
    · rw [if_neg z, if_pos (by rw [eq32_iff] <;> omega)] at e
      obtain ⟨_, -, e⟩ := pbN_inv e
      obtain ⟨_, -, e⟩ := pbN_inv e
      rw [if_neg z]; exact (rI_inj e).1.symm
  | m + 1, k, x1, V, M, hk, L, h1, X, C, e => by
    have w1 := W.1
    have hV := L.1
    have hkR : k < hR G := by omega
    have sb := W.2.2.2.1 k hkR
    have fr : (1 : Int) ≤ (if V = 100 then 1000000 else (V : Int)) ∧ (if V = 100 then 1000000 else (V : Int)) ≤ 1000000 := by split <;> omega
    obtain ⟨N, c1, c2, c3⟩ := x_byBulk (d := D) hD W q X C hkR (m := 99) (e := -1) (by omega) (Or.inr rfl)
    have ev : svT (hR G) (nC G) (tbK G k (-1) (nC G)) = fun c => -ldG G k c := funext fun c => by
      rw [svT_bb w1 (by omega), Int.neg_mul, Int.one_mul]; rfl
    unfold CHr at c2
    rw [fnW_bk, ev] at c1 c2
    obtain ⟨c21, c22⟩ := c2
    obtain ⟨i1, i2⟩ := chF_max (fine := fnW (hR G) (nC G) (szB G k 99) (fun i => blk G (cOf G i))) (val := fun c => -ldG G k c) (hR G ^ nC G)
    have XN := XH_hi c3 X
    have CN := CL_hi c3 C
    rw [L_X_build_32, X.1, if_neg (by rw [le32_iff] <;> omega), if_neg (by rw [le32_iff] <;> omega), c1, pbI_rI, show ((k : Int) + 1) = ((k + 1 : Nat) : Int) by omega] at e
    by_cases z : (chF (fnW (hR G) (nC G) (szB G k 99) (fun i => blk G (cOf G i))) (fun c => -ldG G k c) (hR G ^ nC G)).1 = 0
    · rw [if_pos z, if_pos (by decide)] at e
      refine x_bs32 hD W q no m (k + 1) x1 V N (by omega) (LB_step L (Nat.le_refl V) (fun m hm hn => ?_) (Or.inl rfl)) h1 XN CN e
      obtain ⟨c, d1, d2⟩ := nd_mono (m' := 99) (by omega) hn
      rw [i1 z c d1] at d2; cases d2
    · obtain ⟨⟨c0, d1, d2, d3⟩, i4⟩ := i2 z
      have v10 := (c22 z).1
      have k8 : N 8 k = G 1 k := XN.2.2.2.1 k hkR
      rw [← d3] at v10 i4
      have l0 := ldG_range W k c0
      -- what room k has to be greater by
      have nd : ∀ m : Nat, m < 100 → (ndW G k (m : Int) ↔ ldG G k c0 - G 1 k ≤ (m : Int)) := fun m hm => by
        constructor
        · intro ⟨c, e1, e2⟩
          have a := i4 c e1 (fn_mono (by omega) e2)
          have a : -ldG G k c ≤ -ldG G k c0 := a
          have b := fnW_iff.mp e2 k hkR
          have b : ldG G k c ≤ szB G k (m : Int) k := b
          unfold szB at b
          rw [if_pos rfl] at b
          omega
        · intro hl
          refine ⟨c0, d1, fnW_iff.mpr fun r' hr' => ?_⟩
          have b := fnW_iff.mp d2 r' hr'
          unfold szB at b ⊢
          by_cases y : r' = k
          · rw [if_pos y, y]
            show ldG G k c0 ≤ _
            omega
          · rw [if_neg y] at b ⊢; exact b
      have g1 : 1 ≤ ldG G k c0 - G 1 k := by
        rcases (show ldG G k c0 - G 1 k < 1 ∨ 1 ≤ ldG G k c0 - G 1 k by omega) with u | u
        · exact absurd ((nd 0 (by decide)).mpr (by omega)) (no k)
        · exact u
      have g2 : ldG G k c0 - G 1 k ≤ 99 := by
        have b := fnW_iff.mp d2 k hkR
        have b : ldG G k c0 ≤ szB G k 99 k := b
        unfold szB at b
        rw [if_pos rfl] at b
        omega
      obtain ⟨w, hw⟩ : ∃ w : Nat, ldG G k c0 - G 1 k = (w : Int) := natI (by omega)
      have e10 : -(-ldG G k c0) - G 1 k = (w : Int) := by omega
      rw [if_neg z, if_neg (by decide), if_pos (by omega), Int.toNat_natCast, k8, v10, e10] at e
      by_cases y : V ≤ w
      · rw [if_pos (by rw [le32_iff] <;> first | omega | (split <;> omega))] at e
        exact x_bs32 hD W q no m (k + 1) x1 V N (by omega) (LB_step L (Nat.le_refl V) (fun m hm hn => by
          have := (nd m (by omega)).mp hn
          omega) (Or.inl rfl)) h1 XN CN e
      · rw [if_neg (by rw [le32_iff] <;> first | omega | (split <;> omega)), if_pos (by omega)] at e
        refine x_bs32 hD W q no m (k + 1) (k : Int) w N (by omega) (LB_step L (by omega) (fun m hm hn => by
          have := (nd m (by omega)).mp hn
          omega) (Or.inr ((nd w (by omega)).mpr (by omega)))) (by omega) XN CN ?_
        rw [if_neg (by omega)]
        exact e
theorem kc_build (R : RI0 M) (C : CI M) (K : CK M) (R1 : RI0 M1) (e1 : xF 1000 33 [.inr 2] M = rI v M1) (f1 : Fr w1 M M1) (k1 : okW cm cmo w1 = true) (e2 : xF 1000 248 [.inr 62] M1 = rI y M2) : v = y := by
  obtain ⟨G, X, Y⟩ := C
  obtain ⟨W, -⟩ := ci_facts R X Y
  have hw1 := W.1
  have C := CK_G K X.1
  have t1 : xF (998 + 1 + 1) 33 [.inr 2] M = rI v M1 := e1
  have t2 : xF (998 + 1 + 1) 248 [.inr 62] M1 = rI y M2 := e2
  have Y1 := MG_thr (MG_Fr f1 k1 Y)
  have gT := gM_thr R1.1
  rw [T_X_build, X.1.1] at t1
  rw [T_M_build, Y1.1.1] at t2
  by_cases q0 : hR G = 0
  · rw [if_neg (fun z => z (by rw [q0]; decide))] at t1 t2
    rw [← (rI_inj t1).1, ← (rI_inj t2).1]
  · rw [if_pos (by rw [eq32_iff] <;> omega)] at t1 t2
    obtain ⟨qx1, qx2⟩ := x_tooMany (d := 998 + 1) (by omega) W X.1 C
    obtain ⟨N, g2, fN, p1, p2⟩ := m_tooMG (d := 998 + 1) (by omega) gT W Y1.1 (by rw [pset_ne2 (by decide)]; exact R1.2.1)
    rcases Classical.em (tmG G) with q | q
    · rw [qx1 q, pbI_rI, if_neg (by decide)] at t1
      rw [p1 q, pbI_rI, if_neg (by decide)] at t2
      rw [← (rI_inj t1).1, ← (rI_inj t2).1]
    · have hW : hR G ^ nC G ≤ 20000 := by unfold tmG at q; omega
      obtain ⟨p3, p4⟩ := p2 q
      -- the same memory, but for the code
      have SN : SR N G (N 60 40 + 1).toNat := SR_n (M := pset N 60 40 (-1)) (a := 0) (fun o i _ _ c => by
        unfold pset
        rw [if_neg c]) g2 (by
        have b40 := gm_i g2 60 40 (lo := -1) (hi := 1000000) (by decide +kernel) (by decide +kernel)
        omega) p4
      obtain ⟨N1, s1, s2, s3, s4, s5⟩ := x_startG (d := 998 + 1) (by omega) W X.1 C
      obtain ⟨N2, n1, n2, n3⟩ := x_nextE (d := 998 + 1) (by omega) s2 (WB_G W q) s3
      have lo : ∀ o i, o < 32 → N2 o i = M o i := fun o i ho => by rw [n3 o i ho, s5 o i (by omega)]
      have XN := XH_hi lo X.1
      have CN := CL_hi lo C
      have ex : ∀ r, EX (hR G) (nC G) (G 1) (bkG G) ↔ ndW G r 0 := fun r => by
        rw [EX_iff (Or.inl (by omega)), fnW_bk]
        unfold ndW
        rw [szB_0]
      obtain ⟨V2, L2, b⟩ : ∃ V' : Nat, LBd G (hR G) V' ∧ y = if V' = 100 then -2 else (V' : Int) := by
        rw [p3, pbI_rI, if_pos (by decide), show (.inl 100 : pV) = .inl ((100 : Nat) : Int) from rfl, show (.inl 0 : pV) = .inl ((0 : Nat) : Int) from rfl] at t2
        exact m_bs19 (D := 998 + 1) (by omega) W hW (hR G) 0 (-1) 100 _ _ _ _ N (by omega) ⟨Nat.le_refl _, fun r m hr => absurd hr (Nat.not_lt_zero r), Or.inl rfl⟩ (Or.inl ⟨rfl, rfl⟩) SN t2
      obtain ⟨V1, L1, a⟩ : ∃ V' : Nat, LBd G (hR G) V' ∧ v = if V' = 100 then -2 else (V' : Int) := by
        obtain ⟨v4, M3, z1, z2⟩ := pbI_inv s1
        rw [qx2 q, pbI_rI, if_pos (by decide), z1, pbI_rI, z2, pbN_rV] at t1
        rcases Classical.em (ndW G 0 0) with u | u
        · rw [n1 ((ex 0).mpr u), pbI_rI, if_neg (by decide), L_X_build_32, XN.1, if_neg (by rw [le32_iff] <;> omega), if_pos (by decide), if_pos (by decide)] at t1
          obtain ⟨_, -, t1⟩ := pbN_inv t1
          obtain ⟨_, -, t1⟩ := pbN_inv t1
          refine ⟨0, ⟨by decide, fun r m _ _ _ => Nat.zero_le m, Or.inr ⟨0, by omega, u⟩⟩, ?_⟩
          rw [if_neg (by decide)]
          exact (rI_inj t1).1.symm
        · rw [n2 (fun w => u ((ex 0).mp w)), pbI_rI, if_pos (by decide)] at t1
          exact x_bs32 (D := 998 + 1) (by omega) W q (fun r w => u ((ex 0).mp ((ex r).mpr w))) (hR G) 0 (-1) 100 N2 (by omega) ⟨Nat.le_refl _, fun r m hr => absurd hr (Nat.not_lt_zero r), Or.inl rfl⟩ (by decide) XN CN t1
      rw [a, b, LB_uniq L1 L2]
end BLD
/-! sell: the reference's rows when some clumps are sold -/
section SLD
variable {D d R n T C s code W : Nat} {M M' M1 M2 G h N : pM}
def dgS (R C s code c : Nat) : Int := if s.testBit c then -1 else (dg R C code c : Nat)
theorem dgS_range (h1 : 1 ≤ R) (c : Nat) : -1 ≤ dgS R C s code c ∧ dgS R C s code c < R := by
  have := dg_lt (C := C) (code := code) h1 c
  unfold dgS
  split <;> omega
def RWs (M : pM) (R T C s : Nat) : Prop := M 60 0 = (R : Int) ∧ 1 ≤ R ∧ R ≤ 6 ∧ M 60 3 = (T : Int) ∧ T ≤ 10 ∧ M 60 30 = (C : Int) ∧ C ≤ 10 ∧ M 60 38 = (s : Int) ∧ s < 1024 ∧ ∀ t, t < T → ∃ c : Nat, M 72 t = (c : Int) ∧ c < C
theorem RWs_of (a : RWn M M') (h : RWs M R T C s) : RWs M' R T C s := by
  obtain ⟨h1, h2, h3, h4, h5, h6, h7, h8, h9, h10⟩ := h
  refine ⟨by rw [a 60 0 (by decide) (by decide) (by decide)]; exact h1, h2, h3, by rw [a 60 3 (by decide) (by decide) (by decide)]; exact h4, h5, by rw [a 60 30 (by decide) (by decide) (by decide)]; exact h6, h7, by rw [a 60 38 (by decide) (by decide) (by decide)]; exact h8, h9, fun t ht => ?_⟩
  rw [a 72 t (by decide) (by decide) (by omega)]
  exact h10 t ht
def trS (M : pM) (R C s code : Nat) : Nat → Int := fun t => dgS R C s code (M 72 t).toNat
def fnS (M : pM) (R T C s code : Nat) : Bool := allTo (fun r => decide (le32 0 (frF M (trS M R C s code) r T))) R
theorem fnS_of (a : RWn M M') : fnS M' R T C s code = fnS M R T C s code := by
  unfold fnS
  congr 1
  funext r
  have e : frF M' (trS M' R C s code) r T = frF M (trS M R C s code) r T := frF_cg T (fun k => a 61 k (by decide) (by decide) (by omega)) (fun k => a 63 k (by decide) (by decide) (by omega)) (fun t _ => by
    unfold trS
    rw [a 72 t (by decide) (by decide) (by omega)])
  rw [e]
def rsA (R C s code k : Nat) (M : pM) : pM := fun o i => if o = 79 ∧ k ≤ i ∧ i < C then dgS R C s code i else M o i
def rsB (R C s code t : Nat) (M : pM) : pM := fun o i => if o = 78 ∧ i < t then trS M R C s code i else M o i
theorem rsA_ne {k o i : Nat} (h : o ≠ 79) : rsA R C s code k M o i = M o i := by
  unfold rsA
  rw [if_neg (fun z => h z.1)]
theorem rsB_ne {k o i : Nat} (h : o ≠ 78) : rsB R C s code k M o i = M o i := by
  unfold rsB
  rw [if_neg (fun z => h z.1)]
theorem rsA_step {k : Nat} (hk : k < C) : pset (rsA R C s code (k + 1) M) 79 k (dgS R C s code k) = rsA R C s code k M := by
  funext o i
  by_cases q1 : o = 79
  · subst q1
    by_cases q2 : i = k
    · subst q2
      rw [pset_eq]; unfold rsA
      rw [if_pos ⟨rfl, by omega, by omega⟩]
    · rw [pset_ne2 q2]; unfold rsA
      by_cases q : (79 : Nat) = 79 ∧ k + 1 ≤ i ∧ i < C
      · rw [if_pos q, if_pos ⟨rfl, by omega, q.2.2⟩]
      · rw [if_neg q, if_neg (fun z => q ⟨rfl, by omega, z.2.2⟩)]
  · rw [pset_ne q1, rsA_ne q1, rsA_ne q1]
theorem m_sf8 (hD : 1 ≤ D) (h : RWs M R T C s) (hc : code < 2000000) : ∀ k, k ≤ C → xE D 231 8 [.inr 62, .inl (code / R ^ (C - k) : Nat), .inl ((k : Int) - 1)] [] (rsA R C s code k M) = xE D 231 34 [.inr 62, .inl (code / R ^ C : Nat), .inl 0] [] (rsA R C s code 0 M) := by
  obtain ⟨h1, h2, h3, h4, h5, h6, h7, h8, h9, h10⟩ := h
  intro k
  induction k with
  | zero =>
    intro _
    rw [L_M_isFine_8, if_pos (by rw [lt32_iff] <;> omega), Nat.sub_zero]
  | succ k ih =>
    intro hk
    have hv : code / R ^ (C - (k + 1)) < 2000000 := Nat.lt_of_le_of_lt (Nat.div_le_self _ _) hc
    have e0 : ((k + 1 : Nat) : Int) - 1 = (k : Int) := by omega
    have hR : ¬ eq32 (R : Int) 0 := fun z => by
      rw [eq32_iff (by omega) (by omega) (by omega) (by omega)] at z
      omega
    have e1 : code / R ^ (C - (k + 1)) / R = code / R ^ (C - k) := by
      rw [Nat.div_div_eq_div_mul, ← Nat.pow_succ]
      congr 2
      omega
    have e2 := rsA_step (R := R) (s := s) (code := code) (M := M) (show k < C by omega)
    rw [L_M_isFine_8, e0, if_neg (by rw [lt32_iff] <;> omega), rsA_ne (by decide), h8, m_has hD (by omega) (by omega), pbI_rI, ite01]
    cases b : s.testBit k with
    | false =>
      have e3 : ((code / R ^ (C - (k + 1)) % R : Nat) : Int) = dgS R C s code k := by
        unfold dgS dg
        rw [b, if_neg (by decide), show C - (k + 1) = C - 1 - k by omega]
      rw [if_neg (by decide), rsA_ne (by decide), h1, if_neg hR, if_pos (by omega), pset_ne (by decide), rsA_ne (by decide), h1, if_neg hR, jdiv_nat (by omega) (by omega) (by omega), jrem_nat (by omega) (by omega) (by omega), Int.toNat_natCast, e3, e1, e2]
      exact ih (by omega)
    | true =>
      have e3 : (-1 : Int) = dgS R C s code k := by
        unfold dgS
        rw [b, if_pos rfl]
      rw [if_pos rfl, if_pos (by omega), Int.toNat_natCast, e3, e2, rsA_ne (by decide), h1, if_neg hR, jdiv_nat (by omega) (by omega) (by omega), e1]
      have ih := ih (by omega)
      rw [show ((k : Int) + dgS R C s code k) = (k : Int) - 1 by rw [← e3]; rfl]
      exact ih
theorem m_sf34 (h : RWs M R T C s) (x1 : Int) : ∀ m t, t + m = T → xE D 231 34 [.inr 62, .inl x1, .inl (t : Int)] [] (rsB R C s code t (rsA R C s code 0 M)) = xE D 231 53 [.inr 62, .inl x1, .inl 0] [] (rsB R C s code T (rsA R C s code 0 M)) := by
  obtain ⟨h1, h2, h3, h4, h5, h6, h7, h8, h8', h9⟩ := h
  intro m
  induction m with
  | zero =>
    intro t ht
    rw [L_M_isFine_34, rsB_ne (by decide), rsA_ne (by decide), h4, if_pos (by rw [le32_iff] <;> omega), show t = T by omega]
  | succ m ih =>
    intro t ht
    obtain ⟨c, hc, hcl⟩ := h9 t (by omega)
    have e1 : ((t : Int) + 1) = ((t + 1 : Nat) : Int) := by omega
    have e72 : rsB R C s code t (rsA R C s code 0 M) 72 t = (c : Int) := by rw [rsB_ne (by decide), rsA_ne (by decide), hc]
    rw [L_M_isFine_34, rsB_ne (by decide), rsA_ne (by decide), h4, if_neg (by rw [le32_iff] <;> omega), if_pos (by omega), Int.toNat_natCast, e72, if_pos (by omega), if_pos (by omega), Int.toNat_natCast, rsB_ne (by decide)]
    have e2 : rsA R C s code 0 M 79 c = dgS R C s code c := by
      unfold rsA
      rw [if_pos ⟨rfl, Nat.zero_le _, hcl⟩]
    have e3 : pset (rsB R C s code t (rsA R C s code 0 M)) 78 t (dgS R C s code c) = rsB R C s code (t + 1) (rsA R C s code 0 M) := by
      funext o i
      by_cases q1 : o = 78
      · subst q1
        by_cases q2 : i = t
        · subst q2
          rw [pset_eq]; unfold rsB
          rw [if_pos ⟨rfl, by omega⟩]
          unfold trS
          rw [rsA_ne (by decide), hc, Int.toNat_natCast]
        · rw [pset_ne2 q2]; unfold rsB
          by_cases q : (78 : Nat) = 78 ∧ i < t
          · rw [if_pos q, if_pos ⟨rfl, by omega⟩]
          · rw [if_neg q, if_neg (fun z => q ⟨rfl, by omega⟩)]
      · rw [pset_ne q1, rsB_ne q1, rsB_ne q1]
    rw [e2, e3, e1]
    exact ih (t + 1) (by omega)
def isS (R T C s code : Nat) (M : pM) : pM := rsB R C s code T (rsA R C s code 0 M)
theorem isS_n : RWn M (isS R T C s code M) := fun o i a b _ => by
  unfold isS
  rw [rsB_ne a, rsA_ne b]
theorem isS_78 {t : Nat} (ht : t < T) : isS R T C s code M 78 t = trS M R C s code t := by
  unfold isS rsB
  rw [if_pos ⟨rfl, ht⟩]
  unfold trS
  rw [rsA_ne (by decide)]
theorem isS_40 : isS R T C s code M 60 40 = M 60 40 := by
  unfold isS
  rw [rsB_ne (by decide), rsA_ne (by decide)]
theorem m_isFineS (hd : 2 ≤ d) (h : RWs M R T C s) (hc : M 60 40 = (code : Int)) (hc2 : code < 2000000) : xF d 231 [.inr 62] M = rI (if fnS M R T C s code then 1 else 0) (isS R T C s code M) := by
  obtain ⟨D, rfl, hD⟩ := dsucc hd
  have e8 := m_sf8 hD h hc2 C (Nat.le_refl C)
  have eA : rsA R C s code C M = M := by
    funext o i
    unfold rsA
    rw [if_neg (fun z => by omega)]
  have eB : rsB R C s code 0 (rsA R C s code 0 M) = rsA R C s code 0 M := by
    funext o i
    unfold rsB
    rw [if_neg (fun z => absurd z.2 (Nat.not_lt_zero i))]
  rw [eA, Nat.sub_self, Nat.pow_zero, Nat.div_one] at e8
  have e34 := m_sf34 (D := D) (code := code) h ((code / R ^ C : Nat) : Int) T 0 (by omega)
  rw [eB] at e34
  have h' := RWs_of (isS_n (R := R) (T := T) (C := C) (s := s) (code := code)) h
  rw [T_M_isFine, hc, h.2.2.2.2.2.1, e8, show (.inl 0 : pV) = .inl ((0 : Nat) : Int) from rfl, e34]
  have efr : ∀ r : Int, frF (isS R T C s code M) (isS R T C s code M 78) r T = frF M (trS M R C s code) r T := fun r => frF_cg T (fun k => isS_n 61 k (by decide) (by decide) (by omega)) (fun k => isS_n 63 k (by decide) (by decide) (by omega)) (fun t ht => isS_78 ht)
  have key : ∀ m r, r + m = R → allTo (fun r => decide (le32 0 (frF M (trS M R C s code) r T))) r = true → xE D 231 53 [.inr 62, .inl ((code / R ^ C : Nat) : Int), .inl (r : Int)] [] (isS R T C s code M) = rI (if fnS M R T C s code then 1 else 0) (isS R T C s code M) := by
    intro m
    induction m with
    | zero =>
      intro r hr ha
      have hR := h.2.2.1
      have e : r = R := by omega
      subst e
      rw [L_M_isFine_53, h'.1, if_pos (by rw [le32_iff] <;> omega)]
      unfold fnS
      rw [ha]; rfl
    | succ m ih =>
      intro r hr ha
      have hR := h.2.2.1
      have e1 : ((r : Int) + 1) = ((r + 1 : Nat) : Int) := by omega
      rw [L_M_isFine_53, h'.1, if_neg (by rw [le32_iff] <;> omega), m_freeIn_78 hD h'.2.2.2.1 h'.2.2.2.2.1 (by omega), pbI_rI, efr]
      by_cases q : le32 0 (frF M (trS M R C s code) r T)
      · rw [if_pos q, e1]
        exact ih (r + 1) (by omega) (by
          unfold allTo
          rw [ha, decide_eq_true q]; rfl)
      · rw [if_neg q]
        have : fnS M R T C s code = false := by
          cases hb : fnS M R T C s code with
          | false => rfl
          | true =>
            unfold fnS at hb
            have := allTo_iff.mp hb r (by omega)
            rw [decide_eq_false q] at this
            cases this
        rw [this]; rfl
  exact key R 0 (by omega) rfl
theorem m_ns6 (hD : 2 ≤ D) (hW : W ≤ 1000000) : ∀ m code M, W ≤ code + m → code ≤ W → RWs M R T C s → M 60 39 = (W : Int) → M 60 40 = (code : Int) → ∃ M', RWn M M' ∧ ((xE D 230 6 [.inr 62] [] M = rI 0 M' ∧ ∀ c, code ≤ c → c < W → fnS M R T C s c = false) ∨ (xE D 230 6 [.inr 62] [] M = rI 1 M' ∧ ∃ c, c < W ∧ fnS M R T C s c = true)) := by
  intro m
  induction m with
  | zero =>
    intro code M hm hc h h39 h40
    refine ⟨M, RWn_rfl, Or.inl ⟨?_, fun c h1 h2 => by omega⟩⟩
    rw [L_M_nextRow_6, h39, h40, if_pos (by rw [le32_iff] <;> omega)]
  | succ m ih =>
    intro code M hm hc h h39 h40
    by_cases q : W ≤ code
    · refine ⟨M, RWn_rfl, Or.inl ⟨?_, fun c h1 h2 => by omega⟩⟩
      rw [L_M_nextRow_6, h39, h40, if_pos (by rw [le32_iff] <;> omega)]
    · have n1 := isS_n (R := R) (T := T) (C := C) (s := s) (code := code) (M := M)
      rw [L_M_nextRow_6, h39, h40, if_neg (by rw [le32_iff] <;> omega), m_isFineS hD h h40 (by omega), pbI_rI, ite01]
      cases hb : fnS M R T C s code with
      | true => exact ⟨_, n1, Or.inr ⟨rfl, code, by omega, hb⟩⟩
      | false =>
        rw [if_neg (by decide), isS_40, h40]
        have n2 : RWn M (pset (isS R T C s code M) 60 40 ((code : Int) + 1)) := fun o i a b c => by
          unfold pset
          rw [if_neg c]
          exact n1 o i a b c
        obtain ⟨M', n, r⟩ := ih (code + 1) (pset (isS R T C s code M) 60 40 ((code : Int) + 1)) (by omega) (by omega) (RWs_of n2 h) (by rw [n2 60 39 (by decide) (by decide) (by decide)]; exact h39) (by rw [pset_eq]; omega)
        refine ⟨M', RWn_tr n2 n, ?_⟩
        rcases r with ⟨r1, r2⟩ | ⟨r1, c1, r2, r3⟩
        · refine Or.inl ⟨r1, fun c h1 h2 => ?_⟩
          rcases Nat.lt_or_ge code c with y | y
          · rw [← fnS_of n2]; exact r2 c y h2
          · rw [show c = code by omega]; exact hb
        · exact Or.inr ⟨r1, c1, r2, by rw [← fnS_of n2]; exact r3⟩
theorem fr_sumS {p : Nat → Int} (hp : ∀ t, t < hT h → -1 ≤ p t ∧ p t < 6) {r : Int} (hr : 0 ≤ r ∧ r < 6) (h63 : ∀ t, t < hT h → M 63 t = h 3 t) : ∀ k, k ≤ hT h → frF M p r k = M 61 r.toNat - sumTo (fun t => if p t = r then h 3 t else 0) k
  | 0, _ => by
    show M 61 r.toNat = M 61 r.toNat - 0
    omega
  | k + 1, hk => by
    have ih := fr_sumS hp hr h63 k (by omega)
    have hpk := hp k (by omega)
    show (if eq32 (p k) r then frF M p r k - M 63 k else frF M p r k - 0) = M 61 r.toNat - (sumTo (fun t => if p t = r then h 3 t else 0) k + if p k = r then h 3 k else 0)
    rw [ih, h63 k (by omega)]
    by_cases q : p k = r
    · rw [if_pos (by rw [q]), if_pos q]; omega
    · rw [if_neg (by rw [eq32_iff] <;> omega), if_neg q]; omega
/-- without the clumps of s the rest can be put -/
def feG (G : pM) (s : Nat) : Prop := EG G (nan (2 ^ nC G - 1) s) (G 1)
theorem feG_all (W : WF G) : feG G (2 ^ nC G - 1) := by
  refine ⟨fun _ => 0, fun i hi hb => ?_, fun r hr => ?_⟩
  · have := (nan_all (j := 2 ^ nC G - 1) hi).mp hb
    rw [Nat.testBit_two_pow_sub_one, decide_eq_true hi] at this; cases this
  · have e : sumTo (fun i => if (nan (2 ^ nC G - 1) (2 ^ nC G - 1)).testBit i = true ∧ 0 = r then blk G (cOf G i) else 0) (nC G) = sumTo (fun _ => (0 : Int)) (nC G) := sumTo_congr fun i hi => by
      rw [if_neg (fun w => by
        have := (nan_all (j := 2 ^ nC G - 1) hi).mp w.1
        rw [Nat.testBit_two_pow_sub_one, decide_eq_true hi] at this; cases this)]
    rw [e, sumTo_0]
    have := W.2.2.2.1 r hr
    omega
theorem fnS_iff (W : WF G) (X : MH M G) (h72 : ∀ t, t < hT G → M 72 t = (oOf G t : Int)) (h1 : 1 ≤ hR G) {c : Nat} : fnS M (hR G) (hT G) (nC G) s c = true ↔ ∀ r, r < hR G → sumTo (fun i => if (nan (2 ^ nC G - 1) s).testBit i = true ∧ dg (hR G) (nC G) c i = r then blk G (cOf G i) else 0) (nC G) ≤ G 1 r := by
  have w1 := W.1
  have w2 := W.2.1
  unfold fnS
  rw [allTo_iff]
  have key : ∀ r, r < hR G → (decide (le32 0 (frF M (trS M (hR G) (nC G) s c) r (hT G))) = true ↔ sumTo (fun i => if (nan (2 ^ nC G - 1) s).testBit i = true ∧ dg (hR G) (nC G) c i = r then blk G (cOf G i) else 0) (nC G) ≤ G 1 r) := fun r hr => by
    have sb := W.2.2.2.1 r hr
    have ts : ∀ t, t < hT G → trS M (hR G) (nC G) s c t = dgS (hR G) (nC G) s c (oOf G t) := fun t ht => by
      unfold trS
      rw [h72 t ht, Int.toNat_natCast]
    have e1 := fr_sumS (h := G) (M := M) (p := trS M (hR G) (nC G) s c) (r := (r : Int)) (fun t ht => by
      have := dgS_range (R := hR G) (C := nC G) (s := s) (code := c) h1 (oOf G t)
      rw [ts t ht]; omega) (by omega) (fun t ht => (X.2.2.2.2.2.1 t ht).1) (hT G) (Nat.le_refl _)
    have e2 : sumTo (fun t => if trS M (hR G) (nC G) s c t = (r : Int) then G 3 t else 0) (hT G) = sumTo (fun t => if (if s.testBit (oOf G t) = true then 6 else dg (hR G) (nC G) c (oOf G t)) = r then G 3 t else 0) (hT G) := sumTo_congr fun t ht => by
      rw [ts t ht]
      unfold dgS
      by_cases b : s.testBit (oOf G t) = true
      · rw [if_pos b, if_pos b, if_neg (by omega), if_neg (by omega)]
      · rw [if_neg b, if_neg b]
        by_cases z : dg (hR G) (nC G) c (oOf G t) = r
        · rw [if_pos z, if_pos (by omega)]
        · rw [if_neg z, if_neg (by omega)]
    have e3 := blk_parts W (fun i => if s.testBit i = true then 6 else dg (hR G) (nC G) c i) r
    have e4 : wlq (fun i => blk G (cOf G i)) (fun i => if s.testBit i = true then 6 else dg (hR G) (nC G) c i) r (nC G) = sumTo (fun i => if (nan (2 ^ nC G - 1) s).testBit i = true ∧ dg (hR G) (nC G) c i = r then blk G (cOf G i) else 0) (nC G) := sumTo_congr fun i hi => by
      show (if (if s.testBit i = true then 6 else dg (hR G) (nC G) c i) = r then blk G (cOf G i) else 0) = _
      by_cases b : s.testBit i = true
      · rw [if_pos b, if_neg (by omega), if_neg (fun w => by
          have := (nan_all hi).mp w.1
          rw [b] at this; cases this)]
      · have b2 : (nan (2 ^ nC G - 1) s).testBit i = true := (nan_all hi).mpr (by
          cases y : s.testBit i with
          | false => rfl
          | true => exact absurd y b)
        rw [if_neg b]
        by_cases z : dg (hR G) (nC G) c i = r
        · rw [if_pos z, if_pos ⟨b2, z⟩]
        · rw [if_neg z, if_neg (fun w => z w.2)]
    have rg := sumTo_range (f := fun t => if trS M (hR G) (nC G) s c t = (r : Int) then G 3 t else 0) (lo := 0) (hi := 99) (n := hT G) (fun t ht => by
      have := (W.2.2.2.2.2.2.2.1 t ht).1
      show 0 ≤ (if trS M (hR G) (nC G) s c t = (r : Int) then G 3 t else 0) ∧ (if trS M (hR G) (nC G) s c t = (r : Int) then G 3 t else 0) ≤ 99
      split <;> omega)
    have e5 := e2.trans (e3.trans e4)
    rw [e5] at rg e1
    rw [e1, Int.toNat_natCast, X.2.2.2.1 r hr]
    constructor
    · intro z
      have z := of_decide_eq_true z
      rw [le32_iff (by omega) (by omega) (by omega) (by omega)] at z
      omega
    · intro z
      exact decide_eq_true ((le32_iff (by omega) (by omega) (by omega) (by omega)).mpr (by omega))
  exact ⟨fun h r hr => (key r hr).mp (h r hr), fun h r hr => (key r hr).mpr (h r hr)⟩
theorem feG_rows (W : WF G) (X : MH M G) (h72 : ∀ t, t < hT G → M 72 t = (oOf G t : Int)) (h1 : 1 ≤ hR G) : feG G s ↔ ∃ c, c < hR G ^ nC G ∧ fnS M (hR G) (hT G) (nC G) s c = true := by
  constructor
  · intro ⟨p, p1, p2⟩
    obtain ⟨c, c1, c2⟩ := ex_code (R := hR G) (n := nC G) (q := fun i => if (nan (2 ^ nC G - 1) s).testBit i = true then p i else 0) h1 (fun i hi => by
      by_cases z : (nan (2 ^ nC G - 1) s).testBit i = true
      · rw [if_pos z]; exact p1 i hi z
      · rw [if_neg z]; omega)
    refine ⟨c, c1, (fnS_iff W X h72 h1).mpr fun r hr => ?_⟩
    have e : sumTo (fun i => if (nan (2 ^ nC G - 1) s).testBit i = true ∧ dg (hR G) (nC G) c i = r then blk G (cOf G i) else 0) (nC G) = sumTo (fun i => if (nan (2 ^ nC G - 1) s).testBit i = true ∧ p i = r then blk G (cOf G i) else 0) (nC G) := sumTo_congr fun i hi => by
      by_cases z : (nan (2 ^ nC G - 1) s).testBit i = true
      · rw [c2 i hi, if_pos z]
      · rw [if_neg (fun w => z w.1), if_neg (fun w => z w.1)]
    rw [e]
    exact p2 r hr
  · intro ⟨c, c1, c2⟩
    exact ⟨dg (hR G) (nC G) c, fun i _ _ => dg_lt h1 i, (fnS_iff W X h72 h1).mp c2⟩
end SLD
/-! sell: what it answers, on both sides -/
section SEL
variable {D d : Nat} {M M' M1 M2 G h N : pM} {w1 : List (Nat × Nat)} {v y : Int}
/-- a is less to sell than b -/
def lsB (G : pM) (a b : Nat) : Bool := decide (popc a < popc b ∨ (popc a = popc b ∧ (blk G a < blk G b ∨ (blk G a = blk G b ∧ a < b))))
theorem lsB_iff {a b : Nat} : lsB G a b = true ↔ popc a < popc b ∨ (popc a = popc b ∧ (blk G a < blk G b ∨ (blk G a = blk G b ∧ a < b))) := by
  unfold lsB
  exact ⟨fun h => of_decide_eq_true h, fun h => decide_eq_true h⟩
theorem x_less (hd : 3 ≤ d) (W : WF G) (X : XH M G) {a b : Nat} (ha : a < 1024) (hb : b < 1024) : xF d 106 [.inr 9, .inl (a : Int), .inl (b : Int)] M = rI (if lsB G a b then 1 else 0) M := by
  obtain ⟨D, rfl, hD⟩ := dsucc hd
  have pa := popc_le a
  have pb := popc_le b
  have ba := blk_range W a
  have bb := blk_range W b
  rw [T_House_isLessToSell, j_bitCount (by omega) hb, pbI_rI, j_bitCount (by omega) ha, pbI_rI]
  by_cases q : popc a = popc b
  · rw [if_pos (by rw [eq32_iff] <;> omega), c_bulkOf hD W X (by omega), pbI_rI, c_bulkOf hD W X (by omega), pbI_rI]
    by_cases q2 : blk G a = blk G b
    · rw [if_pos (by rw [eq32_iff] <;> omega)]
      by_cases q3 : a < b
      · rw [if_neg (by rw [le32_iff] <;> omega), if_pos (lsB_iff.mpr (Or.inr ⟨q, Or.inr ⟨q2, q3⟩⟩))]
      · rw [if_pos (by rw [le32_iff] <;> omega), if_neg (fun w => by have := lsB_iff.mp w; omega)]
    · rw [if_neg (by rw [eq32_iff] <;> omega)]
      by_cases q3 : blk G a < blk G b
      · rw [if_neg (by rw [le32_iff] <;> omega), if_pos (lsB_iff.mpr (Or.inr ⟨q, Or.inl q3⟩))]
      · rw [if_pos (by rw [le32_iff] <;> omega), if_neg (fun w => by have := lsB_iff.mp w; omega)]
  · rw [if_neg (by rw [eq32_iff] <;> omega)]
    by_cases q3 : popc a < popc b
    · rw [if_neg (by rw [le32_iff] <;> omega), if_pos (lsB_iff.mpr (Or.inl q3))]
    · rw [if_pos (by rw [le32_iff] <;> omega), if_neg (fun w => by have := lsB_iff.mp w; omega)]
theorem m_less (hd : 3 ≤ d) (W : WF G) (X : MH M G) {a b : Nat} (ha : a < 1024) (hb : b < 1024) : xF d 247 [.inr 62, .inl (a : Int), .inl (b : Int)] M = rI (if lsB G a b then 1 else 0) M := by
  obtain ⟨D, rfl, hD⟩ := dsucc hd
  have pa := popc_le a
  have pb := popc_le b
  have ba := blk_range W a
  have bb := blk_range W b
  rw [T_M_isLess, j_bitCount (by omega) ha, pbI_rI, j_bitCount (by omega) hb, pbI_rI]
  by_cases q : popc a = popc b
  · rw [if_pos (by rw [eq32_iff] <;> omega), m_bulkOf hD W X (by omega), pbI_rI, m_bulkOf hD W X (by omega), pbI_rI]
    by_cases q2 : blk G a = blk G b
    · rw [if_pos (by rw [eq32_iff] <;> omega)]
      by_cases q3 : a < b
      · rw [if_neg (by rw [le32_iff] <;> omega), if_pos (lsB_iff.mpr (Or.inr ⟨q, Or.inr ⟨q2, q3⟩⟩))]
      · rw [if_pos (by rw [le32_iff] <;> omega), if_neg (fun w => by have := lsB_iff.mp w; omega)]
    · rw [if_neg (by rw [eq32_iff] <;> omega)]
      by_cases q3 : blk G a < blk G b
      · rw [if_neg (by rw [le32_iff] <;> omega), if_pos (lsB_iff.mpr (Or.inr ⟨q, Or.inl q3⟩))]
      · rw [if_pos (by rw [le32_iff] <;> omega), if_neg (fun w => by have := lsB_iff.mp w; omega)]
  · rw [if_neg (by rw [eq32_iff] <;> omega)]
    by_cases q3 : popc a < popc b
    · rw [if_neg (by rw [le32_iff] <;> omega), if_pos (lsB_iff.mpr (Or.inl q3))]
    · rw [if_pos (by rw [le32_iff] <;> omega), if_neg (fun w => by have := lsB_iff.mp w; omega)]
/-- what one side, what the other has found so far -/
noncomputable def seC (G : pM) : Nat → Nat
  | 0 => 2 ^ hT G - 1
  | s + 1 => if lsB G (tOf G s) (seC G s) = true ∧ exB (feG G s) = true then tOf G s else seC G s
noncomputable def seR (G : pM) : Nat → Int
  | 0 => -1
  | s + 1 => if (seR G s = -1 ∨ lsB G (tOf G s) (seR G s).toNat = true) ∧ exB (feG G s) = true then (tOf G s : Nat) else seR G s
theorem seC_lt (W : WF G) : ∀ s, seC G s < 1024
  | 0 => by
    have := p_T W
    have := Nat.two_pow_pos (hT G)
    show 2 ^ hT G - 1 < 1024
    omega
  | s + 1 => by
    have ih := seC_lt W s
    unfold seC
    split
    · exact tOf_lt W s
    · exact ih
theorem seR_range (W : WF G) : ∀ s, -1 ≤ seR G s ∧ seR G s < 1024
  | 0 => by show (-1 : Int) ≤ -1 ∧ (-1 : Int) < 1024; omega
  | s + 1 => by
    have ih := seR_range W s
    have := tOf_lt W s
    unfold seR
    split <;> omega
theorem x_se12 (hD : 4 ≤ D) (W : WF G) (q : ¬ tmG G) : ∀ m s (y3 : pV) (M : pM), s + m = 2 ^ nC G → XH M G → CL M G → xE (D + 1) 32 12 [.inr 2, .inl (seC G s : Nat), .inl (s : Int), y3] [] M = rI v M' → v = (popc (seC G (2 ^ nC G)) : Nat)
  | 0, s, y3, M, hk, X, C, e => by
    have n10 := nC_le W
    have p : 2 ^ nC G ≤ 1024 := pow_le_of n10
    rw [L_X_sell_12, C.1, jshl_one (nC G) (by omega), if_pos (by rw [le32_iff] <;> omega)] at e
    obtain ⟨M3, -, e⟩ := pbN_inv e
    obtain ⟨M4, -, e⟩ := pbN_inv e
    rw [j_bitCount (by omega) (seC_lt W s), pbI_rI] at e
    rw [show 2 ^ nC G = s by omega]
    exact (rI_inj e).1.symm
  | m + 1, s, y3, M, hk, X, C, e => by
    have n10 := nC_le W
    have p : 2 ^ nC G ≤ 1024 := pow_le_of n10
    have p1 : 1 ≤ 2 ^ nC G := Nat.one_le_two_pow
    have nl := nan_le (2 ^ nC G - 1) s
    have b : seC G (s + 1) = if lsB G (tOf G s) (seC G s) = true ∧ exB (feG G s) = true then tOf G s else seC G s := rfl
    have ih := fun y3 M X C => x_se12 hD W q m (s + 1) y3 M (by omega) X C
    rw [L_X_sell_12, C.1, jshl_one (nC G) (by omega), if_neg (by rw [le32_iff] <;> omega), c_thingsOf (by omega) W C (by omega), pbI_rI, x_less (by omega) W X (tOf_lt W s) (seC_lt W s), pbI_rI, ite01, show ((s : Int) + 1) = ((s + 1 : Nat) : Int) by omega] at e
    cases l : lsB G (tOf G s) (seC G s) with
    | false =>
      rw [l, if_neg (by decide)] at e
      rw [l, if_neg (fun w => by cases w.1)] at b
      rw [b] at ih
      exact ih _ M X C e
    | true =>
      obtain ⟨N1, s1, s2, s3, s4, s5⟩ := x_start (d := D + 1) (by omega) W X C (some := nan (2 ^ nC G - 1) s) (by omega)
      have B := WB_S W q (nan (2 ^ nC G - 1) s) (sz := G 1) (fun r hr => by
        have := W.2.2.2.1 r hr
        omega)
      obtain ⟨N2, n1, n2, n3⟩ := x_nextE (d := D + 1) (by omega) s2 B s3
      have lo : ∀ o i, o < 32 → N2 o i = M o i := fun o i ho => by rw [n3 o i ho, s5 o i (by omega)]
      rw [l, if_pos rfl, T_House_allClumps, C.1, pbI_rI, jshl_one (nC G) (by omega), show (((2 ^ nC G : Nat) : Int) - 1) = ((2 ^ nC G - 1 : Nat) : Int) by omega, jxor_m1 (by omega), jand_not (by omega) (by omega), s1, pbN_rV] at e
      rw [l] at b
      by_cases z : feG G s
      · rw [n1 ((EX_EG _).mpr z), pbI_rI, if_neg (by decide)] at e
        rw [if_pos ⟨rfl, exB_iff.mpr z⟩] at b
        rw [b] at ih
        exact ih _ N2 (XH_hi lo X) (CL_hi lo C) e
      · rw [n2 (fun w => z ((EX_EG _).mp w)), pbI_rI, if_pos (by decide)] at e
        rw [if_neg (fun w => z (exB_iff.mp w.2))] at b
        rw [b] at ih
        exact ih _ N2 (XH_hi lo X) (CL_hi lo C) e
/-- the reference between two sets -/
def SL (M G : pM) : Prop := MH M G ∧ M 60 30 = (nC G : Int) ∧ M 60 39 = ((hR G ^ nC G : Nat) : Int) ∧ (∀ t, t < hT G → M 72 t = (oOf G t : Int)) ∧ ∀ i, i < nC G → M 73 i = (cOf G i : Int)
theorem SL_fr (fr : ∀ o i, (60 ≤ o ∧ o ≤ 73) → ¬ (o = 60 ∧ (i = 38 ∨ i = 40)) → M' o i = M o i) (S : SL M G) : SL M' G := by
  obtain ⟨s1, s2, s3, s4, s5⟩ := S
  exact ⟨MH_c (fun o i h1 h2 => fr o i (by omega) (by omega)) s1, by rw [fr 60 30 (by omega) (by omega)]; exact s2, by rw [fr 60 39 (by omega) (by omega)]; exact s3, fun t ht => by rw [fr 72 t (by omega) (by omega)]; exact s4 t ht, fun i hi => by rw [fr 73 i (by omega) (by omega)]; exact s5 i hi⟩
theorem m_seF (hd : 4 ≤ d) (W : WF G) (hW : hR G ^ nC G ≤ 20000) {s : Nat} (hs : s < 1024) (hs2 : s ≠ 2 ^ nC G - 1) (hs3 : s < 2 ^ nC G) (S : SL M G) (h38 : M 60 38 = (s : Int)) : ∃ M1 M2, xF d 229 [.inr 62] M = rV M1 ∧ SL M2 G ∧ (feG G s → xF d 230 [.inr 62] M1 = rI 1 M2) ∧ (¬ feG G s → xF d 230 [.inr 62] M1 = rI 0 M2) := by
  obtain ⟨D, rfl, hD⟩ := dsucc hd
  have w1 := W.1
  have w2 := W.2.1
  have n10 := nC_le W
  have n1 : 1 ≤ nC G := by
    rcases Nat.eq_zero_or_pos (nC G) with z | z
    · rw [z] at hs2 hs3; simp at hs2 hs3; omega
    · exact z
  have t1 : 1 ≤ hT G := by have := nC_T G; omega
  have h1 : 1 ≤ hR G := by
    have := (W.2.2.2.2.2.2.2.1 0 t1).2.2.2
    omega
  have f0 : ∀ o i, ¬ (o = 60 ∧ i = 40) → pset M 60 40 (-1) o i = M o i := fun o i h => by
    unfold pset
    rw [if_neg h]
  have f1 : ∀ o i, ¬ (o = 60 ∧ i = 40) → pset (pset M 60 40 (-1)) 60 40 ((0 : Nat) : Int) o i = M o i := fun o i h => by
    unfold pset
    rw [if_neg h, if_neg h]
  have S1 : SL (pset (pset M 60 40 (-1)) 60 40 ((0 : Nat) : Int)) G := SL_fr (fun o i _ b => f1 o i (by omega)) S
  have RX : RWs (pset (pset M 60 40 (-1)) 60 40 ((0 : Nat) : Int)) (hR G) (hT G) (nC G) s := ⟨S1.1.1, h1, w1, S1.1.2.1, w2, S1.2.1, n10, by rw [f1 60 38 (by omega)]; exact h38, hs, fun t ht => ⟨oOf G t, S1.2.2.2.1 t ht, (oOf_in W ht).1⟩⟩
  obtain ⟨N, n, r⟩ := m_ns6 (D := D) (by omega) (W := hR G ^ nC G) (by omega) (hR G ^ nC G) 0 (pset (pset M 60 40 (-1)) 60 40 ((0 : Nat) : Int)) (by omega) (Nat.zero_le _) RX S1.2.2.1 pset_eq
  have fe := feG_rows (s := s) W S1.1 S1.2.2.2.1 h1
  have e0 : xF (D + 1) 230 [.inr 62] (pset M 60 40 (-1)) = xE D 230 6 [.inr 62] [] (pset (pset M 60 40 (-1)) 60 40 ((0 : Nat) : Int)) := by
    rw [T_M_nextRow, pset_eq]
    rfl
  refine ⟨pset M 60 40 (-1), N, by rw [T_M_beginRows], SL_fr (fun o i a b => n o i (by omega) (by omega) (by omega)) S1, fun z => ?_, fun z => ?_⟩
  · rw [e0]
    rcases r with ⟨r1, r2⟩ | ⟨r1, -⟩
    · obtain ⟨c, c1, c2⟩ := fe.mp z
      rw [r2 c (Nat.zero_le c) c1] at c2; cases c2
    · exact r1
  · rw [e0]
    rcases r with ⟨r1, -⟩ | ⟨r1, c, c1, c2⟩
    · exact r1
    · exact absurd (fe.mpr ⟨c, c1, c2⟩) z
/-- what a set comes to -/
theorem m_se22 (hD : 4 ≤ D) (W : WF G) (hW : hR G ^ nC G ≤ 20000) {s : Nat} (hs : s < 2 ^ nC G) : ∀ m k (x4 : Int) (M : pM), k + m = nC G → x4 = (k : Int) → SL M G → ∃ (y3 y4 : pV) (M' : pM), SL M' G ∧ xE D 246 22 [.inr 62, .inl (seR G s), .inl (s : Int), .inl (orTo s.testBit (cOf G) k : Nat), .inl x4] [] M = xE D 246 12 [.inr 62, .inl (seR G (s + 1)), .inl ((s + 1 : Nat) : Int), y3, y4] [] M'
  | 0, k, x4, M, hk, hx, S => by
    have n10 := nC_le W
    have p : 2 ^ nC G ≤ 1024 := pow_le_of n10
    have p1 : 1 ≤ 2 ^ nC G := Nat.one_le_two_pow
    have tl := tOf_lt W s
    have sr := seR_range W s
    have b : seR G (s + 1) = if (seR G s = -1 ∨ lsB G (tOf G s) (seR G s).toNat = true) ∧ exB (feG G s) = true then ((tOf G s : Nat) : Int) else seR G s := rfl
    have te : orTo s.testBit (cOf G) k = tOf G s := by
      unfold tOf
      rw [show k = nC G by omega]
    have k30 : ∀ v : Int, pset M 60 38 v 60 30 = (nC G : Int) := fun v => by rw [pset_ne2 (by decide)]; exact S.2.1
    have al : ((2 ^ nC G : Nat) : Int) - 1 = ((2 ^ nC G - 1 : Nat) : Int) := by omega
    have s1 : ((s : Int) + 1) = ((s + 1 : Nat) : Int) := by omega
    have Ss : SL (pset M 60 38 (s : Int)) G := SL_fr (fun o i _ h => by
      unfold pset
      rw [if_neg (by omega)]) S
    rw [L_M_sell_22, S.2.1, hx, if_pos (by rw [le32_iff] <;> omega), te]
    -- the set is asked for
    have ask : (seR G s = -1 ∨ lsB G (tOf G s) (seR G s).toNat = true) → ∃ (y3 y4 : pV) (M' : pM), SL M' G ∧ (if ¬ eq32 (s : Int) ((jshl 1 ((pset M 60 38 (s : Int)) 60 30)) - 1) then (if ¬ eq32 0 0 then (if eq32 0 0 then xE D 246 12 [.inr 62, .inl (seR G s), .inl ((s : Int) + 1), .inl ((tOf G s : Nat) : Int), .inl 0] [] (pset M 60 38 (s : Int)) else xE D 246 12 [.inr 62, .inl ((tOf G s : Nat) : Int), .inl ((s : Int) + 1), .inl ((tOf G s : Nat) : Int), .inl 0] [] (pset M 60 38 (s : Int))) else (pbN (xF D 229 [.inr 62] (pset M 60 38 (s : Int))) fun M1 => pbI (xF D 230 [.inr 62] M1) fun v3 M2 => if eq32 v3 0 then xE D 246 12 [.inr 62, .inl (seR G s), .inl ((s : Int) + 1), .inl ((tOf G s : Nat) : Int), .inl v3] [] M2 else xE D 246 12 [.inr 62, .inl ((tOf G s : Nat) : Int), .inl ((s : Int) + 1), .inl ((tOf G s : Nat) : Int), .inl v3] [] M2)) else (if ¬ eq32 1 0 then (if eq32 1 0 then xE D 246 12 [.inr 62, .inl (seR G s), .inl ((s : Int) + 1), .inl ((tOf G s : Nat) : Int), .inl 1] [] (pset M 60 38 (s : Int)) else xE D 246 12 [.inr 62, .inl ((tOf G s : Nat) : Int), .inl ((s : Int) + 1), .inl ((tOf G s : Nat) : Int), .inl 1] [] (pset M 60 38 (s : Int))) else (pbN (xF D 229 [.inr 62] (pset M 60 38 (s : Int))) fun M4 => pbI (xF D 230 [.inr 62] M4) fun v6 M5 => if eq32 v6 0 then xE D 246 12 [.inr 62, .inl (seR G s), .inl ((s : Int) + 1), .inl ((tOf G s : Nat) : Int), .inl v6] [] M5 else xE D 246 12 [.inr 62, .inl ((tOf G s : Nat) : Int), .inl ((s : Int) + 1), .inl ((tOf G s : Nat) : Int), .inl v6] [] M5))) = xE D 246 12 [.inr 62, .inl (seR G (s + 1)), .inl ((s + 1 : Nat) : Int), y3, y4] [] M' := fun hq => by
      rw [k30, jshl_one (nC G) (by omega), al, s1]
      by_cases z : s = 2 ^ nC G - 1
      · rw [if_neg (fun w => w (by rw [← z])), if_pos (by decide), if_neg (by decide)]
        rw [if_pos ⟨hq, exB_iff.mpr (by rw [z]; exact feG_all W)⟩] at b
        rw [b]
        exact ⟨_, _, _, Ss, rfl⟩
      · rw [if_pos (by rw [eq32_iff] <;> omega), if_neg (by decide)]
        obtain ⟨N1, N2, u1, u2, u3, u4⟩ := m_seF (d := D) hD W hW (s := s) (by omega) z hs Ss pset_eq
        rw [u1, pbN_rV]
        by_cases y : feG G s
        · rw [u3 y, pbI_rI, if_neg (by decide)]
          rw [if_pos ⟨hq, exB_iff.mpr y⟩] at b
          rw [b]
          exact ⟨_, _, N2, u2, rfl⟩
        · rw [u4 y, pbI_rI, if_pos (by decide)]
          rw [if_neg (fun w => y (exB_iff.mp w.2))] at b
          rw [b]
          exact ⟨_, _, N2, u2, rfl⟩
    by_cases z : seR G s = -1
    · rw [if_pos (by rw [z])]
      exact ask (Or.inl z)
    · obtain ⟨bb, hb⟩ : ∃ bb : Nat, seR G s = (bb : Int) := natI (by omega)
      have lt : bb < 1024 := by omega
      have lq : (seR G s).toNat = bb := by rw [hb, Int.toNat_natCast]
      have ls := m_less (d := D) (by omega) W S.1 tl lt
      rw [← hb] at ls
      rw [if_neg (by rw [eq32_iff] <;> omega), ls, pbI_rI, ite01n]
      by_cases y : lsB G (tOf G s) bb = true
      · rw [if_pos y]
        exact ask (Or.inr (by rw [lq]; exact y))
      · rw [if_neg y, s1]
        rw [if_neg (fun w => by
          rcases w.1 with w | w
          · exact z w
          · rw [lq] at w; exact y w)] at b
        rw [b]
        exact ⟨_, _, M, S, rfl⟩
  | m + 1, k, x4, M, hk, hx, S => by
    have n10 := nC_le W
    have p : 2 ^ nC G ≤ 1024 := pow_le_of n10
    have ol := orTo_lt (c := s.testBit) (cOf_lt W) k
    have cl := cOf_lt W k
    have e : orTo s.testBit (cOf G) (k + 1) = if s.testBit k then orTo s.testBit (cOf G) k ||| cOf G k else orTo s.testBit (cOf G) k := rfl
    have ih := m_se22 hD W hW hs m (k + 1) ((k : Int) + 1) M (by omega) (by omega) S
    rw [L_M_sell_22, S.2.1, hx, if_neg (by rw [le32_iff] <;> omega), m_has (by omega) (by omega) (by omega), pbI_rI, ite01]
    cases b : s.testBit k with
    | false =>
      have jz : jor ((orTo s.testBit (cOf G) k : Nat) : Int) 0 = ((orTo s.testBit (cOf G) k : Nat) : Int) := by
        have := jor_nat (a := orTo s.testBit (cOf G) k) (b := 0) (by omega) (by decide)
        rw [Nat.or_zero] at this; exact this
      rw [b, if_neg (by decide)] at e
      rw [if_neg (by decide), jz, ← e]
      exact ih
    | true =>
      rw [b, if_pos rfl] at e
      rw [if_pos rfl, if_pos (by omega), Int.toNat_natCast, S.2.2.2.2 k (by omega), jor_nat (by omega) (by omega), ← e]
      exact ih
theorem m_se12 (hD : 4 ≤ D) (W : WF G) (hW : hR G ^ nC G ≤ 20000) : ∀ m s (y3 y4 : pV) (M : pM), s + m = 2 ^ nC G → SL M G → xE D 246 12 [.inr 62, .inl (seR G s), .inl (s : Int), y3, y4] [] M = rI y M2 → ∃ M3 M4, xF D 270 [.inl (seR G (2 ^ nC G))] M3 = rI y M4
  | 0, s, y3, y4, M, hk, S, e => by
    have n10 := nC_le W
    have p : 2 ^ nC G ≤ 1024 := pow_le_of n10
    rw [L_M_sell_12, S.2.1, jshl_one (nC G) (by omega), if_pos (by rw [le32_iff] <;> omega)] at e
    obtain ⟨M3, -, e⟩ := pbN_inv e
    obtain ⟨v3, M4, e1, e2⟩ := pbI_inv e
    rw [show 2 ^ nC G = s by omega]
    rw [(rI_inj e2).1] at e1
    exact ⟨M3, M4, e1⟩
  | m + 1, s, y3, y4, M, hk, S, e => by
    have n10 := nC_le W
    have p : 2 ^ nC G ≤ 1024 := pow_le_of n10
    obtain ⟨z3, z4, M', S', e'⟩ := m_se22 hD W hW (s := s) (by omega) (nC G) 0 0 M (by omega) rfl S
    rw [L_M_sell_12, S.2.1, jshl_one (nC G) (by omega), if_neg (by rw [le32_iff] <;> omega)] at e
    rw [show orTo s.testBit (cOf G) 0 = 0 from rfl] at e'
    have e : xE D 246 22 [.inr 62, .inl (seR G s), .inl (s : Int), .inl ((0 : Nat) : Int), .inl 0] [] M = rI y M2 := e
    rw [e'] at e
    exact m_se12 hD W hW m (s + 1) z3 z4 M' (by omega) S' e
theorem cgM_T (W : WF G) {k : Nat} (hk : k < hT G) : cgM G k < 2 ^ hT G := by
  have key : ∀ b, b < 2 ^ hT G → ∀ n, n ≤ hS G → hngI G (aT G) (aS G) b n < 2 ^ hT G := by
    intro b hb n
    induction n with
    | zero => intro _; exact hb
    | succ n ih =>
      intro hn
      have ih := ih (by omega)
      have m := W.2.2.2.2.2.2.2.2 n (by omega)
      unfold hngI
      split
      · exact Nat.or_lt_two_pow ih (Nat.lt_of_le_of_lt Nat.and_le_left m)
      · exact ih
  have key2 : ∀ n, hng G (aT G) (aS G) (2 ^ k) n < 2 ^ hT G := by
    intro n
    induction n with
    | zero => exact Nat.pow_lt_pow_right (by decide) hk
    | succ n ih => exact key _ ih _ (Nat.le_refl _)
  exact key2 _
theorem cOf_T (W : WF G) (i : Nat) : cOf G i < 2 ^ hT G := by
  have key : ∀ k, k ≤ hT G → cmk G k i < 2 ^ hT G := by
    intro k
    induction k with
    | zero => intro _; exact Nat.two_pow_pos _
    | succ k ih =>
      intro hk
      unfold cmk
      split
      · exact cgM_T W (by omega)
      · exact ih (by omega)
  exact key _ (Nat.le_refl _)
theorem tOf_all (W : WF G) : tOf G (2 ^ nC G - 1) = 2 ^ hT G - 1 := by
  apply Nat.eq_of_testBit_eq
  intro t
  rw [Nat.testBit_two_pow_sub_one]
  by_cases ht : t < hT G
  · rw [tOf_bit W _ ht, Nat.testBit_two_pow_sub_one, decide_eq_true ht, decide_eq_true (oOf_in W ht).1]
  · rw [decide_eq_false ht]
    cases z : (tOf G (2 ^ nC G - 1)).testBit t with
    | false => rfl
    | true =>
      unfold tOf at z
      obtain ⟨i, i1, i2, i3⟩ := (orTo_bit _).mp z
      have := bit_lt (cOf_T W i) i3
      exact absurd this ht
theorem se_same (W : WF G) : ∀ s, (seR G s = -1 ∧ seC G s = 2 ^ hT G - 1) ∨ ∃ b : Nat, seR G s = (b : Int) ∧ seC G s = if lsB G b (2 ^ hT G - 1) = true then b else 2 ^ hT G - 1
  | 0 => Or.inl ⟨rfl, rfl⟩
  | s + 1 => by
    have ih := se_same W s
    have c : seC G (s + 1) = if lsB G (tOf G s) (seC G s) = true ∧ exB (feG G s) = true then tOf G s else seC G s := rfl
    have r : seR G (s + 1) = if (seR G s = -1 ∨ lsB G (tOf G s) (seR G s).toNat = true) ∧ exB (feG G s) = true then ((tOf G s : Nat) : Int) else seR G s := rfl
    rw [c, r]
    rcases ih with ⟨i1, i2⟩ | ⟨b, i1, i2⟩
    · by_cases f : exB (feG G s) = true
      · rw [if_pos ⟨Or.inl i1, f⟩, i2]
        refine Or.inr ⟨tOf G s, rfl, ?_⟩
        by_cases l : lsB G (tOf G s) (2 ^ hT G - 1) = true
        · rw [if_pos ⟨l, f⟩, if_pos l]
        · rw [if_neg (fun w => l w.1), if_neg l]
      · rw [if_neg (fun w => f w.2), if_neg (fun w => f w.2)]
        exact Or.inl ⟨i1, i2⟩
    · have n1 : seR G s ≠ -1 := by omega
      rw [i1, Int.toNat_natCast, i2]
      by_cases f : exB (feG G s) = true
      · by_cases l : lsB G (tOf G s) b = true
        · rw [if_pos ⟨Or.inr l, f⟩]
          refine Or.inr ⟨tOf G s, rfl, ?_⟩
          by_cases l2 : lsB G b (2 ^ hT G - 1) = true
          · have l3 : lsB G (tOf G s) (2 ^ hT G - 1) = true := lsB_iff.mpr (by
              have h1 := lsB_iff.mp l
              have h2 := lsB_iff.mp l2
              omega)
            rw [if_pos l2, if_pos ⟨l, f⟩, if_pos l3]
          · rw [if_neg l2]
            by_cases l3 : lsB G (tOf G s) (2 ^ hT G - 1) = true
            · rw [if_pos ⟨l3, f⟩, if_pos l3]
            · rw [if_neg (fun w => l3 w.1), if_neg l3]
        · rw [if_neg (fun w => by
            rcases w.1 with w | w
            · omega
            · exact l w)]
          refine Or.inr ⟨b, rfl, ?_⟩
          by_cases l2 : lsB G b (2 ^ hT G - 1) = true
          · rw [if_pos l2, if_neg (fun w => l w.1)]
          · rw [if_neg l2, if_neg (fun w => l (lsB_iff.mpr (by
              have h1 := lsB_iff.mp w.1
              have h2 := mt (lsB_iff (G := G)).mpr l2
              omega)))]
      · rw [if_neg (fun w => f w.2), if_neg (fun w => f w.2)]
        exact Or.inr ⟨b, rfl, rfl⟩
theorem se_end (W : WF G) : seR G (2 ^ nC G) = (seC G (2 ^ nC G) : Nat) := by
  have p1 : 1 ≤ 2 ^ nC G := Nat.one_le_two_pow
  have f : exB (feG G (2 ^ nC G - 1)) = true := exB_iff.mpr (feG_all W)
  have ih := se_same W (2 ^ nC G - 1)
  have c : seC G (2 ^ nC G - 1 + 1) = if lsB G (tOf G (2 ^ nC G - 1)) (seC G (2 ^ nC G - 1)) = true ∧ exB (feG G (2 ^ nC G - 1)) = true then tOf G (2 ^ nC G - 1) else seC G (2 ^ nC G - 1) := rfl
  have r : seR G (2 ^ nC G - 1 + 1) = if (seR G (2 ^ nC G - 1) = -1 ∨ lsB G (tOf G (2 ^ nC G - 1)) (seR G (2 ^ nC G - 1)).toNat = true) ∧ exB (feG G (2 ^ nC G - 1)) = true then ((tOf G (2 ^ nC G - 1) : Nat) : Int) else seR G (2 ^ nC G - 1) := rfl
  rw [show 2 ^ nC G - 1 + 1 = 2 ^ nC G by omega] at c r
  rw [c, r, tOf_all W]
  have irr : ∀ a, ¬ lsB G a a = true := fun a w => by
    have := lsB_iff.mp w
    omega
  rcases ih with ⟨i1, i2⟩ | ⟨b, i1, i2⟩
  · rw [if_pos ⟨Or.inl i1, f⟩, i2, if_neg (fun w => irr _ w.1)]
  · have n1 : seR G (2 ^ nC G - 1) ≠ -1 := by omega
    rw [i1, Int.toNat_natCast, i2]
    by_cases l2 : lsB G b (2 ^ hT G - 1) = true
    · rw [if_pos l2]
      by_cases l : lsB G (2 ^ hT G - 1) b = true
      · exact absurd (lsB_iff.mpr (by
          have h1 := lsB_iff.mp l
          have h2 := lsB_iff.mp l2
          omega)) (irr b)
      · rw [if_neg (fun w => by
          rcases w.1 with w | w
          · omega
          · exact l w), if_neg (fun w => l w.1)]
    · rw [if_neg l2, if_neg (show ¬ (lsB G (2 ^ hT G - 1) (2 ^ hT G - 1) = true ∧ exB (feG G (2 ^ nC G - 1)) = true) from fun w => irr _ w.1)]
      by_cases l : lsB G (2 ^ hT G - 1) b = true
      · rw [if_pos ⟨Or.inr l, f⟩]
      · rw [if_neg (fun w => by
          rcases w.1 with w | w
          · omega
          · exact l w)]
        have h1 := mt (lsB_iff (G := G)).mpr l
        have h2 := mt (lsB_iff (G := G)).mpr l2
        have : b = 2 ^ hT G - 1 := by omega
        rw [this]
theorem kc_sell (R : RI0 M) (C : CI M) (K : CK M) (R1 : RI0 M1) (e1 : xF 1000 32 [.inr 2] M = rI v M1) (f1 : Fr w1 M M1) (k1 : okW cm cmo w1 = true) (e2 : xF 1000 246 [.inr 62] M1 = rI y M2) : v = y := by
  obtain ⟨G, X, Y⟩ := C
  obtain ⟨W, -⟩ := ci_facts R X Y
  have hw1 := W.1
  have C := CK_G K X.1
  have t1 : xF (998 + 1 + 1) 32 [.inr 2] M = rI v M1 := e1
  have t2 : xF (998 + 1 + 1) 246 [.inr 62] M1 = rI y M2 := e2
  have Y1 := MG_thr (MG_Fr f1 k1 Y)
  have gT := gM_thr R1.1
  rw [T_X_sell] at t1
  rw [T_M_sell] at t2
  obtain ⟨qx1, qx2⟩ := x_tooMany (d := 998 + 1) (by omega) W X.1 C
  obtain ⟨N, g2, fN, p1, p2⟩ := m_tooMG (d := 998 + 1) (by omega) gT W Y1.1 (by rw [pset_ne2 (by decide)]; exact R1.2.1)
  rcases Classical.em (tmG G) with q | q
  · rw [qx1 q, pbI_rI, if_neg (by decide)] at t1
    rw [p1 q, pbI_rI, if_neg (by decide)] at t2
    rw [← (rI_inj t1).1, ← (rI_inj t2).1]
  · have hW : hR G ^ nC G ≤ 20000 := by unfold tmG at q; omega
    obtain ⟨p3, p4⟩ := p2 q
    obtain ⟨-, z2, -, z4, z5, -, z7, z8⟩ := p4
    have SN : SL N G := SL_fr (M := pset N 60 40 (-1)) (fun o i _ h => by
      unfold pset
      rw [if_neg (by omega)]) ⟨z2, z4, z5, z7, z8⟩
    have a : v = (popc (seC G (2 ^ nC G)) : Nat) := by
      rw [qx2 q, pbI_rI, if_pos (by decide), c_allThings (by omega) W X.1, pbI_rI, show (.inl 0 : pV) = .inl ((0 : Nat) : Int) from rfl] at t1
      exact x_se12 (D := 998) (by omega) W q (2 ^ nC G) 0 _ M (by omega) X.1 C t1
    rw [p3, pbI_rI, if_pos (by decide), show (.inl 0 : pV) = .inl ((0 : Nat) : Int) from rfl] at t2
    obtain ⟨M3, M4, b⟩ := m_se12 (D := 998 + 1) (by omega) W hW (2 ^ nC G) 0 _ _ N (by omega) SN t2
    rw [se_end W, j_bitCount (by omega) (seC_lt W _)] at b
    rw [a]
    exact (rI_inj b).1
end SEL
