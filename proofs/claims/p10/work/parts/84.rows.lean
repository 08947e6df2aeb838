/-! fits: what it answers, on both sides -/
section FTS
variable {D d : Nat} {M M' M1 M2 G h : pM} {w1 : List (Nat × Nat)} {v y : Int} {fine : Nat → Bool} {val : Nat → Int}
theorem cnt_to {a b : Nat} (hab : a ≤ b) (h : ∀ c, a ≤ c → c < b → fine c = false) : cntTo fine b = cntTo fine a := by
  obtain ⟨m, rfl⟩ : ∃ m, b = a + m := ⟨b - a, by omega⟩
  clear hab
  induction m with
  | zero => rfl
  | succ m ih =>
    have e : cntTo fine (a + (m + 1)) = if fine (a + m) then cntTo fine (a + m) + 1 else cntTo fine (a + m) := rfl
    rw [e, h (a + m) (by omega) (by omega), if_neg (by decide)]
    exact ih (fun c h1 h2 => h c h1 (by omega))
theorem chF_cnt : ∀ c, (chF fine val c).1 = cntTo fine c
  | 0 => rfl
  | c + 1 => by
    have ih := chF_cnt c
    have e : cntTo fine (c + 1) = if fine c then cntTo fine c + 1 else cntTo fine c := rfl
    have e2 : chF fine val (c + 1) = if fine c then (if (chF fine val c).1 = 0 ∨ (chF fine val c).2.1 < val c then ((chF fine val c).1 + 1, val c, c) else ((chF fine val c).1 + 1, (chF fine val c).2)) else chF fine val c := rfl
    rw [e, e2, ← ih]
    cases fine c with
    | false => rw [if_neg (by decide), if_neg (by decide)]
    | true =>
      rw [if_pos rfl, if_pos rfl]
      split <;> rfl
theorem chF_fcg {f2 : Nat → Bool} (e : ∀ c, fine c = f2 c) : chF fine val = chF f2 val := by
  rw [show fine = f2 from funext e]
theorem x_tch2 (hD : 1 ≤ D) (W : WF G) : ∀ (m k s : Nat) (M : pM), k + m = hT G → XH M G → CL M G → M 5 1 = (s : Int) → s + m ≤ 12 → ∃ M', xE D 58 2 [.inr 2, .inl (k : Int)] [] M = rV M' ∧ ∀ o i, o ≠ 5 → o ≠ 6 → M' o i = M o i
  | 0, k, s, M, hk, X, C, h5, hs => by
    have w2 := W.2.1
    rw [L_X_tellChosen_2, X.2.1, if_pos (by rw [le32_iff] <;> omega)]
    exact ⟨M, rfl, fun _ _ _ _ => rfl⟩
  | m + 1, k, s, M, hk, X, C, h5, hs => by
    have w2 := W.2.1
    have n10 := nC_le W
    have ow := (oOf_in W (show k < hT G by omega)).1
    obtain ⟨N, u1, u2, u3⟩ := x_tell (d := D) (M := M) (n := s) hD (by omega) h5 (M 38 (oOf G k))
    obtain ⟨M', e, f⟩ := x_tch2 hD W m (k + 1) (s + 1) N (by omega) (XH_eq X (fun o i _ _ _ => u3 o i (by omega) (by omega))) (by
      obtain ⟨b1, b2, b3⟩ := C
      exact ⟨by rw [u3 7 12 (by decide) (by decide)]; exact b1, fun i hi => by rw [u3 15 i (by decide) (by decide)]; exact b2 i hi, fun t ht => by rw [u3 16 t (by decide) (by decide)]; exact b3 t ht⟩) u2 (by omega)
    rw [L_X_tellChosen_2, X.2.1, if_neg (by rw [le32_iff] <;> omega), if_pos (by omega), Int.toNat_natCast, C.2.2 k (by omega), show (.inl ((own G (hT G) k : Nat) : Int) : pV) = .inl ((oOf G k : Nat) : Int) from rfl, c_numberAt_38n hD (by omega), pbI_rI, u1, pbN_rV, show ((k : Int) + 1) = ((k + 1 : Nat) : Int) by omega]
    exact ⟨M', e, fun o i h1 h2 => by rw [f o i h1 h2, u3 o i h1 h2]⟩
theorem x_tellChosen (hd : 2 ≤ d) (W : WF G) (X : XH M G) (C : CL M G) {s : Nat} (h5 : M 5 1 = (s : Int)) (hs : s ≤ 2) : ∃ M', xF d 58 [.inr 2] M = rV M' ∧ ∀ o i, o ≠ 5 → o ≠ 6 → M' o i = M o i := by
  obtain ⟨D, rfl, hD⟩ := dsucc hd
  have w2 := W.2.1
  rw [T_X_tellChosen]
  exact x_tch2 hD W (hT G) 0 s M (by omega) X C h5 (by omega)
theorem SR_Fr {a : Nat} {w : List (Nat × Nat)} (f : Fr w M M') (g : gM gAll M') (k : w.all (fun q => decide (q.1 < 60 ∨ 73 < q.1 ∨ (q.1 = 60 ∧ (q.2 = 16 ∨ q.2 = 17)))) = true) (S : SR M G a) : SR M' G a := by
  have no : ∀ o i, (60 ≤ o ∧ o ≤ 73) → ¬ (o = 60 ∧ (i = 16 ∨ i = 17)) → M' o i = M o i := fun o i h1 h2 => f o i (by
    cases z : wOK w o i with
    | false => rfl
    | true =>
      obtain ⟨r, hr, h3⟩ := List.any_eq_true.mp z
      rw [Bool.and_eq_true, Bool.or_eq_true] at h3
      have e := Nat.eq_of_beq_eq_true h3.1
      have k := of_decide_eq_true (List.all_eq_true.mp k r hr)
      rw [e] at k
      rcases k with k | k | ⟨k1, k2⟩
      · omega
      · omega
      · rcases h3.2 with y | y
        · have := Nat.eq_of_beq_eq_true y
          omega
        · have := Nat.eq_of_beq_eq_true y
          omega)
  obtain ⟨-, s2, s3, s4, s5, s6, s7, s8⟩ := S
  exact ⟨g, MH_c (fun o i h1 h2 => no o i (by omega) (by omega)) s2, by rw [no 60 38 (by omega) (by omega)]; exact s3, by rw [no 60 30 (by omega) (by omega)]; exact s4, by rw [no 60 39 (by omega) (by omega)]; exact s5, by rw [no 60 40 (by omega) (by omega)]; exact s6, fun t ht => by rw [no 72 t (by omega) (by omega)]; exact s7 t ht, fun i hi => by rw [no 73 i (by omega) (by omega)]; exact s8 i hi⟩
theorem m_fit12 (hD : 3 ≤ D) (W : WF G) (hW : hR G ^ nC G ≤ 20000) : ∀ m a (M : pM), hR G ^ nC G - a + 1 ≤ m → a ≤ hR G ^ nC G → SR M G a → xE D 234 12 [.inr 62, .inl (cntTo (fnG G) a : Nat)] [] M = rI y M2 → y = (cntTo (fnG G) (hR G ^ nC G) : Nat) := by
  intro m
  induction m with
  | zero => intro a M hm; omega
  | succ m ih =>
    intro a M hm ha S e
    obtain ⟨N, n1, g1, r⟩ := m_nextG (d := D) (by omega) W hW ha S
    rw [L_M_fits_12] at e
    rcases r with ⟨r1, c, c1, c2, c3, c4, c5, c6⟩ | ⟨r1, nf⟩
    · have cc : cntTo (fnG G) (c + 1) = cntTo (fnG G) a + 1 := by
        have e1 : cntTo (fnG G) (c + 1) = if fnG G c then cntTo (fnG G) c + 1 else cntTo (fnG G) c := rfl
        rw [e1, c3, if_pos rfl, cnt_to c1 c4]
      have cl := cntTo_le (c := fnG G) a
      rw [r1, pbI_rI, if_neg (by decide), show (((cntTo (fnG G) a : Nat) : Int) + 1) = ((cntTo (fnG G) (c + 1) : Nat) : Int) by omega] at e
      split at e
      · exact ih (c + 1) N (by omega) (by omega) c5 e
      · obtain ⟨N2, u1, u2, u3⟩ := u_take (d := D) (by omega) g1
        rw [u1, pbN_rV] at e
        exact ih (c + 1) N2 (by omega) (by omega) (SR_Fr u3 u2 (by decide) c5) e
    · have to := cnt_to (fine := fnG G) ha nf
      rw [r1, pbI_rI, if_pos (by decide)] at e
      rw [to]
      split at e
      · exact (rI_inj e).1.symm
      · obtain ⟨_, -, e⟩ := pbN_inv e
        exact (rI_inj e).1.symm
theorem svT_0 {R n : Nat} (c : Nat) : svT R n (fun _ => 0) c = 0 := sumTo_0 n
theorem kc_fits (R : RI0 M) (C : CI M) (K : CK M) (R1 : RI0 M1) (e1 : xF 1000 21 [.inr 2] M = rI v M1) (f1 : Fr w1 M M1) (k1 : okW cm cmo w1 = true) (e2 : xF 1000 234 [.inr 62] M1 = rI y M2) : v = y := by
  obtain ⟨G, X, Y⟩ := C
  obtain ⟨W, -⟩ := ci_facts R X Y
  have C := CK_G K X.1
  have t1 : xF (998 + 1 + 1) 21 [.inr 2] M = rI v M1 := e1
  have t2 : xF (998 + 1 + 1) 234 [.inr 62] M1 = rI y M2 := e2
  have Y1 := MG_thr (MG_Fr f1 k1 Y)
  have gT := gM_thr R1.1
  obtain ⟨q1, q2⟩ := x_tooMany (d := 998 + 1) (by omega) W X.1 C
  obtain ⟨N, g2, fN, p1, p2⟩ := m_tooMG (d := 998 + 1) (by omega) gT W Y1.1 (by rw [pset_ne2 (by decide)]; exact R1.2.1)
  rw [T_X_fits] at t1
  rw [T_M_fits] at t2
  rcases Classical.em (tmG G) with q | q
  · rw [q1 q, pbI_rI, if_neg (by decide)] at t1
    rw [p1 q, pbI_rI, if_neg (by decide)] at t2
    rw [← (rI_inj t1).1, ← (rI_inj t2).1]
  · have hW : hR G ^ nC G ≤ 20000 := by unfold tmG at q; omega
    obtain ⟨p3, p4⟩ := p2 q
    obtain ⟨N1, s1, s2, s3, s4, s5⟩ := x_startG (d := 998 + 1) (by omega) W X.1 C
    have B := WB_G W q
    obtain ⟨N2, c1, c2, c3⟩ := x_choose (d := 998 + 1) (tb := fun _ => 0) (by omega) B (fun c => by rw [svT_0]; omega) s2 s3 s4
    have lo : ∀ o i, o < 32 → N2 o i = M o i := fun o i ho => by rw [c3 o i (by omega) (by omega) (by omega) (by omega), s5 o i (by omega)]
    have cn : (chF (fnW (hR G) (nC G) (G 1) (bkG G)) (svT (hR G) (nC G) fun _ => 0) (hR G ^ nC G)).1 = cntTo (fnG G) (hR G ^ nC G) := by
      rw [chF_cnt, show fnW (hR G) (nC G) (G 1) (bkG G) = fnG G from funext fnG_bk]
    have c11 := c2.1
    rw [cn] at c11
    have cl := cntTo_le (c := fnG G) (hR G ^ nC G)
    have a : v = (cntTo (fnG G) (hR G ^ nC G) : Nat) := by
      obtain ⟨v4, M3, z1, z2⟩ := pbI_inv s1
      rw [q2 q, pbI_rI, if_pos (by decide), z1, pbI_rI, z2, pbN_rV, c1, pbI_rI, T_Numbers_start, pbN_rV, show pset N2 5 1 0 32 11 = N2 32 11 from pset_ne (by decide), c11] at t1
      split at t1
      · exact (rI_inj t1).1.symm
      · have X2 : XH (pset N2 5 1 0) G := XH_eq X.1 (fun o i o1 o2 _ => by rw [pset_ne (by omega), lo o i (by omega)])
        have C2 : CL (pset N2 5 1 0) G := by
          obtain ⟨b1, b2, b3⟩ := C
          exact ⟨by rw [pset_ne (by decide), lo 7 12 (by decide)]; exact b1, fun i hi => by rw [pset_ne (by decide), lo 15 i (by decide)]; exact b2 i hi, fun t ht => by rw [pset_ne (by decide), lo 16 t (by decide)]; exact b3 t ht⟩
        obtain ⟨N3, u1, u2⟩ := x_tellChosen (d := 998 + 1) (s := 0) (by omega) W X2 C2 pset_eq (by decide)
        rw [u1, pbN_rV, u2 32 11 (by decide) (by decide), pset_ne (by decide), c11] at t1
        exact (rI_inj t1).1.symm
    have b : y = (cntTo (fnG G) (hR G ^ nC G) : Nat) := by
      rw [p3, pbI_rI, if_pos (by decide), T_M_beginRows, pbN_rV, show (.inl 0 : pV) = .inl ((cntTo (fnG G) 0 : Nat) : Int) from rfl] at t2
      exact m_fit12 (D := 998 + 1) (by omega) W hW (hR G ^ nC G + 1) 0 _ (by omega) (Nat.zero_le _) p4 t2
    rw [a, b]
end FTS
/-! together, may: what they answer, on both sides -/
section TGS
variable {D d R n : Nat} {M M' M1 M2 G h : pM} {w1 : List (Nat × Nat)} {v y : Int} {sz bk : Nat → Int}
theorem cnt_next {fine g : Nat → Bool} {a c : Nat} (hac : a ≤ c) (nf : ∀ c', a ≤ c' → c' < c → fine c' = false) (hf : fine c = true) : cntTo (fun c => fine c && g c) (c + 1) = if g c then cntTo (fun c => fine c && g c) a + 1 else cntTo (fun c => fine c && g c) a := by
  have e : cntTo (fun c => fine c && g c) (c + 1) = if fine c && g c then cntTo (fun c => fine c && g c) c + 1 else cntTo (fun c => fine c && g c) c := rfl
  have t := cnt_to (fine := fun c => fine c && g c) hac (fun c' h1 h2 => by show (fine c' && g c') = false; rw [nf c' h1 h2]; rfl)
  rw [e, t, hf, Bool.true_and]
theorem cnt_end {fine g : Nat → Bool} {a b : Nat} (hab : a ≤ b) (nf : ∀ c', a ≤ c' → c' < b → fine c' = false) : cntTo (fun c => fine c && g c) b = cntTo (fun c => fine c && g c) a := cnt_to hab (fun c' h1 h2 => by show (fine c' && g c') = false; rw [nf c' h1 h2]; rfl)
theorem WS_next {a c : Nat} (hf : fnW R n sz bk c = true) (F : WF1 M R n bk c) : WS M R n sz bk (c + 1) := Or.inr ⟨c, rfl, F, hf⟩
theorem WK_n (f : ∀ o i, o ≠ 34 → o ≠ 36 → ¬ (o = 32 ∧ (i = 8 ∨ i = 9)) → M' o i = M o i) (K : WK M R n sz bk) : WK M' R n sz bk := WK_ag f K
def tgB (R n : Nat) (i j : Nat) (c : Nat) : Bool := decide (dg R n c i = dg R n c j)
theorem x_tog47 (hD : 3 ≤ D) (B : WB0 R n sz bk) {i j : Nat} (hi : i < n) (hj : j < n) (x1 x2 : Int) : ∀ m a (x6 : Int) (x7 : Nat) (M : pM), R ^ n - a + 1 ≤ m → x7 + m ≤ 1000000 → a ≤ R ^ n → WK M R n sz bk → WS M R n sz bk a → xE D 29 47 [.inr 2, .inl x1, .inl x2, .inl (i : Int), .inl (j : Int), .inl (cntTo (fun c => fnW R n sz bk c && tgB R n i j c) a : Nat), .inl x6, .inl (x7 : Int)] [] M = rI v M' → v = (cntTo (fun c => fnW R n sz bk c && tgB R n i j c) (R ^ n) : Nat) := by
  intro m
  induction m with
  | zero => intro a x6 x7 M hm; omega
  | succ m ih =>
    intro a x6 x7 M hm hx ha K F e
    have b3 := B.2.2.1
    have b2 := B.2.1
    obtain ⟨N, f, r⟩ := x_nextS (d := D) hD K B F
    rw [L_X_together_47, if_neg (by rw [le32_iff] <;> omega)] at e
    rcases r with ⟨r1, c, c1, c2, c3, c4⟩ | ⟨r1, nf⟩
    · obtain ⟨c5, c6, c7, c8⟩ := id c4
      have K1 := WK_n f K
      have W1 : WS N R n sz bk (c + 1) := WS_next (a := a) c2 c4
      have s := cnt_next (g := tgB R n i j) c1 c3 c2
      have di := (c8.1 i hi)
      have dj := (c8.1 j hj)
      rw [r1, pbI_rI, if_neg (by decide), c_numberAt_36n (by omega) (by omega), pbI_rI, c_numberAt_36n (by omega) (by omega), pbI_rI, di.1, dj.1, show ((x7 : Int) + 1) = ((x7 + 1 : Nat) : Int) by omega] at e
      by_cases z : dg R n c i = dg R n c j
      · rw [if_neg (fun w => w (by rw [z]))] at e
        rw [show tgB R n i j c = true from decide_eq_true z, if_pos rfl] at s
        refine ih (c + 1) (x6 + 1) (x7 + 1) N (by omega) (by omega) (by omega) K1 W1 ?_
        rw [s, Int.natCast_add]; exact e
      · rw [if_pos (by rw [eq32_iff] <;> omega), Int.add_zero] at e
        rw [show tgB R n i j c = false from decide_eq_false z, if_neg (by decide)] at s
        refine ih (c + 1) (x6 + 1) (x7 + 1) N (by omega) (by omega) (by omega) K1 W1 ?_
        rw [s]; exact e
    · rw [r1, pbI_rI, if_pos (by decide)] at e
      obtain ⟨_, -, e⟩ := pbN_inv e
      obtain ⟨_, -, e⟩ := pbN_inv e
      rw [cnt_end ha nf]
      exact (rI_inj e).1.symm
theorem m_tog27 (hD : 3 ≤ D) (W : WF G) (hW : hR G ^ nC G ≤ 20000) {s t : Nat} (hs : s < hT G) (ht : t < hT G) : ∀ m a (x4 : Int) (M : pM), hR G ^ nC G - a + 1 ≤ m → a ≤ hR G ^ nC G → SR M G a → xE D 243 27 [.inr 62, .inl (s : Int), .inl (t : Int), .inl (cntTo (fun c => fnG G c && tgB (hR G) (nC G) (oOf G s) (oOf G t) c) a : Nat), .inl x4] [] M = rI y M2 → y = (cntTo (fun c => fnG G c && tgB (hR G) (nC G) (oOf G s) (oOf G t) c) (hR G ^ nC G) : Nat) := by
  have w1 := W.1
  have w2 := W.2.1
  intro m
  induction m with
  | zero => intro a x4 M hm; omega
  | succ m ih =>
    intro a x4 M hm ha S e
    obtain ⟨N, n1, g1, r⟩ := m_nextG (d := D) (by omega) W hW ha S
    rw [L_M_together_27] at e
    rcases r with ⟨r1, c, c1, c2, c3, c4, c5, c6⟩ | ⟨r1, nf⟩
    · have s' := cnt_next (g := tgB (hR G) (nC G) (oOf G s) (oOf G t)) c1 c4 c3
      have h1 : 1 ≤ hR G := by
        have := (W.2.2.2.2.2.2.2.1 s hs).2.2.2
        omega
      have ds := dg_lt (R := hR G) (C := nC G) (code := c) h1 (oOf G s)
      have dt := dg_lt (R := hR G) (C := nC G) (code := c) h1 (oOf G t)
      rw [r1, pbI_rI, if_neg (by decide), if_pos (by omega), if_pos (by omega), Int.toNat_natCast, Int.toNat_natCast, c6 s hs, c6 t ht] at e
      unfold plG at e
      by_cases z : dg (hR G) (nC G) c (oOf G s) = dg (hR G) (nC G) c (oOf G t)
      · rw [if_neg (fun w => w (by rw [z]))] at e
        rw [show tgB (hR G) (nC G) (oOf G s) (oOf G t) c = true from decide_eq_true z, if_pos rfl] at s'
        refine ih (c + 1) (x4 + 1) N (by omega) (by omega) c5 ?_
        rw [s', Int.natCast_add]; exact e
      · rw [if_pos (by rw [eq32_iff] <;> omega), Int.add_zero] at e
        rw [show tgB (hR G) (nC G) (oOf G s) (oOf G t) c = false from decide_eq_false z, if_neg (by decide)] at s'
        refine ih (c + 1) (x4 + 1) N (by omega) (by omega) c5 ?_
        rw [s']; exact e
    · rw [r1, pbI_rI, if_pos (by decide)] at e
      obtain ⟨_, -, e⟩ := pbN_inv e
      rw [cnt_end ha nf]
      exact (rI_inj e).1.symm
theorem fnG_f : fnW (hR G) (nC G) (G 1) (bkG G) = fnG G := funext fnG_bk
theorem kc_together (R : RI0 M) (C : CI M) (K : CK M) (R1 : RI0 M1) {a1 a2 : Int} (h1 : -2147483648 ≤ a1 ∧ a1 ≤ 2147483647) (h2 : -2147483648 ≤ a2 ∧ a2 ≤ 2147483647) (e1 : xF 1000 29 [.inr 2, .inl a1, .inl a2] M = rI v M1) (f1 : Fr w1 M M1) (k1 : okW cm cmo w1 = true) (e2 : xF 1000 243 [.inr 62, .inl a1, .inl a2] M1 = rI y M2) : v = y := by
  obtain ⟨G, X, Y⟩ := C
  obtain ⟨W, -⟩ := ci_facts R X Y
  have w2 := W.2.1
  have C := CK_G K X.1
  have t1 : xF (998 + 1 + 1) 29 [.inr 2, .inl a1, .inl a2] M = rI v M1 := e1
  have t2 : xF (998 + 1 + 1) 243 [.inr 62, .inl a1, .inl a2] M1 = rI y M2 := e2
  have Y1 := MG_thr (MG_Fr f1 k1 Y)
  have gT := gM_thr R1.1
  rw [T_X_together, c_isThing7 (by omega) W X.1 (by omega) (by omega), pbI_rI, ite01p] at t1
  rw [T_M_together, m_isThing (by omega) Y1.1.2.1 (by omega) (by omega) (by omega), pbI_rI, ite01p] at t2
  by_cases b1 : 0 ≤ a1 ∧ a1 < (hT G : Int)
  · rw [if_pos b1, c_isThing7 (by omega) W X.1 (by omega) (by omega), pbI_rI, ite01p] at t1
    rw [if_pos b1, m_isThing (by omega) Y1.1.2.1 (by omega) (by omega) (by omega), pbI_rI, ite01p] at t2
    by_cases b2 : 0 ≤ a2 ∧ a2 < (hT G : Int)
    · rw [if_pos b2] at t1 t2
      by_cases b3 : a1 = a2
      · rw [if_neg (fun w => w (by rw [b3]))] at t1 t2
        rw [← (rI_inj t1).1, ← (rI_inj t2).1]
      · obtain ⟨s, rfl⟩ := natI b1.1
        obtain ⟨t, rfl⟩ := natI b2.1
        have ne : ¬ eq32 (s : Int) (t : Int) := by rw [eq32_iff] <;> omega
        rw [if_pos ne] at t1 t2
        obtain ⟨q1, q2⟩ := x_tooMany (d := 998 + 1) (by omega) W X.1 C
        obtain ⟨N, g2, fN, p1, p2⟩ := m_tooMG (d := 998 + 1) (by omega) gT W Y1.1 (by rw [pset_ne2 (by decide)]; exact R1.2.1)
        rcases Classical.em (tmG G) with q | q
        · rw [q1 q, pbI_rI, if_neg (by decide)] at t1
          rw [p1 q, pbI_rI, if_neg (by decide)] at t2
          rw [← (rI_inj t1).1, ← (rI_inj t2).1]
        · have hW : hR G ^ nC G ≤ 20000 := by unfold tmG at q; omega
          obtain ⟨p3, p4⟩ := p2 q
          obtain ⟨N1, s1, s2, s3, s4, s5⟩ := x_startG (d := 998 + 1) (by omega) W X.1 C
          have os := (oOf_in W (show s < hT G by omega)).1
          have ot := (oOf_in W (show t < hT G by omega)).1
          have a : v = (cntTo (fun c => fnW (hR G) (nC G) (G 1) (bkG G) c && tgB (hR G) (nC G) (oOf G s) (oOf G t) c) (hR G ^ nC G) : Nat) := by
            obtain ⟨v4, M3, z1, z2⟩ := pbI_inv s1
            rw [q2 q, pbI_rI, if_pos (by decide), if_pos (by omega), if_pos (by omega), z1, pbI_rI, z2, pbN_rV, Int.toNat_natCast, Int.toNat_natCast, C.2.2 s (by omega), C.2.2 t (by omega)] at t1
            exact x_tog47 (D := 998 + 1) (by omega) (WB_G W q) os ot _ _ (hR G ^ nC G + 1) 0 0 0 N1 (by omega) (by omega) (Nat.zero_le _) s2 (Or.inl ⟨rfl, s3⟩) t1
          rw [fnG_f] at a
          have b : y = (cntTo (fun c => fnG G c && tgB (hR G) (nC G) (oOf G s) (oOf G t) c) (hR G ^ nC G) : Nat) := by
            rw [p3, pbI_rI, if_pos (by decide), T_M_beginRows, pbN_rV] at t2
            exact m_tog27 (D := 998 + 1) (by omega) W hW (by omega) (by omega) (hR G ^ nC G + 1) 0 0 _ (by omega) (Nat.zero_le _) p4 t2
          rw [a, b]
    · rw [if_neg b2] at t1 t2
      rw [← (rI_inj t1).1, ← (rI_inj t2).1]
  · rw [if_neg b1] at t1 t2
    rw [← (rI_inj t1).1, ← (rI_inj t2).1]
end TGS
/-! may: what it answers, on both sides -/
section MAY
variable {D d R n : Nat} {M M' M1 M2 G h : pM} {w1 : List (Nat × Nat)} {v y : Int} {sz bk : Nat → Int}
def orB (fine : Nat → Bool) (g : Nat → Nat) : Nat → Nat
  | 0 => 0
  | c + 1 => if fine c then orB fine g c ||| 2 ^ g c else orB fine g c
theorem orB_to {fine : Nat → Bool} {g : Nat → Nat} {a b : Nat} (hab : a ≤ b) (h : ∀ c, a ≤ c → c < b → fine c = false) : orB fine g b = orB fine g a := by
  obtain ⟨m, rfl⟩ : ∃ m, b = a + m := ⟨b - a, by omega⟩
  clear hab
  induction m with
  | zero => rfl
  | succ m ih =>
    have e : orB fine g (a + (m + 1)) = if fine (a + m) then orB fine g (a + m) ||| 2 ^ g (a + m) else orB fine g (a + m) := rfl
    rw [e, h (a + m) (by omega) (by omega), if_neg (by decide)]
    exact ih (fun c h1 h2 => h c h1 (by omega))
theorem orB_lt {fine : Nat → Bool} {g : Nat → Nat} (hg : ∀ c, g c < 6) : ∀ c, orB fine g c < 64
  | 0 => show 0 < 64 by decide
  | c + 1 => by
    have ih := orB_lt (fine := fine) hg c
    have p : 2 ^ g c < 2 ^ 6 := Nat.pow_lt_pow_right (by decide) (hg c)
    unfold orB
    split
    · exact Nat.or_lt_two_pow (n := 6) ih p
    · exact ih
theorem orB_next {fine : Nat → Bool} {g : Nat → Nat} {a c : Nat} (hac : a ≤ c) (nf : ∀ c', a ≤ c' → c' < c → fine c' = false) (hf : fine c = true) : orB fine g (c + 1) = orB fine g a ||| 2 ^ g c := by
  have e : orB fine g (c + 1) = if fine c then orB fine g c ||| 2 ^ g c else orB fine g c := rfl
  rw [e, hf, if_pos rfl, orB_to hac nf]
theorem jor_one {a k : Nat} (ha : a < 64) (hk : k < 6) : jor (a : Int) (jshl 1 (k : Int)) = ((a ||| 2 ^ k : Nat) : Int) := by
  have p : 2 ^ k < 2 ^ 6 := Nat.pow_lt_pow_right (by decide) hk
  rw [jshl_one k (by omega), jor_nat (by omega) (by omega)]
theorem x_may38 (hD : 3 ≤ D) (B : WB0 R n sz bk) {i : Nat} (hi : i < n) (x2 : Int) : ∀ m a (x4 : Int) (x5 : Nat) (y6 : pV) (M : pM), R ^ n - a + 1 ≤ m → x5 + m ≤ 1000000 → a ≤ R ^ n → WK M R n sz bk → WS M R n sz bk a → xE D 28 38 [.inr 2, .inl (i : Int), .inl x2, .inl (orB (fnW R n sz bk) (fun c => dg R n c i) a : Nat), .inl x4, .inl (x5 : Int), y6] [] M = rI v M' → v = (orB (fnW R n sz bk) (fun c => dg R n c i) (R ^ n) : Nat) := by
  intro m
  induction m with
  | zero => intro a x4 x5 y6 M hm; omega
  | succ m ih =>
    intro a x4 x5 y6 M hm hx ha K F e
    have b3 := B.2.2.1
    have b2 := B.2.1
    have h1 : 1 ≤ R := by rcases B.1 with h | h; exact h; omega
    have ol := orB_lt (fine := fnW R n sz bk) (g := fun c => dg R n c i) (fun c => Nat.lt_of_lt_of_le (dg_lt h1 i) b2) a
    obtain ⟨N, f, r⟩ := x_nextS (d := D) hD K B F
    rw [L_X_may_38, if_neg (by rw [le32_iff] <;> omega)] at e
    rcases r with ⟨r1, c, c1, c2, c3, c4⟩ | ⟨r1, nf⟩
    · obtain ⟨c5, c6, c7, c8⟩ := id c4
      have K1 := WK_n f K
      have W1 : WS N R n sz bk (c + 1) := WS_next (a := a) c2 c4
      have s := orB_next (g := fun c => dg R n c i) c1 c3 c2
      have di := (c8.1 i hi)
      rw [r1, pbI_rI, if_neg (by decide), if_pos (by omega), Int.toNat_natCast, di.1, jor_one ol (by omega), show ((x5 : Int) + 1) = ((x5 + 1 : Nat) : Int) by omega, ← s] at e
      split at e
      · exact ih (c + 1) (x4 + 0) (x5 + 1) _ N (by omega) (by omega) (by omega) K1 W1 e
      · exact ih (c + 1) (x4 + 1) (x5 + 1) _ N (by omega) (by omega) (by omega) K1 W1 e
    · rw [r1, pbI_rI, if_pos (by decide)] at e
      obtain ⟨_, -, e⟩ := pbN_inv e
      obtain ⟨_, -, e⟩ := pbN_inv e
      rw [orB_to ha nf]
      exact (rI_inj e).1.symm
theorem m_may34 (hD : 3 ≤ D) (W : WF G) (hW : hR G ^ nC G ≤ 20000) {t : Nat} (ht : t < hT G) (x1 : Int) : ∀ m a (x4 : Int) (M : pM), hR G ^ nC G - a + 1 ≤ m → a ≤ hR G ^ nC G → SR M G a → xE D 242 34 [.inr 62, .inl x1, .inl (t : Int), .inl (orB (fnG G) (fun c => dg (hR G) (nC G) c (oOf G t)) a : Nat), .inl x4] [] M = rI y M2 → y = (orB (fnG G) (fun c => dg (hR G) (nC G) c (oOf G t)) (hR G ^ nC G) : Nat) := by
  have w1 := W.1
  have w2 := W.2.1
  have h1 : 1 ≤ hR G := by
    have := (W.2.2.2.2.2.2.2.1 t ht).2.2.2
    omega
  intro m
  induction m with
  | zero => intro a x4 M hm; omega
  | succ m ih =>
    intro a x4 M hm ha S e
    have ol := orB_lt (fine := fnG G) (g := fun c => dg (hR G) (nC G) c (oOf G t)) (fun c => Nat.lt_of_lt_of_le (dg_lt h1 _) w1) a
    obtain ⟨N, n1, g1, r⟩ := m_nextG (d := D) (by omega) W hW ha S
    rw [L_M_may_34] at e
    rcases r with ⟨r1, c, c1, c2, c3, c4, c5, c6⟩ | ⟨r1, nf⟩
    · have s := orB_next (g := fun c => dg (hR G) (nC G) c (oOf G t)) c1 c4 c3
      have dt := dg_lt (R := hR G) (C := nC G) (code := c) h1 (oOf G t)
      rw [r1, pbI_rI, if_neg (by decide), if_pos (by omega), if_pos (by omega), if_pos (by omega), Int.toNat_natCast, c6 t ht] at e
      unfold plG at e
      rw [jor_one ol (by omega), ← s] at e
      split at e
      · exact ih (c + 1) (x4 + 0) N (by omega) (by omega) c5 e
      · exact ih (c + 1) (x4 + 1) N (by omega) (by omega) c5 e
    · rw [r1, pbI_rI, if_pos (by decide)] at e
      obtain ⟨_, -, e⟩ := pbN_inv e
      rw [orB_to ha nf]
      exact (rI_inj e).1.symm
theorem cmk_has (W : WF h) : ∀ k, k ≤ hT h → ∀ i, i < (cgA h k).1 → ∃ t, t < k ∧ (cmk h k i).testBit t = true
  | 0, _, i, hi => absurd hi (Nat.not_lt_zero i)
  | k + 1, hk, i, hi => by
    have ec : cmk h (k + 1) i = if (cgA h k).2.testBit k = true ∧ i = (cgA h k).1 then cgM h k else cmk h k i := rfl
    rw [ec]
    rw [cgA_succ] at hi
    cases q : (cgA h k).2.testBit k with
    | false =>
      rw [q, if_neg (by decide)] at hi
      rw [if_neg (fun z => by cases z.1)]
      obtain ⟨t, t1, t2⟩ := cmk_has W k (by omega) i hi
      exact ⟨t, by omega, t2⟩
    | true =>
      rw [q, if_pos rfl] at hi
      by_cases y : i = (cgA h k).1
      · rw [if_pos ⟨rfl, y⟩, cg_M W]
        exact ⟨k, Nat.lt_succ_self k, fcX_bit (by rw [pow_bit]; exact decide_eq_true rfl)⟩
      · rw [if_neg (fun z => y z.2)]
        obtain ⟨t, t1, t2⟩ := cmk_has W k (by omega) i (by have : i < (cgA h k).1 + 1 := hi; omega)
        exact ⟨t, by omega, t2⟩
/-- the first thing of a clump -/
theorem ntz_cOf (W : WF h) {i : Nat} (hi : i < nC h) : ∃ t, t < hT h ∧ ntz (cOf h i) = (t : Int) ∧ oOf h t = i := by
  have w2 := W.2.1
  obtain ⟨t, t1, t2⟩ := cmk_has W (hT h) (Nat.le_refl _) i hi
  have t2 : (cOf h i).testBit t = true := t2
  have n0 : cOf h i ≠ 0 := fun z => by rw [z, Nat.zero_testBit] at t2; cases t2
  unfold ntz
  rw [if_neg n0]
  rcases firstN_spec (cOf h i).testBit 10 0 with ⟨-, no⟩ | ⟨j, e, j0, j1, j2, j3⟩
  · rw [no t (by omega) (by omega)] at t2; cases t2
  · have jt : j ≤ t := by
      rcases Nat.lt_or_ge t j with u | u
      · rw [j3 t (by omega) u] at t2; cases t2
      · exact u
    exact ⟨j, by omega, e, (oOf_iff W (by omega) hi).mp j2⟩
theorem kc_may (R : RI0 M) (C : CI M) (K : CK M) (R1 : RI0 M1) {a1 : Int} (h1 : -2147483648 ≤ a1 ∧ a1 ≤ 2147483647) (e1 : xF 1000 28 [.inr 2, .inl a1] M = rI v M1) (f1 : Fr w1 M M1) (k1 : okW cm cmo w1 = true) (e2 : xF 1000 242 [.inr 62, .inl a1] M1 = rI y M2) : v = y := by
  obtain ⟨G, X, Y⟩ := C
  obtain ⟨W, -⟩ := ci_facts R X Y
  have w2 := W.2.1
  have n10 := nC_le W
  have C := CK_G K X.1
  have t1 : xF (998 + 1 + 1) 28 [.inr 2, .inl a1] M = rI v M1 := e1
  have t2 : xF (998 + 1 + 1) 242 [.inr 62, .inl a1] M1 = rI y M2 := e2
  have Y1 := MG_thr (MG_Fr f1 k1 Y)
  have gT := gM_thr R1.1
  obtain ⟨N0, u1, u0, u2, u3, -⟩ := m_fcF (d := 998 + 1) (by omega) gT W Y1.1
  have Y0 : MG N0 G := MG_Fr u2 (by decide) Y1
  rw [T_X_may, C.1] at t1
  rw [T_M_may, u1, pbN_rV, u3, m_in (by omega), pbI_rI] at t2
  by_cases b0 : a1 < 0
  · rw [if_pos (by rw [lt32_iff] <;> omega)] at t1
    rw [if_pos (Or.inl (by rw [lt32_iff] <;> omega)), if_neg (fun z => z (by decide))] at t2
    rw [← (rI_inj t1).1, ← (rI_inj t2).1]
  · by_cases b1 : a1 < (nC G : Int)
    · obtain ⟨i, rfl⟩ : ∃ i : Nat, a1 = i := natI (by omega)
      have hi : i < nC G := by omega
      obtain ⟨t, ht, en, eo⟩ := ntz_cOf W hi
      rw [if_neg (by rw [lt32_iff] <;> omega), if_pos (by rw [lt32_iff] <;> omega)] at t1
      have hin : ¬ (lt32 (i : Int) 0 ∨ lt32 ((nC G : Int) - 1) (i : Int)) := fun z => by
        rcases z with z | z
        · rw [lt32_iff] at z <;> omega
        · rw [lt32_iff] at z <;> omega
      rw [if_neg hin, if_pos (by decide)] at t2
      obtain ⟨q1, q2⟩ := x_tooMany (d := 998 + 1) (by omega) W X.1 C
      obtain ⟨N, g2, fN, p1, p2⟩ := m_tooMG (d := 998 + 1) (by omega) u0 W Y0.1 (by rw [u2 60 38 (by decide), pset_ne2 (by decide)]; exact R1.2.1)
      rcases Classical.em (tmG G) with q | q
      · rw [q1 q, pbI_rI, if_neg (by decide)] at t1
        rw [p1 q, pbI_rI, if_neg (by decide)] at t2
        rw [← (rI_inj t1).1, ← (rI_inj t2).1]
      · have hW : hR G ^ nC G ≤ 20000 := by unfold tmG at q; omega
        obtain ⟨p3, p4⟩ := p2 q
        obtain ⟨N1, s1, s2, s3, s4, s5⟩ := x_startG (d := 998 + 1) (by omega) W X.1 C
        have a : v = (orB (fnG G) (fun c => dg (hR G) (nC G) c i) (hR G ^ nC G) : Nat) := by
          obtain ⟨v4, M3, z1, z2⟩ := pbI_inv s1
          rw [q2 q, pbI_rI, if_pos (by decide), c_leastOf (by omega) W C hi, pbI_rI, en, c_numberAt_13n (by omega) (by omega), pbI_rI, z1, pbI_rI, z2, pbN_rV] at t1
          have := x_may38 (D := 998 + 1) (by omega) (WB_G W q) hi _ (hR G ^ nC G + 1) 0 0 0 _ N1 (by omega) (by omega) (Nat.zero_le _) s2 (Or.inl ⟨rfl, s3⟩) t1
          rw [fnG_f] at this
          exact this
        have b : y = (orB (fnG G) (fun c => dg (hR G) (nC G) c i) (hR G ^ nC G) : Nat) := by
          have c73 : N 73 i = (cOf G i : Int) := by
            have := p4.2.2.2.2.2.2.2 i hi
            rw [pset_ne (by decide)] at this
            exact this
          rw [p3, pbI_rI, if_pos (by decide), if_pos (by omega), Int.toNat_natCast, c73, j_ntz (by omega) (cOf_lt W i), pbI_rI, en, T_M_beginRows, pbN_rV] at t2
          have := m_may34 (D := 998 + 1) (by omega) W hW ht _ (hR G ^ nC G + 1) 0 0 _ (by omega) (Nat.zero_le _) p4 t2
          rw [eo] at this
          exact this
        rw [a, b]
    · rw [if_neg (by rw [lt32_iff] <;> omega), if_neg (by rw [lt32_iff] <;> omega)] at t1
      rw [if_pos (Or.inr (by rw [lt32_iff] <;> omega)), if_neg (fun z => z (by decide))] at t2
      rw [← (rI_inj t1).1, ← (rI_inj t2).1]
end MAY
/-! the class chooses by the bulk in a room -/
section BBK
variable {D d R n : Nat} {M M' M1 M2 G h : pM} {w1 : List (Nat × Nat)} {v y : Int} {sz bk : Nat → Int}
def tbK (G : pM) (b : Nat) (e : Int) (k i : Nat) : Int := if i % 6 = b ∧ i / 6 < k then e * blk G (cOf G (i / 6)) else 0
def szB (G : pM) (b : Nat) (m : Int) (r : Nat) : Int := if r = b then G 1 b + m else G 1 r
theorem svT_bb (hR6 : R ≤ 6) (h1 : 1 ≤ R) (b : Nat) (e : Int) (c : Nat) : svT R (nC G) (tbK G b e (nC G)) c = e * wlq (fun i => blk G (cOf G i)) (dg R (nC G) c) b (nC G) := by
  have key : ∀ k, k ≤ nC G → sumTo (fun j => tbK G b e (nC G) (6 * j + dg R (nC G) c j)) k = e * wlq (fun i => blk G (cOf G i)) (dg R (nC G) c) b k := by
    intro k
    induction k with
    | zero => intro _; exact (Int.mul_zero e).symm
    | succ k ih =>
      intro hk
      have dl := dg_lt (R := R) (C := nC G) (code := c) h1 k
      have e1 : sumTo (fun j => tbK G b e (nC G) (6 * j + dg R (nC G) c j)) (k + 1) = sumTo (fun j => tbK G b e (nC G) (6 * j + dg R (nC G) c j)) k + tbK G b e (nC G) (6 * k + dg R (nC G) c k) := rfl
      rw [e1, ih (by omega), wlq_succ, Int.mul_add]
      congr 1
      unfold tbK
      rw [show (6 * k + dg R (nC G) c k) % 6 = dg R (nC G) c k by omega, show (6 * k + dg R (nC G) c k) / 6 = k by omega]
      by_cases z : dg R (nC G) c k = b
      · rw [if_pos ⟨z, by omega⟩, if_pos z]
      · rw [if_neg (fun w => z w.1), if_neg z, Int.mul_zero]
  exact key (nC G) (Nat.le_refl _)
theorem x_bb16 (hD : 3 ≤ D) (W : WF G) {b : Nat} (hb : b < hR G) (x2 e : Int) : ∀ m k (M : pM), k + m = nC G → XH M G → CL M G → (∀ i, i < 60 → M 37 i = tbK G b e k i) → ∃ M', xE (D + 1) 60 16 [.inr 2, .inl (b : Int), .inl x2, .inl e, .inl (k : Int)] [] M = xE (D + 1) 60 16 [.inr 2, .inl (b : Int), .inl x2, .inl e, .inl (nC G : Int)] [] M' ∧ (∀ i, i < 60 → M' 37 i = tbK G b e (nC G) i) ∧ ∀ o i, o ≠ 37 → M' o i = M o i
  | 0, k, M, hk, X, C, t => by
    have : k = nC G := by omega
    rw [this] at t ⊢
    exact ⟨M, rfl, t, fun _ _ _ => rfl⟩
  | m + 1, k, M, hk, X, C, t => by
    have w1 := W.1
    have n10 := nC_le W
    have bl := blk_range W (cOf G k)
    have t0 : M 37 (6 * k + b) = 0 := by
      rw [t _ (by omega)]
      unfold tbK
      rw [if_neg (by omega)]
    have lo : ∀ o i, o < 32 → pset M 37 (6 * k + b) (0 + e * blk G (cOf G k)) o i = M o i := fun o i ho => pset_ne (by omega)
    obtain ⟨M', e1, a1, f1⟩ := x_bb16 hD W hb x2 e m (k + 1) (pset M 37 (6 * k + b) (0 + e * blk G (cOf G k))) (by omega) (XH_hi lo X) (CL_hi lo C) (fun i hi => by
      by_cases z : i = 6 * k + b
      · rw [z, pset_eq]
        unfold tbK
        rw [show (6 * k + b) % 6 = b by omega, show (6 * k + b) / 6 = k by omega, if_pos ⟨rfl, by omega⟩, Int.zero_add]
      · rw [pset_ne2 z, t i hi]
        unfold tbK
        by_cases z2 : i % 6 = b ∧ i / 6 < k
        · rw [if_pos z2, if_pos ⟨z2.1, by omega⟩]
        · rw [if_neg z2, if_neg (fun w => z2 ⟨w.1, by
            have := w.1
            have := w.2
            omega⟩)])
    refine ⟨M', ?_, a1, fun o i ho => by rw [f1 o i ho, pset_ne ho]⟩
    rw [L_X_chooseByBulk_16, C.1, if_neg (by rw [le32_iff] <;> omega), c_clumpBulk (by omega) W X C (by omega), pbI_rI, T_Walk_add, if_neg (by rw [lt32_iff] <;> omega), if_neg (by rw [le32_iff] <;> omega), if_neg (by rw [lt32_iff] <;> omega), if_neg (by rw [le32_iff] <;> omega), if_pos (by omega), if_pos (by omega), show ((k : Int) * 6 + (b : Int)).toNat = 6 * k + b by omega, t0, pbN_rV, show ((k : Int) + 1) = ((k + 1 : Nat) : Int) by omega]
    exact e1
theorem x_byBulk (hd : 6 ≤ d) (W : WF G) (q : ¬ tmG G) (X : XH M G) (C : CL M G) {b : Nat} (hb : b < hR G) {m e : Int} (hm : -5000 ≤ m ∧ m ≤ 5000) (he : e = 1 ∨ e = -1) : ∃ M', xF d 60 [.inr 2, .inl (b : Int), .inl m, .inl e] M = rI (if (chF (fnW (hR G) (nC G) (szB G b m) (bkG G)) (svT (hR G) (nC G) (tbK G b e (nC G))) (hR G ^ nC G)).1 = 0 then 0 else 1) M' ∧ CHr (hR G) (nC G) (szB G b m) (bkG G) (tbK G b e (nC G)) (hR G ^ nC G) M' ∧ ∀ o i, o < 32 → M' o i = M o i := by
  obtain ⟨D, rfl, hD⟩ := dsucc hd
  obtain ⟨D', rfl, hD'⟩ := dsucc (show 1 ≤ D by omega)
  have w1 := W.1
  have B := WB_G W q
  obtain ⟨N1, s1, s2, s3, s4, s5⟩ := x_startG (d := D' + 1) (by omega) W X C
  obtain ⟨v4, M3, z1, z2⟩ := pbI_inv s1
  have sb := W.2.2.2.1 b hb
  have k33 : N1 33 b = G 1 b := s2.2.2.1 b hb
  have lo1 : ∀ o i, o < 32 → pset N1 33 b (G 1 b - -m) o i = M o i := fun o i ho => by rw [pset_ne (by omega), s5 o i (by omega)]
  obtain ⟨N2, e2, a2, f2⟩ := x_bb16 (D := D') (by omega) W hb m e (nC G) 0 (pset N1 33 b (G 1 b - -m)) (by omega) (XH_hi lo1 X) (CL_hi lo1 C) (fun i hi => by
    rw [pset_ne (by decide), s4 i hi]
    unfold tbK
    rw [if_neg (by omega)])
  have K2 : WK N2 (hR G) (nC G) (szB G b m) (bkG G) := by
    obtain ⟨k1, k2, k3, k4⟩ := s2
    refine ⟨by rw [f2 32 6 (by decide), pset_ne (by decide)]; exact k1, by rw [f2 32 7 (by decide), pset_ne (by decide)]; exact k2, fun r hr => ?_, fun j hj => by rw [f2 35 j (by decide), pset_ne (by decide)]; exact k4 j hj⟩
    rw [f2 33 r (by decide)]
    unfold szB
    by_cases z : r = b
    · rw [z, pset_eq, if_pos rfl]; omega
    · rw [pset_ne2 z, if_neg z]; exact k3 r hr
  have F2 : WF0 N2 (hR G) (nC G) := by
    obtain ⟨k1, k2, k3, k4⟩ := s3
    exact ⟨by rw [f2 32 8 (by decide), pset_ne (by decide)]; exact k1, by rw [f2 32 9 (by decide), pset_ne (by decide)]; exact k2, fun j hj => by rw [f2 36 j (by decide), pset_ne (by decide)]; exact k3 j hj, fun r hr => by rw [f2 34 r (by decide), pset_ne (by decide)]; exact k4 r hr⟩
  have B2 : WB0 (hR G) (nC G) (szB G b m) (bkG G) := by
    obtain ⟨b1, b2, b3, b4, b5, b6⟩ := B
    refine ⟨b1, b2, b3, fun r hr => ?_, b5, b6⟩
    have := W.2.2.2.1 r hr
    unfold szB
    split <;> omega
  have lo2 : ∀ o i, o < 32 → N2 o i = M o i := fun o i ho => by rw [f2 o i (by omega), lo1 o i ho]
  have hv : ∀ c, -100000000 ≤ svT (hR G) (nC G) (tbK G b e (nC G)) c ∧ svT (hR G) (nC G) (tbK G b e (nC G)) c ≤ 100000000 := fun c => by
    have n10 := nC_le W
    have s := sumTo_range (f := fun i => if dg (hR G) (nC G) c i = b then blk G (cOf G i) else 0) (lo := 0) (hi := 990) (n := nC G) (fun i _ => by
      have := blk_range W (cOf G i)
      show 0 ≤ (if dg (hR G) (nC G) c i = b then blk G (cOf G i) else 0) ∧ (if dg (hR G) (nC G) c i = b then blk G (cOf G i) else 0) ≤ 990
      split <;> omega)
    have s2 : ((nC G : Nat) : Int) * 0 ≤ wlq (fun i => blk G (cOf G i)) (dg (hR G) (nC G) c) b (nC G) ∧ wlq (fun i => blk G (cOf G i)) (dg (hR G) (nC G) c) b (nC G) ≤ (nC G : Int) * 990 := s
    rw [svT_bb w1 (by omega)]
    rcases he with rfl | rfl
    · rw [Int.one_mul]; omega
    · rw [Int.neg_mul, Int.one_mul]; omega
  obtain ⟨N3, c1, c2, c3⟩ := x_choose (d := D' + 1) (by omega) B2 hv K2 F2 a2
  refine ⟨N3, ?_, c2, fun o i ho => by rw [c3 o i (by omega) (by omega) (by omega) (by omega), lo2 o i ho]⟩
  have CN2 := CL_hi lo2 C
  have n10 := nC_le W
  rw [T_X_chooseByBulk, z1, pbI_rI, z2, pbN_rV, T_Walk_lessen, if_neg (by rw [lt32_iff] <;> omega), s2.1, if_neg (by rw [le32_iff] <;> omega), if_pos (by omega), if_pos (by omega), Int.toNat_natCast, k33, pbN_rV, show (.inl 0 : pV) = .inl ((0 : Nat) : Int) from rfl, e2, L_X_chooseByBulk_16, CN2.1, if_pos (by rw [le32_iff] <;> omega), c1, pbI_rI]
  by_cases z : (chF (fnW (hR G) (nC G) (szB G b m) (bkG G)) (svT (hR G) (nC G) (tbK G b e (nC G))) (hR G ^ nC G)).1 = 0
  · rw [if_pos z, if_pos (Or.inl rfl)]
  · rw [if_neg z, if_pos (Or.inr rfl)]
end BBK
/-! fullest: what it answers, on both sides -/
section FUL
variable {D d R n : Nat} {M M' M1 M2 G h : pM} {w1 : List (Nat × Nat)} {v y : Int} {sz bk : Nat → Int} {fine : Nat → Bool} {val : Nat → Int}
/-- the load of a room by a code -/
def ldG (G : pM) (b c : Nat) : Int := wlq (fun i => blk G (cOf G i)) (dg (hR G) (nC G) c) b (nC G)
theorem ldG_range (W : WF G) (b c : Nat) : 0 ≤ ldG G b c ∧ ldG G b c ≤ 9900 := by
  have n10 := nC_le W
  have s := sumTo_range (f := fun i => if dg (hR G) (nC G) c i = b then blk G (cOf G i) else 0) (lo := 0) (hi := 990) (n := nC G) (fun i _ => by
    have := blk_range W (cOf G i)
    show 0 ≤ (if dg (hR G) (nC G) c i = b then blk G (cOf G i) else 0) ∧ (if dg (hR G) (nC G) c i = b then blk G (cOf G i) else 0) ≤ 990
    split <;> omega)
  have s2 : ((nC G : Nat) : Int) * 0 ≤ wlq (fun i => blk G (cOf G i)) (dg (hR G) (nC G) c) b (nC G) ∧ wlq (fun i => blk G (cOf G i)) (dg (hR G) (nC G) c) b (nC G) ≤ (nC G : Int) * 990 := s
  unfold ldG
  omega
theorem m_freeG (hd : 1 ≤ d) (W : WF G) {a c : Nat} (S : SR M G a) (h78 : ∀ t, t < hT G → M 78 t = (plG G c t : Int)) {b : Nat} (hb : b < hR G) : xF d 198 [.inr 62, .inr 80, .inl (b : Int)] M = rI (G 1 b - ldG G b c) M := by
  have w1 := W.1
  have w2 := W.2.1
  have X := S.2.1
  have hp : ∀ t, t < hT G → 0 ≤ M 78 t ∧ M 78 t < hR G := fun t ht => by
    have := dg_lt (R := hR G) (C := nC G) (code := c) (by omega) (oOf G t)
    rw [h78 t ht]
    unfold plG
    omega
  have e : blk G (inR G (M 78) (b : Int)) = ldG G b c := by
    unfold ldG
    rw [blk_inR, ← blk_parts W]
    refine sumTo_congr fun t ht => ?_
    rw [h78 t ht]
    unfold plG
    by_cases z : dg (hR G) (nC G) c (oOf G t) = b
    · rw [if_pos z, if_pos (by omega)]
    · rw [if_neg z, if_neg (by omega)]
  rw [m_freeIn_78 hd X.2.1 w2 (by omega), free_same W X hp hb, e]
theorem chF_next {a c : Nat} (hac : a ≤ c) (nf : ∀ c', a ≤ c' → c' < c → fine c' = false) (hf : fine c = true) : chF fine val (c + 1) = if (chF fine val a).1 = 0 ∨ (chF fine val a).2.1 < val c then ((chF fine val a).1 + 1, val c, c) else ((chF fine val a).1 + 1, (chF fine val a).2) := by
  rw [← chF_to (val := val) hac nf]
  show (if fine c then _ else _) = _
  rw [hf, if_pos rfl]
/-- the greatest value so far, z if there is none -/
def mxV (fine : Nat → Bool) (val : Nat → Int) (z : Int) (a : Nat) : Int := if (chF fine val a).1 = 0 then z else (chF fine val a).2.1
theorem mxV_next {a c : Nat} {z : Int} (hac : a ≤ c) (nf : ∀ c', a ≤ c' → c' < c → fine c' = false) (hf : fine c = true) (hz : z < val c) : mxV fine val z (c + 1) = if mxV fine val z a < val c then val c else mxV fine val z a := by
  unfold mxV
  rw [chF_next hac nf hf]
  by_cases q : (chF fine val a).1 = 0
  · rw [if_pos (Or.inl q), if_pos q, if_pos hz, if_neg (Nat.succ_ne_zero _)]
  · rw [if_neg q]
    by_cases q2 : (chF fine val a).2.1 < val c
    · rw [if_pos (Or.inr q2), if_pos q2, if_neg (Nat.succ_ne_zero _)]
    · rw [if_neg (show ¬ ((chF fine val a).1 = 0 ∨ (chF fine val a).2.1 < val c) from fun w => w.elim q q2), if_neg q2, if_neg (Nat.succ_ne_zero _)]
theorem mxV_end {a b : Nat} {z : Int} (hab : a ≤ b) (nf : ∀ c', a ≤ c' → c' < b → fine c' = false) : mxV fine val z b = mxV fine val z a := by
  unfold mxV
  rw [chF_to hab nf]
theorem mxV_range {lo hi z : Int} (hv : ∀ c, lo ≤ val c ∧ val c ≤ hi) (hz : lo ≤ z ∧ z ≤ hi) : ∀ a, lo ≤ mxV fine val z a ∧ mxV fine val z a ≤ hi := by
  have key : ∀ a, (chF fine val a).1 = 0 ∨ (lo ≤ (chF fine val a).2.1 ∧ (chF fine val a).2.1 ≤ hi) := by
    intro a
    induction a with
    | zero => exact Or.inl rfl
    | succ a ih =>
      unfold chF
      split
      · split
        · exact Or.inr (hv a)
        · rename_i q2
          exact Or.inr (ih.resolve_left (fun w => q2 (Or.inl w)))
      · exact ih
  intro a
  unfold mxV
  split
  · exact hz
  · rename_i q
    exact (key a).resolve_left q
theorem m_ful18 (hD : 3 ≤ D) (W : WF G) (hW : hR G ^ nC G ≤ 20000) {b : Nat} (hb : b < hR G) : ∀ m a (y3 : pV) (M : pM), hR G ^ nC G - a + 1 ≤ m → a ≤ hR G ^ nC G → SR M G a → xE D 244 18 [.inr 62, .inl (b : Int), .inl (mxV (fnG G) (ldG G b) (-1) a), y3] [] M = rI y M2 → y = if mxV (fnG G) (ldG G b) (-1) (hR G ^ nC G) = -1 then -2 else mxV (fnG G) (ldG G b) (-1) (hR G ^ nC G) := by
  have w1 := W.1
  have w2 := W.2.1
  intro m
  induction m with
  | zero => intro a y3 M hm; omega
  | succ m ih =>
    intro a y3 M hm ha S e
    have mr := mxV_range (fine := fnG G) (z := -1) (fun c => (show -1 ≤ ldG G b c ∧ ldG G b c ≤ 9900 by have := ldG_range W b c; omega)) (by omega) a
    obtain ⟨N, n1, g1, r⟩ := m_nextG (d := D) (by omega) W hW ha S
    rw [L_M_fullest_18] at e
    rcases r with ⟨r1, c, c1, c2, c3, c4, c5, c6⟩ | ⟨r1, nf⟩
    · have lr := ldG_range W b c
      have s := mxV_next (val := ldG G b) (z := -1) c1 c4 c3 (by omega)
      have k61 : N 61 b = G 1 b := c5.2.1.2.2.2.1 b hb
      rw [r1, pbI_rI, if_neg (by decide), if_pos (by omega), m_freeG (by omega) W c5 c6 hb, pbI_rI, Int.toNat_natCast, k61, show G 1 b - (G 1 b - ldG G b c) = ldG G b c by omega] at e
      by_cases z : mxV (fnG G) (ldG G b) (-1) a < ldG G b c
      · rw [if_pos z] at s
        obtain ⟨N2, u1, u2, u3⟩ := u_take (d := D) (by omega) g1
        rw [if_pos (by rw [lt32_iff] <;> omega), u1, pbN_rV, ← s] at e
        exact ih (c + 1) _ N2 (by omega) (by omega) (SR_Fr u3 u2 (by decide) c5) e
      · rw [if_neg z] at s
        rw [if_neg (by rw [lt32_iff] <;> omega), ← s] at e
        exact ih (c + 1) _ N (by omega) (by omega) c5 e
    · rw [r1, pbI_rI, if_pos (by decide)] at e
      rw [mxV_end ha nf]
      by_cases z : mxV (fnG G) (ldG G b) (-1) a = -1
      · rw [if_neg (fun w => w (by rw [z]))] at e
        rw [if_pos z]
        exact (rI_inj e).1.symm
      · rw [if_pos (by rw [eq32_iff] <;> omega)] at e
        obtain ⟨_, -, e⟩ := pbN_inv e
        rw [if_neg z]
        exact (rI_inj e).1.symm
theorem szB_0 (b : Nat) : szB G b 0 = G 1 := funext fun r => by
  unfold szB
  split
  · rename_i z; rw [z, Int.add_zero]
  · rfl
theorem kc_fullest (R : RI0 M) (C : CI M) (K : CK M) (R1 : RI0 M1) {a1 : Int} (h1 : -2147483648 ≤ a1 ∧ a1 ≤ 2147483647) (e1 : xF 1000 30 [.inr 2, .inl a1] M = rI v M1) (f1 : Fr w1 M M1) (k1 : okW cm cmo w1 = true) (e2 : xF 1000 244 [.inr 62, .inl a1] M1 = rI y M2) : v = y := by
  obtain ⟨G, X, Y⟩ := C
  obtain ⟨W, -⟩ := ci_facts R X Y
  have hw1 := W.1
  have C := CK_G K X.1
  have t1 : xF (998 + 1 + 1) 30 [.inr 2, .inl a1] M = rI v M1 := e1
  have t2 : xF (998 + 1 + 1) 244 [.inr 62, .inl a1] M1 = rI y M2 := e2
  have Y1 := MG_thr (MG_Fr f1 k1 Y)
  have gT := gM_thr R1.1
  rw [T_X_fullest, c_isRoom7 (by omega) W X.1 (by omega) (by omega), pbI_rI, ite01pn] at t1
  rw [T_M_fullest, m_isRoom (by omega) Y1.1.1 hw1 (by omega) (by omega), pbI_rI, ite01pn] at t2
  by_cases q1 : 0 ≤ a1 ∧ a1 < (hR G : Int)
  · rw [if_pos q1] at t1 t2
    obtain ⟨b, rfl⟩ := natI q1.1
    have hb : b < hR G := by omega
    obtain ⟨qx1, qx2⟩ := x_tooMany (d := 998 + 1) (by omega) W X.1 C
    obtain ⟨N, g2, fN, p1, p2⟩ := m_tooMG (d := 998 + 1) (by omega) gT W Y1.1 (by rw [pset_ne2 (by decide)]; exact R1.2.1)
    rcases Classical.em (tmG G) with q | q
    · rw [qx1 q, pbI_rI, if_neg (by decide)] at t1
      rw [p1 q, pbI_rI, if_neg (by decide)] at t2
      rw [← (rI_inj t1).1, ← (rI_inj t2).1]
    · have hW : hR G ^ nC G ≤ 20000 := by unfold tmG at q; omega
      obtain ⟨p3, p4⟩ := p2 q
      obtain ⟨N3, c1, c2, c3⟩ := x_byBulk (d := 998 + 1) (by omega) W q X.1 C hb (m := 0) (e := 1) (by omega) (Or.inl rfl)
      have ev : svT (hR G) (nC G) (tbK G b 1 (nC G)) = ldG G b := funext fun c => by
        rw [svT_bb hw1 (by omega), Int.one_mul]; rfl
      unfold CHr at c2
      rw [szB_0, fnG_f, ev] at c1 c2
      obtain ⟨c21, c22⟩ := c2
      have mr := mxV_range (fine := fnG G) (z := -1) (fun c => (show -1 ≤ ldG G b c ∧ ldG G b c ≤ 9900 by have := ldG_range W b c; omega)) (by omega) (hR G ^ nC G)
      have a : v = if mxV (fnG G) (ldG G b) (-1) (hR G ^ nC G) = -1 then -2 else mxV (fnG G) (ldG G b) (-1) (hR G ^ nC G) := by
        rw [qx2 q, pbI_rI, if_pos (by decide), c1, pbI_rI] at t1
        by_cases z : (chF (fnG G) (ldG G b) (hR G ^ nC G)).1 = 0
        · rw [if_pos z, if_neg (fun w => w (by decide))] at t1
          have : mxV (fnG G) (ldG G b) (-1) (hR G ^ nC G) = -1 := if_pos z
          rw [if_pos this]
          exact (rI_inj t1).1.symm
        · have mv : mxV (fnG G) (ldG G b) (-1) (hR G ^ nC G) = (chF (fnG G) (ldG G b) (hR G ^ nC G)).2.1 := if_neg z
          have nn : 0 ≤ (chF (fnG G) (ldG G b) (hR G ^ nC G)).2.1 := by
            rw [← mv]
            have := mxV_range (fine := fnG G) (z := 0) (fun c => (show 0 ≤ ldG G b c ∧ ldG G b c ≤ 9900 by have := ldG_range W b c; omega)) (by omega) (hR G ^ nC G)
            unfold mxV at this ⊢
            rw [if_neg z] at this ⊢
            exact this.1
          have X2 : XH (pset N3 5 1 0) G := XH_eq X.1 (fun o i o1 o2 _ => by rw [pset_ne (by omega), c3 o i (by omega)])
          have C2 : CL (pset N3 5 1 0) G := by
            obtain ⟨b1, b2, b3⟩ := C
            exact ⟨by rw [pset_ne (by decide), c3 7 12 (by decide)]; exact b1, fun i hi => by rw [pset_ne (by decide), c3 15 i (by decide)]; exact b2 i hi, fun t ht => by rw [pset_ne (by decide), c3 16 t (by decide)]; exact b3 t ht⟩
          obtain ⟨N4, u1, u2⟩ := x_tellChosen (d := 998 + 1) (s := 0) (by omega) W X2 C2 pset_eq (by decide)
          rw [if_neg z, if_pos (by decide), T_Numbers_start, pbN_rV, u1, pbN_rV, u2 32 10 (by decide) (by decide), pset_ne (by decide), (c22 z).1] at t1
          rw [mv, if_neg (by omega)]
          exact (rI_inj t1).1.symm
      have b' : y = if mxV (fnG G) (ldG G b) (-1) (hR G ^ nC G) = -1 then -2 else mxV (fnG G) (ldG G b) (-1) (hR G ^ nC G) := by
        rw [p3, pbI_rI, if_pos (by decide), T_M_beginRows, pbN_rV] at t2
        exact m_ful18 (D := 998 + 1) (by omega) W hW hb (hR G ^ nC G + 1) 0 _ _ (by omega) (Nat.zero_le _) p4 t2
      rw [a, b']
  · rw [if_neg q1] at t1 t2
    rw [← (rI_inj t1).1, ← (rI_inj t2).1]
end FUL
