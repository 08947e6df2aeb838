/-! fits: what it answers, on both sides -/
section FTS
variable {D d : Nat} {M M' M1 M2 G h : pM} {w1 : List (Nat × Nat)} {v y : Int} {fine : Nat → Bool} {val : Nat → Int}
theorem cnt_to {a b : Nat} (hab : a ≤ b) (h : ∀ c, a ≤ c → c < b → fine c = false) : cntTo fine b = cntTo fine a := by
  obtain ⟨m, rfl⟩ : ∃ m, b = a + m := ⟨b - a, by omega⟩
  clear hab
  induction m with
  | zero => rfl
  | succ m ih =>
    have e : cntTo fine (a + (m + 1)) = if fine (a + m) then cntTo fine (a + m) + 1 else cntTo fine (a + m) := rfl
    rw [e, h (a + m) (by omega) (by omega), if_neg (by decide)]
    exact ih (fun c h1 h2 => h c h1 (by omega))
theorem chF_cnt : ∀ c, (chF fine val c).1 = cntTo fine c
  | 0 => rfl
  | c + 1 => by
    have ih := chF_cnt c
    have e : cntTo fine (c + 1) = if fine c then cntTo fine c + 1 else cntTo fine c := rfl
    have e2 : chF fine val (c + 1) = if fine c then (if (chF fine val c).1 = 0 ∨ (chF fine val c).2.1 < val c then ((chF fine val c).1 + 1, val c, c) else ((chF fine val c).1 + 1, (chF fine val c).2)) else chF fine val c := rfl
    rw [e, e2, ← ih]
    cases fine c with
    | false => rw [if_neg (by decide), if_neg (by decide)]
    | true =>
      rw [if_pos rfl, if_pos rfl]
      split <;> rfl
theorem chF_fcg {f2 : Nat → Bool} (e : ∀ c, fine c = f2 c) : chF fine val = chF f2 val := by
  rw [show fine = f2 from funext e]
theorem x_tch2 (hD : 1 ≤ D) (W : WF G) : ∀ (m k s : Nat) (M : pM), k + m = hT G → XH M G → CL M G → M 5 1 = (s : Int) → s + m ≤ 12 → ∃ M', xE D 58 2 [.inr 2, .inl (k : Int)] [] M = rV M' ∧ ∀ o i, o ≠ 5 → o ≠ 6 → M' o i = M o i
  | 0, k, s, M, hk, X, C, h5, hs => by
    have w2 := W.2.1
    rw [L_X_tellChosen_2, X.2.1, if_pos (by rw [le32_iff] <;> omega)]
    exact ⟨M, rfl, fun _ _ _ _ => rfl⟩
  | m + 1, k, s, M, hk, X, C, h5, hs => by
    have w2 := W.2.1
    have n10 := nC_le W
    have ow := (oOf_in W (show k < hT G by omega)).1
    obtain ⟨N, u1, u2, u3⟩ := x_tell (d := D) (M := M) (n := s) hD (by omega) h5 (M 38 (oOf G k))
    obtain ⟨M', e, f⟩ := x_tch2 hD W m (k + 1) (s + 1) N (by omega) (XH_eq X (fun o i _ _ _ => u3 o i (by omega) (by omega))) (by
      obtain ⟨b1, b2, b3⟩ := C
      exact ⟨by rw [u3 7 12 (by decide) (by decide)]; exact b1, fun i hi => by rw [u3 15 i (by decide) (by decide)]; exact b2 i hi, fun t ht => by rw [u3 16 t (by decide) (by decide)]; exact b3 t ht⟩) u2 (by omega)
    rw [L_X_tellChosen_2, X.2.1, if_neg (by rw [le32_iff] <;> omega), if_pos (by omega), Int.toNat_natCast, C.2.2 k (by omega), show (.inl ((own G (hT G) k : Nat) : Int) : pV) = .inl ((oOf G k : Nat) : Int) from rfl, c_numberAt_38n hD (by omega), pbI_rI, u1, pbN_rV, show ((k : Int) + 1) = ((k + 1 : Nat) : Int) by omega]
    exact ⟨M', e, fun o i h1 h2 => by rw [f o i h1 h2, u3 o i h1 h2]⟩
theorem x_tellChosen (hd : 2 ≤ d) (W : WF G) (X : XH M G) (C : CL M G) {s : Nat} (h5 : M 5 1 = (s : Int)) (hs : s ≤ 2) : ∃ M', xF d 58 [.inr 2] M = rV M' ∧ ∀ o i, o ≠ 5 → o ≠ 6 → M' o i = M o i := by
  obtain ⟨D, rfl, hD⟩ := dsucc hd
  have w2 := W.2.1
  rw [T_X_tellChosen]
  exact x_tch2 hD W (hT G) 0 s M (by omega) X C h5 (by omega)
theorem SR_Fr {a : Nat} {w : List (Nat × Nat)} (f : Fr w M M') (g : gM gAll M') (k : w.all (fun q => decide (q.1 < 60 ∨ 73 < q.1 ∨ (q.1 = 60 ∧ (q.2 = 16 ∨ q.2 = 17)))) = true) (S : SR M G a) : SR M' G a := by
  have no : ∀ o i, (60 ≤ o ∧ o ≤ 73) → ¬ (o = 60 ∧ (i = 16 ∨ i = 17)) → M' o i = M o i := fun o i h1 h2 => f o i (by
    cases z : wOK w o i with
    | false => rfl
    | true =>
      obtain ⟨r, hr, h3⟩ := List.any_eq_true.mp z
      rw [Bool.and_eq_true, Bool.or_eq_true] at h3
      have e := Nat.eq_of_beq_eq_true h3.1
      have k := of_decide_eq_true (List.all_eq_true.mp k r hr)
      rw [e] at k
      rcases k with k | k | ⟨k1, k2⟩
      · omega
      · omega
      · rcases h3.2 with y | y
        · have := Nat.eq_of_beq_eq_true y
          omega
        · have := Nat.eq_of_beq_eq_true y
          omega)
  obtain ⟨-, s2, s3, s4, s5, s6, s7, s8⟩ := S
  exact ⟨g, MH_c (fun o i h1 h2 => no o i (by omega) (by omega)) s2, by rw [no 60 38 (by omega) (by omega)]; exact s3, by rw [no 60 30 (by omega) (by omega)]; exact s4, by rw [no 60 39 (by omega) (by omega)]; exact s5, by rw [no 60 40 (by omega) (by omega)]; exact s6, fun t ht => by rw [no 72 t (by omega) (by omega)]; exact s7 t ht, fun i hi => by rw [no 73 i (by omega) (by omega)]; exact s8 i hi⟩
theorem m_fit12 (hD : 3 ≤ D) (W : WF G) (hW : hR G ^ nC G ≤ 20000) : ∀ m a (M : pM), hR G ^ nC G - a + 1 ≤ m → a ≤ hR G ^ nC G → SR M G a → xE D 234 12 [.inr 62, .inl (cntTo (fnG G) a : Nat)] [] M = rI y M2 → y = (cntTo (fnG G) (hR G ^ nC G) : Nat) := by
  intro m
  induction m with
  | zero => intro a M hm; omega
  | succ m ih =>
    intro a M hm ha S e
    obtain ⟨N, n1, g1, r⟩ := m_nextG (d := D) (by omega) W hW ha S
    rw [L_M_fits_12] at e
    rcases r with ⟨r1, c, c1, c2, c3, c4, c5, c6⟩ | ⟨r1, nf⟩
    · have cc : cntTo (fnG G) (c + 1) = cntTo (fnG G) a + 1 := by
        have e1 : cntTo (fnG G) (c + 1) = if fnG G c then cntTo (fnG G) c + 1 else cntTo (fnG G) c := rfl
        rw [e1, c3, if_pos rfl, cnt_to c1 c4]
      have cl := cntTo_le (c := fnG G) a
      rw [r1, pbI_rI, if_neg (by decide), show (((cntTo (fnG G) a : Nat) : Int) + 1) = ((cntTo (fnG G) (c + 1) : Nat) : Int) by omega] at e
      split at e
      · exact ih (c + 1) N (by omega) (by omega) c5 e
      · obtain ⟨N2, u1, u2, u3⟩ := u_take (d := D) (by omega) g1
        rw [u1, pbN_rV] at e
        exact ih (c + 1) N2 (by omega) (by omega) (SR_Fr u3 u2 (by decide) c5) e
    · have to := cnt_to (fine := fnG G) ha nf
      rw [r1, pbI_rI, if_pos (by decide)] at e
      rw [to]
      split at e
      · exact (rI_inj e).1.symm
      · obtain ⟨_, -, e⟩ := pbN_inv e
        exact (rI_inj e).1.symm
theorem svT_0 {R n : Nat} (c : Nat) : svT R n (fun _ => 0) c = 0 := sumTo_0 n
theorem kc_fits (R : RI0 M) (C : CI M) (K : CK M) (R1 : RI0 M1) (e1 : xF 1000 21 [.inr 2] M = rI v M1) (f1 : Fr w1 M M1) (k1 : okW cm cmo w1 = true) (e2 : xF 1000 234 [.inr 62] M1 = rI y M2) : v = y := by
  obtain ⟨G, X, Y⟩ := C
  obtain ⟨W, -⟩ := ci_facts R X Y
  have C := CK_G K X.1
  have t1 : xF (998 + 1 + 1) 21 [.inr 2] M = rI v M1 := e1
  have t2 : xF (998 + 1 + 1) 234 [.inr 62] M1 = rI y M2 := e2
  have Y1 := MG_thr (MG_Fr f1 k1 Y)
  have gT := gM_thr R1.1
  obtain ⟨q1, q2⟩ := x_tooMany (d := 998 + 1) (by omega) W X.1 C
  obtain ⟨N, g2, fN, p1, p2⟩ := m_tooMG (d := 998 + 1) (by omega) gT W Y1.1 (by rw [pset_ne2 (by decide)]; exact R1.2.1)
  rw [T_X_fits] at t1
  rw [T_M_fits] at t2
  rcases Classical.em (tmG G) with q | q
  · rw [q1 q, pbI_rI, if_neg (by decide)] at t1
    rw [p1 q, pbI_rI, if_neg (by decide)] at t2
    rw [← (rI_inj t1).1, ← (rI_inj t2).1]
  · have hW : hR G ^ nC G ≤ 20000 := by unfold tmG at q; omega
    obtain ⟨p3, p4⟩ := p2 q
    obtain ⟨N1, s1, s2, s3, s4, s5⟩ := x_startG (d := 998 + 1) (by omega) W X.1 C
    have B := WB_G W q
    obtain ⟨N2, c1, c2, c3⟩ := x_choose (d := 998 + 1) (tb := fun _ => 0) (by omega) B (fun c => by rw [svT_0]; omega) s2 s3 s4
    have lo : ∀ o i, o < 32 → N2 o i = M o i := fun o i ho => by rw [c3 o i (by omega) (by omega) (by omega) (by omega), s5 o i (by omega)]
    have cn : (chF (fnW (hR G) (nC G) (G 1) (bkG G)) (svT (hR G) (nC G) fun _ => 0) (hR G ^ nC G)).1 = cntTo (fnG G) (hR G ^ nC G) := by
      rw [chF_cnt, show fnW (hR G) (nC G) (G 1) (bkG G) = fnG G from funext fnG_bk]
    have c11 := c2.1
    rw [cn] at c11
    have cl := cntTo_le (c := fnG G) (hR G ^ nC G)
    have a : v = (cntTo (fnG G) (hR G ^ nC G) : Nat) := by
      obtain ⟨v4, M3, z1, z2⟩ := pbI_inv s1
      rw [q2 q, pbI_rI, if_pos (by decide), z1, pbI_rI, z2, pbN_rV, c1, pbI_rI, T_Numbers_start, pbN_rV, show pset N2 5 1 0 32 11 = N2 32 11 from pset_ne (by decide), c11] at t1
      split at t1
      · exact (rI_inj t1).1.symm
      · have X2 : XH (pset N2 5 1 0) G := XH_eq X.1 (fun o i o1 o2 _ => by rw [pset_ne (by omega), lo o i (by omega)])
        have C2 : CL (pset N2 5 1 0) G := by
          obtain ⟨b1, b2, b3⟩ := C
          exact ⟨by rw [pset_ne (by decide), lo 7 12 (by decide)]; exact b1, fun i hi => by rw [pset_ne (by decide), lo 15 i (by decide)]; exact b2 i hi, fun t ht => by rw [pset_ne (by decide), lo 16 t (by decide)]; exact b3 t ht⟩
        obtain ⟨N3, u1, u2⟩ := x_tellChosen (d := 998 + 1) (s := 0) (by omega) W X2 C2 pset_eq (by decide)
        rw [u1, pbN_rV, u2 32 11 (by decide) (by decide), pset_ne (by decide), c11] at t1
        exact (rI_inj t1).1.symm
    have b : y = (cntTo (fnG G) (hR G ^ nC G) : Nat) := by
      rw [p3, pbI_rI, if_pos (by decide), T_M_beginRows, pbN_rV, show (.inl 0 : pV) = .inl ((cntTo (fnG G) 0 : Nat) : Int) from rfl] at t2
      exact m_fit12 (D := 998 + 1) (by omega) W hW (hR G ^ nC G + 1) 0 _ (by omega) (Nat.zero_le _) p4 t2
    rw [a, b]
end FTS
