/-! calls of the reference that move things: its invariant stays -/
section RM
variable {D d R T : Nat} {M M' : pM}
theorem RI0_66 (h : RI0 M) {t : Nat} {v : Int} (h1 : 0 ≤ v) (h2 : v < M 60 0) : RI0 (pset M 66 t v) := by
  obtain ⟨g, s0, ⟨w1, w2, w3, w4, w5⟩, u⟩ := h
  have r0 := gm_i g 60 0 (lo := 0) (hi := 6) (by decide +kernel) (by decide +kernel)
  refine ⟨gM_r g (lo := 0) (hi := 5) (by decide +kernel) (by decide +kernel) h1 (by omega), by rw [pset_ne (by decide)]; exact s0, ⟨fun r hr => ?_, fun a b ha hb => ?_, fun a b ha hb hh => ?_, fun i hi => ?_, fun s hs => ?_⟩, UM_Fr (w := [(66, 999)]) (Fr_set Fr_rfl (wOK_r (by decide) _)) (by decide) (by decide) (by decide) (by decide) (by decide) u⟩
  · rw [pset_ne (by decide)] at hr ⊢; exact w1 r hr
  · rw [pset_ne (by decide), pset_ne (by decide)]; exact w2 a b ha hb
  · rw [pset_ne (by decide)] at hh ⊢; exact w3 a b ha hb hh
  · rw [pset_ne (by decide)] at hi
    rw [pset_ne (show 63 ≠ 66 by decide), pset_ne (show 64 ≠ 66 by decide), pset_ne (show 65 ≠ 66 by decide), pset_ne (show 60 ≠ 66 by decide)]
    have k := w4 i hi
    by_cases q : i = t
    · rw [q, pset_eq]; rw [q] at k; exact ⟨k.1, k.2.1, k.2.2.1, h2⟩
    · rw [pset_ne2 q]; exact k
  · rw [pset_ne (by decide)] at hs; rw [pset_ne (by decide), pset_ne (by decide)]; exact w5 s hs
theorem g75l : (List.range 20).all (fun k => decide (gAll 75 (3 * k) = (0, 0, 9, 0, 0, 0)) && decide (gAll 75 (3 * k + 1) = (0, 0, 5, 0, 0, 0)) && decide (gAll 75 (3 * k + 2) = (1, 0, 0, 0, 0, 0))) = true := by decide +kernel
theorem g75 (k : Nat) (hk : k < 20) : gAll 75 (3 * k) = (0, 0, 9, 0, 0, 0) ∧ gAll 75 (3 * k + 1) = (0, 0, 5, 0, 0, 0) ∧ gAll 75 (3 * k + 2) = (1, 0, 0, 0, 0, 0) := by
  have h := List.all_eq_true.mp g75l k (List.mem_range.mpr hk)
  rw [Bool.and_eq_true, Bool.and_eq_true] at h
  exact ⟨of_decide_eq_true h.1.1, of_decide_eq_true h.1.2, of_decide_eq_true h.2⟩
theorem g87l : (List.range 2).all (fun i => (List.range 10).all (fun t => decide (gAll 87 (12 * i + t) = (0, 0, 5, 0, 0, 0))) && decide (gAll 87 (12 * i + 10) = (1, 0, 0, 0, 0, 0)) && decide (gAll 87 (12 * i + 11) = (1, 0, 0, 0, 0, 0))) = true := by decide +kernel
theorem g87 (i : Nat) (hi : i < 2) : (∀ t : Nat, t < 10 → gAll 87 (12 * i + t) = (0, 0, 5, 0, 0, 0)) ∧ gAll 87 (12 * i + 10) = (1, 0, 0, 0, 0, 0) ∧ gAll 87 (12 * i + 11) = (1, 0, 0, 0, 0, 0) := by
  have h := List.all_eq_true.mp g87l i (List.mem_range.mpr hi)
  rw [Bool.and_eq_true, Bool.and_eq_true] at h
  exact ⟨fun t ht => of_decide_eq_true (List.all_eq_true.mp h.1.1 t (List.mem_range.mpr ht)), of_decide_eq_true h.1.2, of_decide_eq_true h.2⟩
theorem p75 {k : Nat} (hk : k < 20) : 3 * k < pL 75 ∧ 3 * k + 1 < pL 75 := by
  have e : pL 75 = 60 := by decide +kernel
  omega
theorem RI0_75 (h : RI0 M) {k : Nat} {v : Int} (hv : gR (gAll 75 k) v) (h2 : ∀ j, k = 3 * j + 1 → v < M 60 0) : RI0 (pset M 75 k v) := by
  obtain ⟨g, s0, w, u1, u2, u3, u4⟩ := h
  refine ⟨gMs_set g hv, by rw [pset_ne (by decide)]; exact s0, WM_Fr (w := [(75, 999)]) (Fr_set Fr_rfl (wOK_r (by decide) _)) (by decide) (by decide) (by decide) (by decide) w, fun j hj => ?_, by rw [pset_ne (by decide)]; exact u2, by rw [pset_ne (by decide), pset_ne (by decide), pset_ne (by decide)]; exact u3, fun i hi hne => ?_⟩
  · rw [pset_ne (by decide)] at hj
    rw [pset_ne (show 60 ≠ 75 by decide)]
    by_cases q : 3 * j + 1 = k
    · rw [q, pset_eq]; exact h2 j q.symm
    · rw [pset_ne2 q]; exact u1 j hj
  · rw [pset_ne (by decide)] at hne
    rw [pset_ne (show 89 ≠ 75 by decide), pset_ne (show 60 ≠ 75 by decide), pset_ne (show 60 ≠ 75 by decide), pset_ne (show 60 ≠ 75 by decide)]
    obtain ⟨v1, v2, v3⟩ := u4 i hi hne
    exact ⟨v1, v2, fun e t ht => by rw [pset_ne (by decide)]; exact v3 e t ht⟩
theorem RI0_33 (h : RI0 M) {v : Int} (h1 : 0 ≤ v) (h20 : v ≤ 20) (h2 : ∀ k : Nat, (k : Int) < v → M 75 (3 * k + 1) < M 60 0) : RI0 (pset M 60 33 v) := by
  obtain ⟨g, s0, w, u1, u2, u3, u4⟩ := h
  refine ⟨gM_f g (lo := 0) (hi := 20) (by decide +kernel) h1 h20, by rw [pset_ne2 (by decide)]; exact s0, WM_Fr (w := [(60, 33)]) (Fr_set Fr_rfl (by decide)) (by decide) (by decide) (by decide) (by decide) w, fun j hj => ?_, by rw [pset_ne2 (by decide)]; exact u2, by rw [pset_ne2 (by decide), pset_ne2 (by decide), pset_ne2 (by decide)]; exact u3, fun i hi hne => ?_⟩
  · rw [pset_eq] at hj
    rw [pset_ne (show 75 ≠ 60 by decide), pset_ne2 (show 0 ≠ 33 by decide)]; exact h2 j hj
  · rw [pset_ne (by decide)] at hne
    rw [pset_ne (show 89 ≠ 60 by decide), pset_ne2 (show 52 ≠ 33 by decide), pset_ne2 (show 3 ≠ 33 by decide), pset_ne2 (show 0 ≠ 33 by decide)]
    obtain ⟨v1, v2, v3⟩ := u4 i hi hne
    exact ⟨v1, v2, fun e t ht => by rw [pset_ne (by decide)]; exact v3 e t ht⟩
theorem RI0_11 (h : RI0 M) {v : Int} : RI0 (pset M 60 11 v) := RI0_Fr (w := [(60, 11)]) (gMs_set h.1 (by rw [show gAll 60 11 = (1, 0, 0, 0, 0, 0) by decide +kernel]; exact Or.inr (Or.inl rfl))) (Fr_set Fr_rfl (by decide)) (by decide) h
theorem RI0_10 (h : RI0 M) {v : Int} : RI0 (pset M 60 10 v) := RI0_Fr (w := [(60, 10)]) (gMs_set h.1 (by rw [show gAll 60 10 = (1, 0, 0, 0, 0, 0) by decide +kernel]; exact Or.inr (Or.inl rfl))) (Fr_set Fr_rfl (by decide)) (by decide) h
theorem RI0_16 (h : RI0 M) : RI0 (pset M 60 16 0) := RI0_Fr (w := [(60, 16)]) (gM_row0 h.1) (Fr_set Fr_rfl (by decide)) (by decide) h
/-- what a thing's way back is -/
theorem RI0_rem (h : RI0 M) {n b : Nat} (hn : n < 20) (h33 : M 60 33 = (n : Int)) (hb : b < 10) (hr : M 66 b < M 60 0) : RI0 (pset (pset (pset (pset M 75 (3 * n) b) 75 (3 * n + 1) (M 66 b)) 75 (3 * n + 2) (M 60 11)) 60 33 ((n : Int) + 1)) := by
  have i66 := gm_r h.1 (o := 66) (lo := 0) (hi := 5) (by decide +kernel) (by decide +kernel) (k := b) (show b < 10 from hb)
  obtain ⟨e0, e1, e2⟩ := g75 n hn
  have h1 := RI0_75 h (k := 3 * n) (v := (b : Int)) (by rw [e0]; exact Or.inl ⟨rfl, by show (0 : Int) ≤ b; omega, by show (b : Int) ≤ 9; omega⟩) (fun j hj => by omega)
  have h2 := RI0_75 h1 (k := 3 * n + 1) (v := M 66 b) (by rw [e1]; exact Or.inl ⟨rfl, i66.1, i66.2⟩) (fun j hj => by rw [pset_ne (by decide)]; exact hr)
  have h3 := RI0_75 h2 (k := 3 * n + 2) (v := M 60 11) (by rw [e2]; exact Or.inr (Or.inl rfl)) (fun j hj => by omega)
  refine RI0_33 h3 (by omega) (by omega) (fun k hk => ?_)
  rw [pset_ne (show 60 ≠ 75 by decide), pset_ne (show 60 ≠ 75 by decide), pset_ne (show 60 ≠ 75 by decide), pset_ne2 (show 3 * k + 1 ≠ 3 * n + 2 by omega)]
  by_cases q : k = n
  · rw [q, pset_eq]; exact hr
  · rw [pset_ne2 (show 3 * k + 1 ≠ 3 * n + 1 by omega), pset_ne2 (show 3 * k + 1 ≠ 3 * n by omega)]
    exact h.2.2.2.1 k (by omega)
def wRem : List (Nat × Nat) := [(60, 33), (75, 999)]
theorem Fr_rem {n b : Nat} {v w : Int} : Fr wRem M (pset (pset (pset (pset M 75 (3 * n) b) 75 (3 * n + 1) v) 75 (3 * n + 2) w) 60 33 ((n : Int) + 1)) := Fr_set (Fr_set (Fr_set (Fr_set Fr_rfl (wOK_r (by decide) _)) (wOK_r (by decide) _)) (wOK_r (by decide) _)) (by decide)
theorem m_remember (hd : 1 ≤ d) {b : Nat} (hb : b < 10) (hr : M 66 b < M 60 0) (h : RI0 M) : ∃ M', xF d 215 [.inr 62, .inl (b : Int)] M = rV M' ∧ RI0 M' ∧ Fr wRem M M' := by
  obtain ⟨D, rfl, -⟩ := dsucc hd
  have a1 : ∀ (M : pM) (i : Nat) (v : Int), pset M 75 i v 60 33 = M 60 33 := fun _ _ _ => pset_ne (by decide)
  have a2 : ∀ (M : pM) (i k : Nat) (v : Int), pset M 75 i v 66 k = M 66 k := fun _ _ _ _ => pset_ne (by decide)
  have a3 : ∀ (M : pM) (i : Nat) (v : Int), pset M 75 i v 60 11 = M 60 11 := fun _ _ _ => pset_ne (by decide)
  have n1 : ∀ n : Nat, (3 * (n : Int)).toNat = 3 * n := fun n => by omega
  have n2 : ∀ n : Nat, (3 * (n : Int) + 1).toNat = 3 * n + 1 := fun n => by omega
  have n3 : ∀ n : Nat, (3 * (n : Int) + 2).toNat = 3 * n + 2 := fun n => by omega
  have hb2 : (0 : Int) ≤ (b : Int) ∧ (b : Int) < 10 := by omega
  have b33 := gm_i h.1 60 33 (lo := 0) (hi := 20) (by decide +kernel) (by decide +kernel)
  obtain ⟨n, hn⟩ := natI b33.1
  rw [T_M_remember]
  by_cases q : n = 20
  · rw [if_neg (fun z => z (by rw [hn, q]; rfl))]
    have key : ∀ (m x : Nat) (M1 : pM), x + m = 57 → RI0 M1 → Fr [(75, 999)] M M1 → ∃ M', xE D 215 6 [.inr 62, .inl (b : Int), .inl (x : Int)] [] M1 = rV M' ∧ RI0 M' ∧ Fr wRem M M' := by
      intro m
      induction m with
      | zero =>
        intro x M1 hx g f
        have k33 : M1 60 33 = 20 := by rw [f 60 33 (by decide), hn, q]; rfl
        have g2 : RI0 (pset M1 60 33 ((19 : Nat) : Int)) := RI0_33 g (by decide) (by decide) (fun k hk => g.2.2.2.1 k (by rw [k33]; omega))
        rw [L_M_remember_6, if_pos (by rw [le32_iff] <;> omega), k33, show ((20 : Int) - 1) = ((19 : Nat) : Int) by decide]
        have f2 : Fr wRem M (pset M1 60 33 ((19 : Nat) : Int)) := Fr_set (Fr_mono f (by decide)) (by decide)
        have e33 : (pset M1 60 33 ((19 : Nat) : Int)) 60 33 = ((19 : Nat) : Int) := pset_eq
        have e66 : (pset M1 60 33 ((19 : Nat) : Int)) 66 b < (pset M1 60 33 ((19 : Nat) : Int)) 60 0 := by rw [pset_ne (by decide), pset_ne2 (by decide), f 66 b (wOK_no (by decide) b), f 60 0 (by decide)]; exact hr
        generalize pset M1 60 33 ((19 : Nat) : Int) = M2 at g2 f2 e33 e66 ⊢
        simp only [a1, a2, a3, e33, n1, n2, n3, Int.toNat_natCast]
        rw [if_pos (by decide), if_pos hb2, if_pos (by decide), if_pos (by decide)]
        exact ⟨_, rfl, RI0_rem g2 (n := 19) (by decide) e33 hb e66, Fr_tr f2 Fr_rem⟩
      | succ m ih =>
        intro x M1 hx g f
        have k33 : M1 60 33 = 20 := by rw [f 60 33 (by decide), hn, q]; rfl
        have hv : gR (gAll 75 x) (M1 75 (x + 3)) := by
          have e : pL 75 = 60 := by decide +kernel
          have := g.1 75 (x + 3) (by omega)
          rw [show gAll 75 (x + 3) = gAll 75 x from by
            obtain ⟨k, hk, hx3⟩ : ∃ k, k < 19 ∧ (x = 3 * k ∨ x = 3 * k + 1 ∨ x = 3 * k + 2) := ⟨x / 3, by omega, by omega⟩
            have u1 := g75 k (by omega)
            have u2 := g75 (k + 1) (by omega)
            rcases hx3 with rfl | rfl | rfl
            · rw [u1.1, show 3 * k + 3 = 3 * (k + 1) by omega, u2.1]
            · rw [u1.2.1, show 3 * k + 1 + 3 = 3 * (k + 1) + 1 by omega, u2.2.1]
            · rw [u1.2.2, show 3 * k + 2 + 3 = 3 * (k + 1) + 2 by omega, u2.2.2]] at this
          exact this
        rw [L_M_remember_6, if_neg (by rw [le32_iff] <;> omega), if_pos (by omega), if_pos (by omega), show ((x : Int) + 3).toNat = x + 3 by omega, Int.toNat_natCast, show ((x : Int) + 1) = ((x + 1 : Nat) : Int) by omega]
        exact ih (x + 1) _ (by omega) (RI0_75 g hv (fun j hj => by
          have := g.2.2.2.1 (j + 1) (by rw [k33]; omega)
          rw [hj, show 3 * j + 1 + 3 = 3 * (j + 1) + 1 by omega]; exact this)) (Fr_set f (wOK_r (by decide) _))
    exact key 57 0 M (by omega) h Fr_rfl
  · rw [if_pos (by rw [hn, eq32_iff] <;> omega)]
    simp only [a1, a2, a3, hn, n1, n2, n3, Int.toNat_natCast]
    rw [if_pos (by omega), if_pos hb2, if_pos (by omega), if_pos (by omega)]
    exact ⟨_, rfl, RI0_rem h (by omega) hn hb hr, Fr_rem⟩
theorem m_refusal (hd : 3 ≤ d) {b c : Int} (hb1 : -2147483648 ≤ b) (hb2 : b < 2147483648) (hc1 : -2147483648 ≤ c) (hc2 : c < 2147483648) (hM : gM gAll M) (hR : M 60 0 = (R : Int)) (hT : M 60 3 = (T : Int)) : ∃ z M', xF d 213 [.inr 62, .inl b, .inl c] M = rI z M' ∧ gM gAll M' ∧ Fr [(74, 999)] M M' ∧ ((z = -1 ∨ z = -2 ∨ z = -3) ∨ (z = 0 ∧ (0 ≤ b ∧ b < (T : Int)) ∧ 0 ≤ c ∧ c < (R : Int))) := by
  obtain ⟨D, rfl, hD⟩ := dsucc hd
  have r0 := gm_i hM 60 0 (lo := 0) (hi := 6) (by decide +kernel) (by decide +kernel)
  have t0 := gm_i hM 60 3 (lo := 0) (hi := 10) (by decide +kernel) (by decide +kernel)
  rw [T_M_refusal, m_isThing (by omega) hT (by omega) hb1 hb2, pbI_rI]
  by_cases q1 : 0 ≤ b ∧ b < (T : Int)
  · rw [if_pos q1, if_neg (by decide), m_isRoom (by omega) hR (by omega) hc1 hc2, pbI_rI]
    by_cases q2 : 0 ≤ c ∧ c < (R : Int)
    · obtain ⟨x, rfl⟩ := natI q1.1
      have i5 := gm_r hM (o := 66) (lo := 0) (hi := 5) (by decide +kernel) (by decide +kernel) (k := x) (show x < 10 by omega)
      obtain ⟨z, M2, e, g2, f2, -⟩ := u_steps (d := D) (by omega) (a1 := (x : Int)) (a2 := M 66 x) (a3 := c) hM ⟨by omega, by omega⟩ i5 ⟨by omega, by omega⟩
      rw [if_pos q2, if_pos (by decide), if_pos (by omega), Int.toNat_natCast, e, pbI_rI]
      by_cases q3 : lt32 z 1000000
      · rw [if_pos q3, if_pos (by omega)]
        by_cases q4 : le32 (M2 60 11 + z * M2 65 x) (M2 60 12)
        · rw [if_pos q4]; exact ⟨_, M2, rfl, g2, f2, Or.inr ⟨rfl, q1, q2⟩⟩
        · rw [if_neg q4]; exact ⟨_, M2, rfl, g2, f2, Or.inl (by decide)⟩
      · rw [if_neg q3]; exact ⟨_, M2, rfl, g2, f2, Or.inl (by decide)⟩
    · rw [if_neg q2, if_neg (fun z => z rfl)]
      exact ⟨_, M, rfl, hM, Fr_rfl, Or.inl (by decide)⟩
  · rw [if_neg q1, if_pos rfl]
    exact ⟨_, M, rfl, hM, Fr_rfl, Or.inl (by decide)⟩
def wCs : List (Nat × Nat) := [(60, 11), (66, 999), (74, 999)]
theorem m_carries (hd : 3 ≤ d) {b c : Nat} (hb : b < 10) (hc : (c : Int) < M 60 0) (h : RI0 M) : ∃ z M', xF d 214 [.inr 62, .inl (b : Int), .inl (c : Int)] M = rI z M' ∧ RI0 M' ∧ Fr wCs M M' := by
  obtain ⟨D, rfl, hD⟩ := dsucc hd
  have r0 := gm_i h.1 60 0 (lo := 0) (hi := 6) (by decide +kernel) (by decide +kernel)
  have i5 := gm_r h.1 (o := 66) (lo := 0) (hi := 5) (by decide +kernel) (by decide +kernel) (k := b) (show b < 10 by omega)
  obtain ⟨z, M2, e, g2, f2, -⟩ := u_steps (d := D) (by omega) (a1 := (b : Int)) (a2 := M 66 b) (a3 := (c : Int)) h.1 ⟨by omega, by omega⟩ i5 ⟨by omega, by omega⟩
  have h2 : RI0 M2 := RI0_Fr g2 f2 (by decide) h
  have hb2 : (0 : Int) ≤ (b : Int) ∧ (b : Int) < 10 := by omega
  rw [T_M_carries, if_pos hb2, Int.toNat_natCast, e, pbI_rI, if_pos hb2, if_pos hb2]
  exact ⟨_, _, rfl, RI0_11 (RI0_66 h2 (by omega) (by rw [f2 60 0 (by decide)]; exact hc)), Fr_set (Fr_set (Fr_mono f2 (by decide)) (wOK_r (by decide) _)) (by decide)⟩
def wCarry : List (Nat × Nat) := [(60, 11), (60, 17), (60, 33), (66, 999), (74, 999), (75, 999)]
theorem r_carry {d : Nat} (hd : 4 ≤ d) {b c : Int} (hb1 : -2147483648 ≤ b) (hb2 : b ≤ 2147483647) (hc1 : -2147483648 ≤ c) (hc2 : c ≤ 2147483647) (h : RI0 M) : okR d 216 [.inr 62, .inl b, .inl c] wCarry M := by
  obtain ⟨D, rfl, hD⟩ := dsucc hd
  have ht := RI0_thr h
  have r0 := gm_i ht.1 60 0 (lo := 0) (hi := 6) (by decide +kernel) (by decide +kernel)
  have t0 := gm_i ht.1 60 3 (lo := 0) (hi := 10) (by decide +kernel) (by decide +kernel)
  obtain ⟨R, hR⟩ := natI r0.1
  obtain ⟨T, hT⟩ := natI t0.1
  have ft : Fr wCarry M (pset M 60 17 0) := Fr_set Fr_rfl (by decide)
  obtain ⟨z, M1, e1, g1, f1, alt⟩ := m_refusal (d := D) (by omega) hb1 (by omega) hc1 (by omega) ht.1 hR hT
  have h1 : RI0 M1 := RI0_Fr g1 f1 (by decide) ht
  unfold okR
  rw [T_M_carry, e1, pbI_rI]
  rcases alt with q | ⟨rfl, q1, q2⟩
  · rw [if_neg (by rcases q with rfl | rfl | rfl <;> decide)]
    exact ⟨_, M1, rfl, h1, Fr_tr ft (Fr_mono f1 (by decide))⟩
  · obtain ⟨x, rfl⟩ := natI q1.1
    obtain ⟨y, rfl⟩ := natI q2.1
    have k3 : M1 60 3 = (T : Int) := by rw [f1 60 3 (by decide)]; exact hT
    have k0 : M1 60 0 = (R : Int) := by rw [f1 60 0 (by decide)]; exact hR
    obtain ⟨M2, e2, h2, f2⟩ := m_remember (d := D) (by omega) (b := x) (by omega) (h1.2.2.1.2.2.2.1 x (by omega)).2.2.2 h1
    obtain ⟨v, M3, e3, h3, f3⟩ := m_carries (d := D) (by omega) (b := x) (c := y) (by omega) (by rw [f2 60 0 (by decide), k0]; omega) h2
    rw [if_pos (by decide), e2, pbN_rV, e3, pbI_rI]
    exact ⟨_, M3, rfl, h3, Fr_tr ft (Fr_tr (Fr_mono f1 (by decide)) (Fr_tr (Fr_mono f2 (by decide)) (Fr_mono f3 (by decide))))⟩
def wUndo : List (Nat × Nat) := [(60, 11), (60, 17), (60, 33), (66, 999)]
theorem r_undo {d : Nat} (hd : 1 ≤ d) (h : RI0 M) : okR d 220 [.inr 62] wUndo M := by
  obtain ⟨D, rfl, -⟩ := dsucc hd
  have ht := RI0_thr h
  have b33 := gm_i ht.1 60 33 (lo := 0) (hi := 20) (by decide +kernel) (by decide +kernel)
  obtain ⟨n, hn⟩ := natI b33.1
  have ft : Fr wUndo M (pset M 60 17 0) := Fr_set Fr_rfl (by decide)
  unfold okR
  rw [T_M_undo]
  generalize pset M 60 17 0 = M1 at ht ft hn b33 ⊢
  by_cases q : n = 0
  · rw [if_neg (fun z => z (by rw [hn, q]; rfl))]
    exact ⟨_, M1, rfl, ht, ft⟩
  · obtain ⟨k, rfl⟩ : ∃ k, n = k + 1 := ⟨n - 1, by omega⟩
    have h2 : RI0 (pset M1 60 33 (k : Int)) := RI0_33 ht (by omega) (by omega) (fun j hj => ht.2.2.2.1 j (by omega))
    have e33 : pset M1 60 33 (k : Int) 60 33 = (k : Int) := pset_eq
    have e75 : pset M1 60 33 (k : Int) 75 (3 * k + 1) < pset M1 60 33 (k : Int) 60 0 := by
      rw [pset_ne (by decide), pset_ne2 (by decide)]; exact ht.2.2.2.1 k (by omega)
    have f2 : Fr wUndo M (pset M1 60 33 (k : Int)) := Fr_set ft (by decide)
    rw [if_pos (by rw [hn, eq32_iff] <;> omega), hn, show (((k + 1 : Nat) : Int) - 1) = (k : Int) by omega]
    generalize pset M1 60 33 (k : Int) = M2 at h2 e33 e75 f2 ⊢
    have n1 : (3 * (k : Int)).toNat = 3 * k := by omega
    have n2 : (3 * (k : Int) + 1).toNat = 3 * k + 1 := by omega
    have n3 : (3 * (k : Int) + 2).toNat = 3 * k + 2 := by omega
    have a1 : ∀ (M : pM) (i : Nat) (v : Int), pset M 66 i v 60 33 = M 60 33 := fun _ _ _ => pset_ne (by decide)
    have b0 : 0 ≤ M2 75 (3 * k) ∧ M2 75 (3 * k) ≤ 9 := gR0 (by rw [← (g75 k (by omega)).1]; exact h2.1 75 (3 * k) (p75 (by omega)).1)
    have b1 : 0 ≤ M2 75 (3 * k + 1) ∧ M2 75 (3 * k + 1) ≤ 5 := gR0 (by rw [← (g75 k (by omega)).2.1]; exact h2.1 75 (3 * k + 1) (p75 (by omega)).2)
    simp only [a1, e33, n1, n2, n3]
    rw [if_pos (by omega), if_pos (by omega), if_pos (by omega), if_pos (by omega)]
    exact ⟨_, _, rfl, RI0_11 (RI0_66 h2 b1.1 e75), Fr_set (Fr_set f2 (wOK_r (by decide) _)) (by decide)⟩
end RM
