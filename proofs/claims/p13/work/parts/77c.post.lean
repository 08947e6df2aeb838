/-! who reads the text leaves it empty, on both sides -/
section TX
variable {D d : Nat} {M M' : pM}
theorem x_cut (hd : 1 ≤ d) {b : Int} (h1 : -2147483648 ≤ b) (h2 : b < 2147483648) (hM : gM gAll M) : xF d 153 [.inr 3, .inl b] M = if 0 ≤ b ∧ b ≤ M 1 1 then rI 1 (pset M 1 1 b) else rI 0 M := by
  obtain ⟨D, rfl, -⟩ := dsucc hd
  have r := gm_i hM 1 1 (lo := 0) (hi := 80) (by decide +kernel) (by decide +kernel)
  rw [T_Text_cut]
  by_cases q : b < 0
  · rw [if_pos (by rw [lt32_iff] <;> omega), if_neg (by omega)]
  · rw [if_neg (by rw [lt32_iff] <;> omega)]
    by_cases q2 : b ≤ M 1 1
    · rw [if_pos (by rw [le32_iff] <;> omega), if_pos (by omega)]
    · rw [if_neg (by rw [le32_iff] <;> omega), if_neg (by omega)]
theorem x_cut0 (hd : 1 ≤ d) (hM : gM gAll M) : xF d 153 [.inr 3, .inl 0] M = rI 1 (pset M 1 1 0) ∧ gM gAll (pset M 1 1 0) := by
  have r := gm_i hM 1 1 (lo := 0) (hi := 80) (by decide +kernel) (by decide +kernel)
  exact ⟨by rw [x_cut hd (by decide) (by decide) hM, if_pos (by omega)], gM_f hM (lo := 0) (hi := 80) (by decide +kernel) (by decide) (by decide)⟩
theorem rI_inj {a b : Int} {M1 M2 : pM} (h : (rI a M1 : Option pR) = rI b M2) : a = b ∧ M1 = M2 := by
  cases h; exact ⟨rfl, rfl⟩
theorem t_X_house {d : Nat} (hd : 8 ≤ d) (hM : gM gAll M) {z : Int} (e : xF d 2 [.inr 2] M = rI z M') : M' 1 1 = 0 := by
  obtain ⟨D, rfl, hD⟩ := dsucc hd
  have r := gm_i hM 1 1 (lo := 0) (hi := 80) (by decide +kernel) (by decide +kernel)
  rw [T_X_house] at e
  by_cases q : eq32 (M 1 1) 0
  · rw [if_neg (fun y => y q)] at e
    rw [← (rI_inj e).2]
    rw [eq32_iff (by omega) (by omega) (by omega) (by omega)] at q
    exact q
  · obtain ⟨M1, e1, g1, -⟩ := v_copy2 (d := D) (by omega) hM
    obtain ⟨v, M2, e2, g2, -⟩ := v_read (d := D) (by omega) g1
    obtain ⟨e3, g3⟩ := x_cut0 (d := D) (by omega) g2
    rw [if_pos q, e1, pbN_rV, e2, pbI_rI, e3, pbI_rI] at e
    by_cases q2 : lt32 v 0
    · rw [if_pos q2] at e
      rw [← (rI_inj e).2, pset_eq]
    · obtain ⟨M4, e4, g4, f4⟩ := v_become (d := D) (by omega) g3
      obtain ⟨M5, e5, g5, f5⟩ := v_hang (d := D) (by omega) g4
      obtain ⟨D', rfl, -⟩ := dsucc (show 1 ≤ D by omega)
      rw [if_neg q2, e4, pbN_rV, e5, pbN_rV, T_Past_forget, pbN_rV] at e
      rw [← (rI_inj e).2, pset_ne (by decide), f5 1 1 (by decide), f4 1 1 (by decide), pset_eq]
theorem t_X_rule {d : Nat} (hd : 32 ≤ d) (hM : gM gAll M) {z : Int} (e : xF d 3 [.inr 2] M = rI z M') : M' 1 1 = 0 := by
  obtain ⟨D, rfl, hD⟩ := dsucc hd
  obtain ⟨v, M1, e1, g1, -⟩ := v_rd (d := D) (by omega) hM
  rw [T_X_rule, e1, pbI_rI] at e
  by_cases q : eq32 v (-1)
  · obtain ⟨M2, e2, g2, -⟩ := v_rd2 (d := D) (by omega) g1
    rw [if_neg (fun y => y q), e2, pbN_rV, (x_cut0 (d := D) (by omega) g2).1, pbI_rI, if_neg (fun y => y q)] at e
    rw [← (rI_inj e).2, pset_eq]
  · rw [if_pos q, (x_cut0 (d := D) (by omega) g1).1, pbI_rI, if_pos q] at e
    rw [← (rI_inj e).2, pset_eq]
/-- the end of day -/
theorem x_dayT (hD : 5 ≤ D) (hM : gM gAll M) (h0 : M 1 1 = 0) (x2 x3 x4 : Int) : ∃ z M', (if le32 x2 x4 then
 (pbI (xF D 91 [.inr 9, .inr 15] M) fun v4 M3 =>
 if eq32 v4 0 then
 (pbN (xF D 127 [.inr 7] M3) fun M5 =>
 pbN (xF D 128 [.inr 7, .inl 0] M5) fun M6 =>
 pbN (xF D 128 [.inr 7, .inl x3] M6) fun M7 =>
 some (some (.inl x4), M7))
 else
 (pbI (xF D 53 [.inr 2] M3) fun v9 M8 =>
 pbN (xF D 127 [.inr 7] M8) fun M10 =>
 pbN (xF D 128 [.inr 7, .inl v9] M10) fun M11 =>
 pbN (xF D 128 [.inr 7, .inl x3] M11) fun M12 =>
 some (some (.inl x4), M12)))
 else
 (pbN (xF D 127 [.inr 7] M) fun M13 =>
 pbN (xF D 128 [.inr 7, .inl (-1)] M13) fun M14 =>
 pbN (xF D 128 [.inr 7, .inl x3] M14) fun M15 =>
 some (some (.inl x4), M15)) : Option pR) = rI z M' ∧ M' 1 1 = 0 := by
  have fin : ∀ (M : pM) (v : Int), gM gAll M → M 1 1 = 0 → ∃ z M', (pbN (xF D 127 [.inr 7] M) fun M13 => pbN (xF D 128 [.inr 7, .inl v] M13) fun M14 => pbN (xF D 128 [.inr 7, .inl x3] M14) fun M15 => some (some (.inl x4), M15) : Option pR) = rI z M' ∧ M' 1 1 = 0 := fun M v hM h0 => by
    obtain ⟨M1, e1, g1, f1⟩ := v_127 (d := D) (by omega) hM
    obtain ⟨M2, e2, g2, f2⟩ := v_128 (d := D) (by omega) (a1 := v) g1
    obtain ⟨M3, e3, g3, f3⟩ := v_128 (d := D) (by omega) (a1 := x3) g2
    rw [e1, pbN_rV, e2, pbN_rV, e3, pbN_rV]
    exact ⟨_, M3, rfl, by rw [f3 1 1 (by decide), f2 1 1 (by decide), f1 1 1 (by decide)]; exact h0⟩
  by_cases q : le32 x2 x4
  · obtain ⟨v, M1, e1, g1, f1, -⟩ := v_law (d := D) (by omega) hM
    have k1 : M1 1 1 = 0 := by rw [f1 1 1 (by decide)]; exact h0
    rw [if_pos q, e1, pbI_rI]
    by_cases q2 : eq32 v 0
    · rw [if_pos q2]; exact fin M1 0 g1 k1
    · obtain ⟨w, M2, e2, g2, f2, -⟩ := v_go (d := D) (by omega) g1
      rw [if_neg q2, e2, pbI_rI]
      exact fin M2 w g2 (by rw [f2 1 1 (by decide)]; exact k1)
  · rw [if_neg q]; exact fin M (-1) hM h0
theorem x_day29 (hD : 6 ≤ D) {n : Nat} (hn : n ≤ 20) (x1 : Int) : ∀ (m k : Nat) (x3 x4 : Int) (y : pV) (M : pM), k + m = n → gM gAll M → ∃ z M', xE D 13 29 [.inr 2, .inl x1, .inl (n : Int), .inl x3, .inl x4, .inl (k : Int), y] [] M = rI z M' ∧ M' 1 1 = 0 := by
  intro m
  induction m with
  | zero =>
    intro k x3 x4 y M hk hM
    obtain ⟨e0, g0⟩ := x_cut0 (d := D) (by omega) hM
    rw [L_X_day_29, if_pos (by rw [le32_iff] <;> omega), e0, pbI_rI]
    exact x_dayT (by omega) g0 pset_eq _ _ _
  | succ m ih =>
    intro k x3 x4 y M hk hM
    obtain ⟨v, M1, e1, g1, -, b1⟩ := v_at (d := D) (by omega) (a1 := (k : Int) * 4) hM ⟨by omega, by omega⟩
    obtain ⟨w, M2, e2, g2, -, b2⟩ := v_at (d := D) (by omega) (a1 := (k : Int) * 4 + 2) g1 ⟨by omega, by omega⟩
    obtain ⟨u, M3, e3, g3, -⟩ := v_carry (d := D) (by omega) (a1 := v - 97) (a2 := w - 48) g2 ⟨by omega, by omega⟩ ⟨by omega, by omega⟩
    rw [L_X_day_29, if_neg (by rw [le32_iff] <;> omega), e1, pbI_rI, e2, pbI_rI, e3, pbI_rI, show ((k : Int) + 1) = ((k + 1 : Nat) : Int) by omega]
    by_cases q : le32 0 u
    · rw [if_pos q]; exact ih (k + 1) _ _ _ M3 (by omega) g3
    · obtain ⟨e0, g0⟩ := x_cut0 (d := D) (by omega) g3
      rw [if_neg q, e0, pbI_rI]
      exact x_dayT (by omega) g0 pset_eq _ _ _
theorem t_X_day {d : Nat} (hd : 7 ≤ d) (hM : gM gAll M) {z : Int} (e : xF d 13 [.inr 2] M = rI z M') : M' 1 1 = 0 := by
  obtain ⟨D, rfl, hD⟩ := dsucc hd
  obtain ⟨v, M1, e1, g1, -, b1⟩ := v_dayF (d := D) (by omega) hM
  have r := gm_i g1 1 1 (lo := 0) (hi := 80) (by decide +kernel) (by decide +kernel)
  rw [T_X_day, e1, pbI_rI] at e
  by_cases q : eq32 v (-1)
  · rw [if_pos q] at e
    obtain ⟨L, hL⟩ := natI r.1
    have ej : jdiv (M1 1 1 + 1) 4 = (((L + 1) / 4 : Nat) : Int) := by
      rw [hL, show ((L : Int) + 1) = ((L + 1 : Nat) : Int) by omega, show (4 : Int) = ((4 : Nat) : Int) from rfl, jdiv_nat (by omega) (by omega) (by omega)]
    rw [ej] at e
    obtain ⟨z2, M2, e2, k2⟩ := x_day29 (D := D) (by omega) (n := (L + 1) / 4) (by omega) v ((L + 1) / 4) 0 0 0 (.inr 0) M1 (by omega) g1
    have e3 := e.symm.trans e2
    rw [(rI_inj e3).2]; exact k2
  · rw [if_neg q, (x_cut0 (d := D) (by omega) g1).1, pbI_rI] at e
    rw [← (rI_inj e).2, pset_eq]
theorem x_aim16 (hD : 2 ≤ D) (x1 x2 : Int) : ∀ (m k : Nat) (M : pM), k + m = 10 → gM gAll M → 0 ≤ x1 → x1 ≤ 80 → ∃ z M', xE D 38 16 [.inr 2, .inl x1, .inl x2, .inl (k : Int)] [] M = rI z M' ∧ M' 1 1 = 0 := by
  have fin : ∀ M : pM, gM gAll M → 0 ≤ x1 → x1 ≤ 80 → ∃ z M', (pbI (xF D 153 [.inr 3, .inl 0] (pset M 0 14 x1)) fun v2 M1 =>
 if ¬ eq32 x2 (-1) then
 rI ((-1) - x2) M1
 else
 some (some (.inl x1), M1)) = rI z M' ∧ M' 1 1 = 0 := fun M hM h1 h2 => by
    rw [(x_cut0 (d := D) (by omega) (gM_f hM (lo := 0) (hi := 80) (by decide +kernel) h1 h2)).1, pbI_rI]
    by_cases q : eq32 x2 (-1)
    · rw [if_neg (fun y => y q)]; exact ⟨_, _, rfl, pset_eq⟩
    · rw [if_pos q]; exact ⟨_, _, rfl, pset_eq⟩
  intro m
  induction m with
  | zero =>
    intro k M hk hM h1 h2
    rw [L_X_aim_16]
    by_cases q : le32 x1 (k : Int)
    · rw [if_pos q]; exact fin M hM h1 h2
    · rw [if_neg q, if_pos (by rw [le32_iff] <;> omega)]; exact fin M hM h1 h2
  | succ m ih =>
    intro k M hk hM h1 h2
    rw [L_X_aim_16]
    by_cases q : le32 x1 (k : Int)
    · rw [if_pos q]; exact fin M hM h1 h2
    · obtain ⟨v, M1, e1, g1, -, b1⟩ := v_at (d := D) (by omega) (a1 := (k : Int)) hM ⟨by omega, by omega⟩
      rw [if_neg q, if_neg (by rw [le32_iff] <;> omega), e1, pbI_rI, if_pos (by omega), Int.toNat_natCast, show ((k : Int) + 1) = ((k + 1 : Nat) : Int) by omega]
      exact ih (k + 1) _ (by omega) (gM_r g1 (lo := -200) (hi := 210) (by decide +kernel) (by decide +kernel) (by omega) (by omega)) h1 h2
theorem t_X_aim {d : Nat} (hd : 5 ≤ d) (hM : gM gAll M) {z : Int} (e : xF d 38 [.inr 2] M = rI z M') : M' 1 1 = 0 := by
  obtain ⟨D, rfl, hD⟩ := dsucc hd
  have r := gm_i hM 1 1 (lo := 0) (hi := 80) (by decide +kernel) (by decide +kernel)
  rw [T_X_aim] at e
  by_cases q : eq32 (M 1 1) 0
  · rw [if_neg (fun y => y q), if_neg (by decide)] at e
    obtain ⟨z2, M2, e2, k2⟩ := x_aim16 (D := D) (by omega) (M 1 1) (-1) 10 0 M (by decide) hM r.1 r.2
    have e3 := e.symm.trans e2
    rw [(rI_inj e3).2]; exact k2
  · obtain ⟨v, M1, e1, g1, -⟩ := v_aimF (d := D) (by omega) hM
    rw [if_pos q, e1, pbI_rI] at e
    by_cases q2 : eq32 v (-1)
    · rw [if_neg (fun y => y q2)] at e
      obtain ⟨z2, M2, e2, k2⟩ := x_aim16 (D := D) (by omega) (M 1 1) v 10 0 M1 (by decide) g1 r.1 r.2
      have e3 := e.symm.trans e2
      rw [(rI_inj e3).2]; exact k2
    · rw [if_pos q2, (x_cut0 (d := D) (by omega) g1).1, pbI_rI, if_pos q2] at e
      rw [← (rI_inj e).2, pset_eq]
/-! the reference -/
theorem m_rule42 : ∀ (m x : Nat) (x1 z : Int) (M M' : pM), x1 ≤ (x : Int) + m → x1 ≤ 80 → x ≤ 80 → xE D 193 42 [.inr 62, .inl x1, .inl (x : Int)] [] M = rI z M' → 0 ≤ x1 → M' 60 14 = M 60 14 := by
  intro m
  induction m with
  | zero =>
    intro x x1 z M M' h1 h2 h3 e h4
    rw [L_M_rule_42, if_pos (by rw [le32_iff] <;> omega)] at e
    rw [← (rI_inj e).2, pset_ne2 (by decide)]
  | succ m ih =>
    intro x x1 z M M' h1 h2 h3 e h4
    rw [L_M_rule_42] at e
    by_cases q : x1 ≤ (x : Int)
    · rw [if_pos (by rw [le32_iff] <;> omega)] at e
      rw [← (rI_inj e).2, pset_ne2 (by decide)]
    · rw [if_neg (by rw [le32_iff] <;> omega), if_pos (by omega)] at e
      by_cases q2 : 0 ≤ (x : Int) ∧ (x : Int) < 40
      · rw [if_pos q2, show ((x : Int) + 1) = ((x + 1 : Nat) : Int) by omega] at e
        rw [ih (x + 1) x1 z _ M' (by omega) h2 (by omega) e h4, pset_ne (by decide)]
      · rw [if_neg q2] at e; cases e
theorem t_M_rule {d : Nat} (hd : 345 ≤ d) (hM : gM gAll M) {z : Int} (e : xF d 193 [.inr 62] M = rI z M') : M' 60 14 = 0 := by
  obtain ⟨D, rfl, hD⟩ := dsucc hd
  obtain ⟨D', rfl, -⟩ := dsucc (show 1 ≤ D by omega)
  have b0 := gm_i hM 60 14 (lo := 0) (hi := 80) (by decide +kernel) (by decide +kernel)
  have gt := gM_thr hM
  have b1 : 0 ≤ pset M 60 17 0 60 14 ∧ pset M 60 17 0 60 14 ≤ 80 := by rw [pset_ne2 (by decide)]; exact b0
  rw [T_M_rule, T_M_begin_68, pbN_rV] at e
  generalize pset M 60 17 0 = M0 at gt b1 e
  have gB : gM gAll (pset (pset (pset (pset (pset (pset (pset M0 60 18 70) 60 19 (M0 60 14)) 60 20 40) 60 21 0) 60 22 (-1)) 60 14 0) 60 26 (-1)) := gM_f (gM_f (gM_f (gM_f (gM_f (gM_f (gM_f gt (lo := 0) (hi := 200) (by decide +kernel) (by omega) (by omega)) (lo := 0) (hi := 80) (by decide +kernel) b1.1 b1.2) (lo := 0) (hi := 80) (by decide +kernel) (by omega) (by omega)) (lo := 0) (hi := 80) (by decide +kernel) (by omega) (by omega)) (lo := -1) (hi := 80) (by decide +kernel) (by omega) (by omega)) (lo := 0) (hi := 80) (by decide +kernel) (by omega) (by omega)) (lo := -1) (hi := 9) (by decide +kernel) (by omega) (by omega)
  have e14 : (pset (pset (pset (pset (pset (pset (pset M0 60 18 70) 60 19 (M0 60 14)) 60 20 40) 60 21 0) 60 22 (-1)) 60 14 0) 60 26 (-1)) 60 14 = 0 := by rw [pset_ne2 (by decide), pset_eq]
  have e18 : (pset (pset (pset (pset (pset (pset (pset M0 60 18 70) 60 19 (M0 60 14)) 60 20 40) 60 21 0) 60 22 (-1)) 60 14 0) 60 26 (-1)) 60 18 = 70 := by
    rw [pset_ne2 (by decide), pset_ne2 (by decide), pset_ne2 (by decide), pset_ne2 (by decide), pset_ne2 (by decide), pset_ne2 (by decide), pset_eq]
  have e20 : (pset (pset (pset (pset (pset (pset (pset M0 60 18 70) 60 19 (M0 60 14)) 60 20 40) 60 21 0) 60 22 (-1)) 60 14 0) 60 26 (-1)) 60 20 = 40 := by
    rw [pset_ne2 (by decide), pset_ne2 (by decide), pset_ne2 (by decide), pset_ne2 (by decide), pset_eq]
  have e21 : (pset (pset (pset (pset (pset (pset (pset M0 60 18 70) 60 19 (M0 60 14)) 60 20 40) 60 21 0) 60 22 (-1)) 60 14 0) 60 26 (-1)) 60 21 = 0 := by
    rw [pset_ne2 (by decide), pset_ne2 (by decide), pset_ne2 (by decide), pset_eq]
  have e22 : (pset (pset (pset (pset (pset (pset (pset M0 60 18 70) 60 19 (M0 60 14)) 60 20 40) 60 21 0) 60 22 (-1)) 60 14 0) 60 26 (-1)) 60 22 = -1 := by
    rw [pset_ne2 (by decide), pset_ne2 (by decide), pset_eq]
  generalize pset (pset (pset (pset (pset (pset (pset M0 60 18 70) 60 19 (M0 60 14)) 60 20 40) 60 21 0) 60 22 (-1)) 60 14 0) 60 26 (-1) = MB at gB e14 e18 e20 e21 e22 e
  generalize M0 60 14 = L at b1 e
  have fin : ∀ M1 : pM, M1 60 14 = 0 → xE (D' + 1) 193 42 [.inr 62, .inl L, .inl 0] [] M1 = rI z M' → M' 60 14 = 0 := fun M1 h1 h2 => by
    rw [m_rule42 80 0 L z M1 M' (by omega) b1.2 (by decide) h2 b1.1]; exact h1
  have tl : ∀ M1 : pM, M1 60 14 = 0 → (pbI (xF (D' + 1) 179 [.inr 62] M1) fun v5 M4 => if ¬ eq32 v5 0 then xE (D' + 1) 193 42 [.inr 62, .inl L, .inl 0] [] M4 else some (some (.inl ((-1) - (M4 60 22))), M4)) = rI z M' → M' 60 14 = 0 := fun M1 h1 h2 => by
    rw [T_M_fine] at h2
    by_cases q : eq32 (M1 60 22) (-1)
    · rw [if_neg (fun y => y q), pbI_rI, if_pos (by decide)] at h2
      exact fin M1 h1 h2
    · rw [if_pos q, pbI_rI, if_neg (fun y => y rfl)] at h2
      rw [← (rI_inj h2).2]; exact h1
  by_cases q : le32 L 0
  · rw [if_pos q] at e; exact fin MB e14 e
  · obtain ⟨v, M2, e2, g2, f2⟩ := v_held (d := D' + 1) (by omega) (a1 := 0) gB (by decide) (by omega) (by omega) (by omega) (by omega)
    have k2 : M2 60 14 = 0 := by rw [f2 60 14 (by decide)]; exact e14
    have b21 := gm_i g2 60 21 (lo := 0) (hi := 80) (by decide +kernel) (by decide +kernel)
    rw [if_neg q, e2, pbI_rI] at e
    by_cases q2 : le32 L (M2 60 21)
    · rw [if_pos q2] at e; exact tl M2 k2 e
    · obtain ⟨M3, e3, g3, f3⟩ := v_fault (d := D' + 1) (by omega) (a1 := M2 60 21) g2 b21
      rw [if_neg q2, e3, pbN_rV] at e
      exact tl M3 (by rw [f3 60 14 (by decide)]; exact k2) e
theorem m_aim54 : ∀ (m x : Nat) (x1 z : Int) (M M' : pM), x1 ≤ (x : Int) + m → x1 ≤ 80 → x ≤ 80 → xE D 255 54 [.inr 62, .inl x1, .inl (x : Int)] [] M = rI z M' → 0 ≤ x1 → M' 60 14 = M 60 14 := by
  intro m
  induction m with
  | zero =>
    intro x x1 z M M' h1 h2 h3 e h4
    rw [L_M_aim_54, if_pos (by rw [le32_iff] <;> omega)] at e
    rw [← (rI_inj e).2, pset_ne2 (by decide), pset_ne2 (by decide)]
  | succ m ih =>
    intro x x1 z M M' h1 h2 h3 e h4
    rw [L_M_aim_54] at e
    by_cases q : x1 ≤ (x : Int)
    · rw [if_pos (by rw [le32_iff] <;> omega)] at e
      rw [← (rI_inj e).2, pset_ne2 (by decide), pset_ne2 (by decide)]
    · rw [if_neg (by rw [le32_iff] <;> omega), if_pos (by omega)] at e
      by_cases q2 : 0 ≤ (x : Int) ∧ (x : Int) < 10
      · rw [if_pos q2, show ((x : Int) + 1) = ((x + 1 : Nat) : Int) by omega] at e
        rw [ih (x + 1) x1 z _ M' (by omega) h2 (by omega) e h4, pset_ne (by decide)]
      · rw [if_neg q2] at e; cases e
theorem m_aim18 (hD : 1 ≤ D) : ∀ (m x : Nat) (x1 z : Int) (M M' : pM), x1 ≤ (x : Int) + m → x1 ≤ 80 → x ≤ 80 → xE D 255 18 [.inr 62, .inl x1, .inl (x : Int)] [] M = rI z M' → 0 ≤ x1 → M' 60 14 = M 60 14 := by
  have fin : ∀ (x1 z : Int) (M M' : pM), x1 ≤ 80 → 0 ≤ x1 → (if le32 (M 60 3) x1 then xE D 255 54 [.inr 62, .inl x1, .inl 0] [] M else some (some (.inl ((-1) - x1)), M)) = rI z M' → M' 60 14 = M 60 14 := fun x1 z M M' h1 h2 e => by
    by_cases q : le32 (M 60 3) x1
    · rw [if_pos q] at e; exact m_aim54 80 0 x1 z M M' (by omega) h1 (by decide) e h2
    · rw [if_neg q] at e; rw [← (rI_inj e).2]
  intro m
  induction m with
  | zero =>
    intro x x1 z M M' h1 h2 h3 e h4
    rw [L_M_aim_18, if_pos (by rw [le32_iff] <;> omega)] at e
    exact fin x1 z M M' h2 h4 e
  | succ m ih =>
    intro x x1 z M M' h1 h2 h3 e h4
    rw [L_M_aim_18] at e
    by_cases q : x1 ≤ (x : Int)
    · rw [if_pos (by rw [le32_iff] <;> omega)] at e
      exact fin x1 z M M' h2 h4 e
    · rw [if_neg (by rw [le32_iff] <;> omega)] at e
      by_cases q2 : eq32 (x : Int) (M 60 3)
      · rw [if_pos q2] at e; rw [← (rI_inj e).2]
      · rw [if_neg q2, if_pos (by omega), m_in hD, pbI_rI, show ((x : Int) + 1) = ((x + 1 : Nat) : Int) by omega] at e
        split at e
        · rw [if_neg (fun y => y rfl)] at e
          rw [← (rI_inj e).2]
        · rw [if_pos (by decide)] at e
          exact ih (x + 1) x1 z M M' (by omega) h2 (by omega) e h4
theorem t_M_aim {d : Nat} (hd : 2 ≤ d) (hM : gM gAll M) {z : Int} (e : xF d 255 [.inr 62] M = rI z M') : M' 60 14 = 0 := by
  obtain ⟨D, rfl, hD⟩ := dsucc hd
  have b0 := gm_i hM 60 14 (lo := 0) (hi := 80) (by decide +kernel) (by decide +kernel)
  rw [T_M_aim, pset_ne2 (show 14 ≠ 17 by decide)] at e
  by_cases q : eq32 (M 60 14) 0
  · rw [if_neg (fun y => y q)] at e
    rw [← (rI_inj e).2, pset_ne2 (by decide), pset_eq]
  · rw [if_pos q] at e
    rw [m_aim18 (by omega) 80 0 (M 60 14) z _ M' (by omega) b0.2 (by decide) e b0.1, pset_eq]
end TX
