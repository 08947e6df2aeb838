/-! calls of the reference that are shown by hand: weakest, evenings -/
def wWk : List (Nat × Nat) := [(60, 16), (60, 17), (60, 30), (60, 39), (60, 40), (60, 48), (60, 49), (69, 999), (72, 999), (73, 999), (74, 999), (78, 999), (79, 999), (83, 999), (84, 999), (85, 999), (86, 999)]
section WEAK
variable {D d T : Nat} {M : pM}
theorem FAr_Fr {M' : pM} {w : List (Nat × Nat)} (a : Fr w M M') (h1 : wOK w 60 48 = false) (h2 : wOK w 60 49 = false) (h : FAr M) : FAr M' := by
  obtain ⟨n, k1, k2, k3, k4⟩ := h
  exact ⟨n, by rw [a 60 48 h1]; exact k1, k2, k3, by rw [a 60 49 h2]; exact k4⟩
theorem m_wk32 (hD : 400 ≤ D) : ∀ (m v : Nat) (M : pM), v + m = 1000 → gM gAll M → FAr M → M 60 49 ≠ -1 → ∃ z M', xE D 264 32 [.inr 62, .inl (v : Int)] [] M = rI z M' ∧ gM gAll M' ∧ Fr wWk M M' := by
  intro m
  induction m with
  | zero =>
    intro v M hv hM h h49
    rw [L_M_weakest_32, if_pos (by rw [lt32_iff] <;> omega)]
    exact ⟨_, M, rfl, hM, Fr_rfl⟩
  | succ m ih =>
    intro v M hv hM h h49
    obtain ⟨z, M1, e1, g1, f1, -⟩ := u_isCost (d := D) (by omega) (a1 := (v : Int)) hM ⟨by omega, by omega⟩
    have F1 : Fr wWk M M1 := Fr_mono f1 (by decide)
    have h1 := FAr_Fr f1 (by decide) (by decide) h
    have k49 : M1 60 49 ≠ -1 := by rw [f1 60 49 (by decide)]; exact h49
    have e2 : ((v : Int) + 1) = ((v + 1 : Nat) : Int) := by omega
    rw [L_M_weakest_32, if_neg (by rw [lt32_iff] <;> omega), e1, pbI_rI, e2]
    by_cases q : eq32 z 0
    · rw [if_neg (fun y => y q)]
      obtain ⟨z', M', e, g, f⟩ := ih (v + 1) M1 (by omega) g1 h1 k49
      exact ⟨z', M', e, g, Fr_tr F1 f⟩
    · rw [if_pos q]
      obtain ⟨M3, N, e3, g3, f3, -, -⟩ := m_findEv (d := D) (mo := (v : Int)) (by omega) g1 h1 k49 (by omega) (by omega)
      have F3 : Fr wWk M M3 := Fr_tr F1 (Fr_mono f3 (by decide))
      rw [e3, pbN_rV]
      by_cases q2 : lt32 (M3 85 0) 1000000
      · rw [if_pos q2]
        obtain ⟨M4, e4, g4, f4⟩ := m_tell1 (D := D) (by omega) g3 ((pset M3 60 16 0) 85 0)
        rw [e4, pbN_rV]
        exact ⟨_, M4, rfl, g4, Fr_tr F3 (Fr_mono f4 (by decide))⟩
      · rw [if_neg q2]
        obtain ⟨z', M', e, g, f⟩ := ih (v + 1) M3 (by omega) g3 (FAr_Fr f3 (by decide) (by decide) h1) (by rw [f3 60 49 (by decide)]; exact k49)
        exact ⟨z', M', e, g, Fr_tr F3 f⟩
/-- what weakest and evenings have in common -/
theorem m_aimed (hD : 402 ≤ D) (hM : gM gAll M) (h1 : 1 ≤ M 60 0) (h38 : M 60 38 = 0) (F : pM → Option pR) (hF : ∀ M5, gM gAll M5 → Fr wWk M M5 → FAr M5 → M5 60 49 ≠ -1 → ∃ z M', F M5 = rI z M' ∧ gM gAll M' ∧ Fr wWk M M') : ∃ z M', (pbI (xF D 256 [.inr 62] (pset M 60 17 0)) fun v2 M1 => if ¬ eq32 v2 0 then (pbI (xF D 261 [.inr 62] M1) fun v4 M3 => if eq32 v4 0 then (pbI (xF D 260 [.inr 62] M3) fun v6 M5 => if ¬ eq32 v6 0 then (if ¬ eq32 (M5 60 49) (-1) then F M5 else some (some (.inl (-2)), M5)) else some (some (.inl (-3)), M5)) else (pbN (xF D 172 [.inr 62, .inl 0] (pset M3 60 16 0)) fun M7 => some (some (.inl 0), M7))) else some (some (.inl (-4)), M1)) = rI z M' ∧ gM gAll M' ∧ Fr wWk M M' := by
  have gt := gM_thr hM
  have ft : Fr wWk M (pset M 60 17 0) := Fr_set Fr_rfl (by decide)
  obtain ⟨v2, M1, e1, g1, f1, -⟩ := u_hasAim (d := D) (by omega) gt
  have F1 : Fr wWk M M1 := Fr_tr ft (Fr_mono f1 (by decide))
  rw [e1, pbI_rI]
  by_cases q1 : eq32 v2 0
  · rw [if_neg (fun y => y q1)]
    exact ⟨_, M1, rfl, g1, F1⟩
  · rw [if_pos q1]
    obtain ⟨v4, M3, e3, g3, f3, -⟩ := u_isThere (d := D) (by omega) g1
    have F3 : Fr wWk M M3 := Fr_tr F1 (Fr_mono f3 (by decide))
    rw [e3, pbI_rI]
    by_cases q2 : eq32 v4 0
    · rw [if_pos q2]
      obtain ⟨v6, M5, e5, g5, f5, r5⟩ := m_findAims (d := D) (by omega) g3 (by rw [F3 60 0 (by decide)]; exact h1) (by rw [F3 60 38 (by decide)]; exact h38)
      have F5 : Fr wWk M M5 := Fr_tr F3 (Fr_mono f5 (by decide))
      rw [e5, pbI_rI]
      by_cases q3 : eq32 v6 0
      · rw [if_neg (fun y => y q3)]
        exact ⟨_, M5, rfl, g5, F5⟩
      · rw [if_pos q3]
        by_cases q4 : eq32 (M5 60 49) (-1)
        · rw [if_neg (fun y => y q4)]
          exact ⟨_, M5, rfl, g5, F5⟩
        · rw [if_pos q4]
          rcases r5 with r5 | ⟨-, r5⟩
          · exact absurd (by rw [r5]) q3
          · exact hF M5 g5 F5 r5 (fun y => q4 (by rw [y]))
    · rw [if_neg q2]
      obtain ⟨M4, e4, g4, f4⟩ := m_tell1 (D := D) (by omega) g3 0
      rw [e4, pbN_rV]
      exact ⟨_, M4, rfl, g4, Fr_tr F3 (Fr_mono f4 (by decide))⟩
theorem r_weakest {d : Nat} (hd : 403 ≤ d) (hM : gM gAll M) (h1 : 1 ≤ M 60 0) (h38 : M 60 38 = 0) : okM d 264 [.inr 62] wWk M := by
  obtain ⟨D, rfl, hD⟩ := dsucc hd
  unfold okM
  rw [T_M_weakest]
  refine m_aimed hD hM h1 h38 (fun M5 => xE D 264 32 [.inr 62, .inl 1] [] M5) (fun M5 g5 F5 r5 k5 => ?_)
  obtain ⟨z, M', e, g, f⟩ := m_wk32 (D := D) (by omega) 999 1 M5 (by omega) g5 r5 k5
  exact ⟨z, M', e, g, Fr_tr F5 f⟩
theorem m_ev89 (hD : 1 ≤ D) {k : Nat} (hk : k ≤ 300) : ∀ m t (M : pM), t + m = T → T ≤ 10 → gM gAll M → M 60 3 = (T : Int) → M 60 16 = ((t + 1 : Nat) : Int) → ∃ z M', xE D 263 89 [.inr 62, .inl (k : Int), .inl (t : Int)] [] M = rI z M' ∧ gM gAll M' ∧ Fr [(60, 16), (69, 999)] M M' := by
  intro m
  induction m with
  | zero =>
    intro t M ht hT hM h3 h16
    rw [L_M_evenings_89, h3, if_pos (by rw [le32_iff] <;> omega)]
    exact ⟨_, M, rfl, hM, Fr_rfl⟩
  | succ m ih =>
    intro t M ht hT hM h3 h16
    obtain ⟨M1, e1, g1, f1, k1⟩ := m_tellS (D := D) (n := t + 1) hD (by omega) h16 hM (M 83 ((10 * (k : Int) + (t : Int)).toNat))
    rw [L_M_evenings_89, h3, if_neg (by rw [le32_iff] <;> omega), if_pos (by omega), e1, pbN_rV, show ((t : Int) + 1) = ((t + 1 : Nat) : Int) by omega]
    obtain ⟨z, M', e, g, f⟩ := ih (t + 1) M1 (by omega) hT g1 (by rw [f1 60 3 (by decide)]; exact h3) k1
    exact ⟨z, M', e, g, Fr_tr f1 f⟩
theorem m_ev44 (hD : 1 ≤ D) (hT : T ≤ 10) (hM : gM gAll M) (h3 : M 60 3 = (T : Int)) {b : Nat} (hb : b ≤ 300) (w1 : M 85 b = M 85 0 - 1) (w2 : M 84 b ≤ M 60 12) (w3 : M 86 0 = M 86 b + M 84 b) : ∀ m k, k + m = b → 1 ≤ k → ∃ z M', xE D 263 44 [.inr 62, .inl (k : Int), .inr 0] [] M = rI z M' ∧ gM gAll M' ∧ Fr [(60, 16), (69, 999)] M M' := by
  have fin : ∀ k : Nat, k ≤ 300 → ∃ z M', (pbN (xF D 172 [.inr 62, .inl ((pset M 60 16 0) 86 0)] (pset M 60 16 0)) fun M1 => xE D 263 89 [.inr 62, .inl (k : Int), .inl 0] [] M1) = rI z M' ∧ gM gAll M' ∧ Fr [(60, 16), (69, 999)] M M' := by
    intro k hk
    obtain ⟨M1, e1, g1, f1, k1⟩ := m_tellS (D := D) (M := pset M 60 16 0) (n := 0) hD (by decide) pset_eq (gM_row0 hM) ((pset M 60 16 0) 86 0)
    have F1 : Fr [(60, 16), (69, 999)] M M1 := Fr_tr (Fr_set Fr_rfl (by decide)) f1
    obtain ⟨z, M', e, g, f⟩ := m_ev89 (T := T) hD hk T 0 M1 (by omega) hT g1 (by rw [F1 60 3 (by decide)]; exact h3) k1
    rw [e1, pbN_rV, show (.inl 0 : pV) = .inl ((0 : Nat) : Int) from rfl, e]
    exact ⟨z, M', rfl, g, Fr_tr F1 f⟩
  have s0 := gm_i hM 60 12 (lo := 1) (hi := 999) (by decide +kernel) (by decide +kernel)
  intro m
  induction m with
  | zero =>
    intro k hk hk1
    have c0 := gm_r hM (o := 84) (lo := 0) (hi := 100000000) (by decide +kernel) (by decide +kernel) (k := k) (show k < 90601 by omega)
    have e : k = b := by omega
    subst e
    rw [L_M_evenings_44, if_pos (by omega), Int.toNat_natCast, if_neg (fun z => z (by rw [w1])), if_pos (by omega), if_neg (by rw [lt32_iff] <;> omega), if_pos (by omega), if_pos (by omega), if_pos (by rw [w3])]
    exact fin k hb
  | succ m ih =>
    intro k hk hk1
    have nx := ih (k + 1) (by omega) (by omega)
    rw [show ((k + 1 : Nat) : Int) = (k : Int) + 1 by omega] at nx
    rw [L_M_evenings_44, if_pos (by omega), Int.toNat_natCast]
    by_cases q1 : eq32 (M 85 k) (M 85 0 - 1)
    · rw [if_neg (fun z => z q1), if_pos (by omega)]
      by_cases q2 : lt32 (M 60 12) (M 84 k)
      · rw [if_pos q2]; exact nx
      · rw [if_neg q2, if_pos (by omega), if_pos (by omega)]
        by_cases q3 : eq32 (M 86 k + M 84 k) (M 86 0)
        · rw [if_pos q3]; exact fin k (by omega)
        · rw [if_neg q3]; exact nx
    · rw [if_pos q1]; exact nx
theorem r_evenings {d : Nat} (hd : 403 ≤ d) (hM : gM gAll M) (h1 : 1 ≤ M 60 0) (h38 : M 60 38 = 0) : okM d 263 [.inr 62] wWk M := by
  obtain ⟨D, rfl, hD⟩ := dsucc hd
  unfold okM
  rw [T_M_evenings]
  refine m_aimed hD hM h1 h38 (fun M5 => (pbN (xF D 262 [.inr 62, .inl (M5 60 12)] M5) fun M7 => if lt32 (M7 85 0) 1000000 then xE D 263 44 [.inr 62, .inl 1, .inr 0] [] M7 else some (some (.inl (-2)), M7))) (fun M5 g5 F5 r5 k5 => ?_)
  have s0 := gm_i g5 60 12 (lo := 1) (hi := 999) (by decide +kernel) (by decide +kernel)
  obtain ⟨M7, N, e7, g7, f7, w7, hN⟩ := m_findEv (d := D) (mo := M5 60 12) (by omega) g5 r5 k5 (by omega) (by omega)
  have F7 : Fr wWk M M7 := Fr_tr F5 (Fr_mono f7 (by decide))
  rw [e7, pbN_rV]
  by_cases q : lt32 (M7 85 0) 1000000
  · rw [if_pos q]
    rcases w7 with w7 | ⟨b, e, y1, y2, y3, y4, y5, y6⟩
    · rw [w7] at q
      exact absurd q (by decide)
    · have t0 := gm_i g7 60 3 (lo := 0) (hi := 10) (by decide +kernel) (by decide +kernel)
      obtain ⟨T, hT⟩ := natI t0.1
      obtain ⟨z, M', e', g, f⟩ := m_ev44 (D := D) (T := T) (M := M7) (by omega) (by omega) g7 hT (b := b) (by omega) (by omega) (by rw [f7 60 12 (by decide)]; exact y5) y6 (b - 1) 1 (by omega) (by omega)
      rw [show (.inl 1 : pV) = .inl ((1 : Nat) : Int) from rfl, e']
      exact ⟨z, M', rfl, g, Fr_tr F7 (Fr_mono f (by decide))⟩
  · rw [if_neg q]
    exact ⟨_, M7, rfl, g7, F7⟩
end WEAK
