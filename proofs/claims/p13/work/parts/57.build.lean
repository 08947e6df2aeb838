/-! calls of the reference that are shown by hand: build -/
/-- a call ends with an int, the ranges hold, it writes w alone -/
def okM (D k : Nat) (A : List pV) (w : List (Nat × Nat)) (M : pM) : Prop := ∃ z M', xF D k A M = rI z M' ∧ gM gAll M' ∧ Fr w M M'
theorem gM_thr {M : pM} (h : gM gAll M) : gM gAll (pset M 60 17 0) := gM_f h (lo := 0) (hi := 1) (by decide +kernel) (by omega) (by omega)
theorem gM_row0 {M : pM} (h : gM gAll M) : gM gAll (pset M 60 16 0) := gM_f h (lo := 0) (hi := 16) (by decide +kernel) (by omega) (by omega)
def wBuild : List (Nat × Nat) := [(60, 16), (60, 17), (60, 30), (60, 39), (60, 40), (61, 999), (69, 999), (72, 999), (73, 999), (78, 999), (79, 999)]
section BUILD
variable {D R : Nat} {M : pM}
theorem m_bd27 (hD : 100 ≤ D) (h1 : 1 ≤ R) (h6 : R ≤ 6) (x1 : Int) {r x2 : Nat} (hr : r < R) (h2 : x2 ≤ 100) : ∀ n (a b : Nat) (y6 : pV) (M : pM), gM gAll M → M 60 0 = (R : Int) → a ≤ b → b ≤ 100 → b - a ≤ n → ∃ (z1 : Int) (z2 : Nat) (y4 y5 y6' : pV) (M' : pM), z2 ≤ 100 ∧ gM gAll M' ∧ Fr wBuild M M' ∧ xE D 248 27 [.inr 62, .inl x1, .inl (x2 : Int), .inl (r : Int), .inl (a : Int), .inl (b : Int), y6] [] M = xE D 248 19 [.inr 62, .inl z1, .inl (z2 : Int), .inl ((r : Int) + 1), y4, y5, y6'] [] M' := by
  have fin : ∀ (a b : Nat) (y6 : pV) (M : pM), gM gAll M → a ≤ 100 → b ≤ 100 → b ≤ a → ∃ (z1 : Int) (z2 : Nat) (y4 y5 y6' : pV) (M' : pM), z2 ≤ 100 ∧ gM gAll M' ∧ Fr wBuild M M' ∧ xE D 248 27 [.inr 62, .inl x1, .inl (x2 : Int), .inl (r : Int), .inl (a : Int), .inl (b : Int), y6] [] M = xE D 248 19 [.inr 62, .inl z1, .inl (z2 : Int), .inl ((r : Int) + 1), y4, y5, y6'] [] M' := by
    intro a b y6 M hM ha hb hab
    rw [L_M_build_27, if_pos (by rw [le32_iff] <;> omega)]
    by_cases q : lt32 (a : Int) (x2 : Int)
    · rw [if_pos q]
      exact ⟨r, a, .inl (a : Int), .inl (b : Int), y6, M, ha, hM, Fr_rfl, rfl⟩
    · rw [if_neg q]
      exact ⟨x1, x2, .inl (a : Int), .inl (b : Int), y6, M, h2, hM, Fr_rfl, rfl⟩
  intro n
  induction n with
  | zero => intro a b y6 M hM h0 hab hb hn; exact fin a b y6 M hM (by omega) hb (by omega)
  | succ n ih =>
    intro a b y6 M hM h0 hab hb hn
    by_cases e : b ≤ a
    · exact fin a b y6 M hM (by omega) hb e
    · have em : jdiv ((a : Int) + (b : Int)) 2 = (((a + b) / 2 : Nat) : Int) := by
        rw [show (a : Int) + (b : Int) = ((a + b : Nat) : Int) by omega, show (2 : Int) = ((2 : Nat) : Int) from rfl, jdiv_nat (by omega) (by omega) (by omega)]
      obtain ⟨v, M1, e1, g1, f1, -⟩ := u_enough (d := D) (by omega) (a1 := (r : Int)) (a2 := (((a + b) / 2 : Nat) : Int)) hM ⟨by omega, by omega⟩ ⟨by omega, by omega⟩ ⟨by omega, by omega⟩
      have f2 : Fr wBuild M M1 := Fr_mono f1 (by decide)
      rw [L_M_build_27, if_neg (by rw [le32_iff] <;> omega), em, e1, pbI_rI]
      by_cases q : eq32 v 0
      · rw [if_pos q, show (((a + b) / 2 : Nat) : Int) + 1 = (((a + b) / 2 + 1 : Nat) : Int) by omega]
        obtain ⟨z1, z2, y4, y5, y6', M', c1, c2, c3, c4⟩ := ih ((a + b) / 2 + 1) b (.inl (((a + b) / 2 : Nat) : Int)) M1 g1 (by rw [f1 60 0 (by decide)]; exact h0) (by omega) hb (by omega)
        exact ⟨z1, z2, y4, y5, y6', M', c1, c2, Fr_tr f2 c3, c4⟩
      · rw [if_neg q]
        obtain ⟨z1, z2, y4, y5, y6', M', c1, c2, c3, c4⟩ := ih a ((a + b) / 2) (.inl (((a + b) / 2 : Nat) : Int)) M1 g1 (by rw [f1 60 0 (by decide)]; exact h0) (by omega) (by omega) (by omega)
        exact ⟨z1, z2, y4, y5, y6', M', c1, c2, Fr_tr f2 c3, c4⟩
theorem m_tell1 (hD : 100 ≤ D) (hM : gM gAll M) (v : Int) : ∃ M', xF D 172 [.inr 62, .inl v] (pset M 60 16 0) = rV M' ∧ gM gAll M' ∧ Fr [(60, 16), (69, 999)] M M' := by
  obtain ⟨M', e, g, f⟩ := u_tell (d := D) (by omega) (a1 := v) (gM_row0 hM) ⟨by rw [pset_eq]; omega, by rw [pset_eq]; omega⟩
  exact ⟨M', e, g, Fr_tr (Fr_set Fr_rfl (by decide)) f⟩
theorem m_bd19 (hD : 100 ≤ D) (h1 : 1 ≤ R) (h6 : R ≤ 6) : ∀ m r (x1 : Int) (x2 : Nat) (y4 y5 y6 : pV) (M : pM), r + m = R → x2 ≤ 100 → gM gAll M → M 60 0 = (R : Int) → ∃ z M', xE D 248 19 [.inr 62, .inl x1, .inl (x2 : Int), .inl (r : Int), y4, y5, y6] [] M = rI z M' ∧ gM gAll M' ∧ Fr wBuild M M' := by
  intro m
  induction m with
  | zero =>
    intro r x1 x2 y4 y5 y6 M hr h2 hM h0
    rw [L_M_build_19, h0, if_pos (by rw [le32_iff] <;> omega)]
    by_cases q1 : eq32 x1 (-1)
    · rw [if_neg (fun z => z q1)]
      exact ⟨_, M, rfl, hM, Fr_rfl⟩
    · rw [if_pos q1]
      by_cases q2 : eq32 (x2 : Int) 0
      · rw [if_neg (fun z => z q2)]
        obtain ⟨M', e, g, f⟩ := m_tell1 hD hM (-1)
        rw [e, pbN_rV]
        exact ⟨_, M', rfl, g, Fr_mono f (by decide)⟩
      · rw [if_pos q2]
        obtain ⟨M', e, g, f⟩ := m_tell1 hD hM x1
        rw [e, pbN_rV]
        exact ⟨_, M', rfl, g, Fr_mono f (by decide)⟩
  | succ m ih =>
    intro r x1 x2 y4 y5 y6 M hr h2 hM h0
    rw [L_M_build_19, h0, if_neg (by rw [le32_iff] <;> omega)]
    obtain ⟨z1, z2, y4', y5', y6', M', c1, c2, c3, c4⟩ := m_bd27 hD h1 h6 x1 (r := r) (x2 := x2) (by omega) h2 100 0 x2 y6 M hM h0 (by omega) h2 (by omega)
    rw [show (.inl 0 : pV) = .inl ((0 : Nat) : Int) from rfl, c4, show ((r : Int) + 1) = ((r + 1 : Nat) : Int) by omega]
    obtain ⟨z, M'', e, g, f⟩ := ih (r + 1) z1 z2 y4' y5' y6' M' (by omega) c1 c2 (by rw [c3 60 0 (by decide)]; exact h0)
    exact ⟨z, M'', e, g, Fr_tr c3 f⟩
theorem r_build {d : Nat} (hd : 101 ≤ d) (hM : gM gAll M) : okM d 248 [.inr 62] wBuild M := by
  obtain ⟨D, rfl, hD⟩ := dsucc hd
  have hb := gm_i hM 60 0 (lo := 0) (hi := 6) (by decide +kernel) (by decide +kernel)
  obtain ⟨R, hR⟩ := natI hb.1
  unfold okM
  rw [T_M_build, pset_ne2 (by decide), hR]
  have gt := gM_thr hM
  have ft : Fr wBuild M (pset M 60 17 0) := Fr_set Fr_rfl (by decide)
  by_cases q : eq32 (R : Int) 0
  · rw [if_neg (fun z => z q)]
    exact ⟨_, _, rfl, gt, ft⟩
  · rw [if_pos q]
    have hR0 : R ≠ 0 := fun z => q (by rw [z]; rfl)
    have h0 : pset M 60 17 0 60 0 = (R : Int) := by rw [pset_ne2 (by decide)]; exact hR
    obtain ⟨v, M1, e, g, f, -⟩ := u_tooMuch (d := D) (by omega) gt ⟨by rw [h0]; omega, by rw [h0]; omega⟩
    have f1 : Fr wBuild M M1 := Fr_tr ft (Fr_mono f (by decide))
    rw [e, pbI_rI]
    by_cases q2 : eq32 v 0
    · rw [if_pos q2]
      obtain ⟨z, M2, e2, g2, f2⟩ := m_bd19 (R := R) hD (by omega) (by omega) R 0 (-1) 100 (.inr 0) (.inr 0) (.inr 0) M1 (by omega) (by omega) g (by rw [f 60 0 (by decide)]; exact h0)
      exact ⟨z, M2, e2, g2, Fr_tr f1 f2⟩
    · rw [if_neg q2]
      exact ⟨_, M1, rfl, g, f1⟩
end BUILD
