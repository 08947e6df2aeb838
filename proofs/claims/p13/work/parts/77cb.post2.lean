/-! strength and keep: what they answer, on both sides -/
section TY
variable {D d : Nat} {M M' : pM}
theorem pbN_inv {x : Option pR} {f : pM → Option pR} {r : pR} (h : pbN x f = some r) : ∃ M1, x = rV M1 ∧ f M1 = some r := by
  unfold pbN at h
  split at h
  · exact ⟨_, rfl, h⟩
  · cases h
theorem t_X_strength {d : Nat} (hd : 1 ≤ d) {b z : Int} (h1 : -2147483648 ≤ b) (h2 : b ≤ 2147483647) (e : xF d 9 [.inr 2, .inl b] M = rI z M') : z = (if 1 ≤ b ∧ b ≤ 999 then M 0 17 else -1) ∧ M' 0 17 = (if 1 ≤ b ∧ b ≤ 999 then b else M 0 17) := by
  obtain ⟨D, rfl, -⟩ := dsucc hd
  rw [T_X_strength] at e
  by_cases q : b < 1
  · rw [if_pos (by rw [lt32_iff] <;> omega)] at e
    rw [if_neg (by omega), if_neg (by omega), (rI_inj e).2]
    exact ⟨(rI_inj e).1.symm, rfl⟩
  · rw [if_neg (by rw [lt32_iff] <;> omega)] at e
    by_cases q2 : b ≤ 999
    · rw [if_pos (by rw [le32_iff] <;> omega)] at e
      rw [if_pos (by omega), if_pos (by omega), ← (rI_inj e).2, pset_eq]
      exact ⟨(rI_inj e).1.symm, rfl⟩
    · rw [if_neg (by rw [le32_iff] <;> omega)] at e
      rw [if_neg (by omega), if_neg (by omega), (rI_inj e).2]
      exact ⟨(rI_inj e).1.symm, rfl⟩
theorem t_M_strength {d : Nat} (hd : 2 ≤ d) {b z : Int} (h1 : -2147483648 ≤ b) (h2 : b ≤ 2147483647) (e : xF d 205 [.inr 62, .inl b] M = rI z M') : z = (if 1 ≤ b ∧ b ≤ 999 then M 60 12 else -1) ∧ M' 60 12 = (if 1 ≤ b ∧ b ≤ 999 then b else M 60 12) := by
  obtain ⟨D, rfl, hD⟩ := dsucc hd
  rw [T_M_strength, m_in (by omega), pbI_rI] at e
  by_cases q : 1 ≤ b ∧ b ≤ 999
  · have hz : ¬ (lt32 b 1 ∨ lt32 999 b) := by
      rw [lt32_iff (by omega) (by omega) (by omega) (by omega), lt32_iff (by omega) (by omega) (by omega) (by omega)]
      omega
    rw [if_neg hz, if_pos (by decide), pset_ne2 (show 12 ≠ 17 by decide)] at e
    rw [if_pos q, if_pos q, ← (rI_inj e).2, pset_eq]
    exact ⟨(rI_inj e).1.symm, rfl⟩
  · have hz : lt32 b 1 ∨ lt32 999 b := by
      rw [lt32_iff (by omega) (by omega) (by omega) (by omega), lt32_iff (by omega) (by omega) (by omega) (by omega)]
      omega
    rw [if_pos hz, if_neg (fun y => y rfl)] at e
    rw [if_neg q, if_neg q, ← (rI_inj e).2, pset_ne2 (show 12 ≠ 17 by decide)]
    exact ⟨(rI_inj e).1.symm, rfl⟩
theorem t_X_keep {d : Nat} (hd : 2 ≤ d) {b z : Int} (h1 : -2147483648 ≤ b) (h2 : b ≤ 2147483647) (e : xF d 43 [.inr 2, .inl b] M = rI z M') : z = if 0 ≤ b ∧ b ≤ 1 then 1 else 0 := by
  obtain ⟨D, rfl, hD⟩ := dsucc hd
  obtain ⟨D', rfl, -⟩ := dsucc (show 1 ≤ D by omega)
  rw [T_X_keep, T_X_keptAt] at e
  have no : pbR (some (some (.inr 1), M) : Option pR) (fun k2 M1 => xE (D' + 1) 43 3 [.inr 2, .inl b, .inr 0] [.inr (k2 + 1)] M1) = rI 0 M := L_X_keep_n_3 (D' + 1) b M
  by_cases q : b < 0
  · rw [if_pos (by rw [lt32_iff] <;> omega), no] at e
    rw [if_neg (by omega)]; exact (rI_inj e).1.symm
  · rw [if_neg (by rw [lt32_iff] <;> omega)] at e
    by_cases q2 : 2 ≤ b
    · rw [if_pos (by rw [le32_iff] <;> omega), no] at e
      rw [if_neg (by omega)]; exact (rI_inj e).1.symm
    · rw [if_neg (by rw [le32_iff] <;> omega), if_pos (by omega)] at e
      rw [if_pos (by omega)]
      have hb : b = 0 ∨ b = 1 := by omega
      rcases hb with rfl | rfl
      · have e2 : xE (D' + 1) 43 3 [.inr 2, .inl 0, .inr 0] [.inr 46] M = rI z M' := e
        rw [L_X_keep_44_3] at e2
        obtain ⟨M1, -, e3⟩ := pbN_inv e2
        exact (rI_inj e3).1.symm
      · have e2 : xE (D' + 1) 43 3 [.inr 2, .inl 1, .inr 0] [.inr 48] M = rI z M' := e
        rw [L_X_keep_46_3] at e2
        obtain ⟨M1, -, e3⟩ := pbN_inv e2
        exact (rI_inj e3).1.symm
theorem m_keep23 (x1 : Int) : ∀ (m x : Nat) (z : Int) (M M' : pM), x + m = 10 → xE D 266 23 [.inr 62, .inl x1, .inl (x : Int)] [] M = rI z M' → z = 1 := by
  intro m
  induction m with
  | zero =>
    intro x z M M' hx e
    rw [L_M_keep_23, if_pos (by rw [le32_iff] <;> omega)] at e
    split at e
    · split at e
      · exact (rI_inj e).1.symm
      · cases e
    · cases e
  | succ m ih =>
    intro x z M M' hx e
    rw [L_M_keep_23, if_neg (by rw [le32_iff] <;> omega), show ((x : Int) + 1) = ((x + 1 : Nat) : Int) by omega] at e
    split at e
    · split at e
      · exact ih (x + 1) z _ M' (by omega) e
      · cases e
    · cases e
theorem t_M_keep {d : Nat} (hd : 2 ≤ d) {b z : Int} (h1 : -2147483648 ≤ b) (h2 : b ≤ 2147483647) (e : xF d 266 [.inr 62, .inl b] M = rI z M') : z = if 0 ≤ b ∧ b ≤ 1 then 1 else 0 := by
  obtain ⟨D, rfl, hD⟩ := dsucc hd
  rw [T_M_keep, m_in (by omega), pbI_rI] at e
  by_cases q : 0 ≤ b ∧ b ≤ 1
  · have hz : ¬ (lt32 b 0 ∨ lt32 1 b) := by
      rw [lt32_iff (by omega) (by omega) (by omega) (by omega), lt32_iff (by omega) (by omega) (by omega) (by omega)]
      omega
    rw [if_neg hz, if_pos (by decide), if_pos (by omega), if_pos (by omega)] at e
    rw [if_pos q]
    exact m_keep23 (D := D) b 10 0 z _ M' (by decide) e
  · have hz : lt32 b 0 ∨ lt32 1 b := by
      rw [lt32_iff (by omega) (by omega) (by omega) (by omega), lt32_iff (by omega) (by omega) (by omega) (by omega)]
      omega
    rw [if_pos hz, if_neg (fun y => y rfl)] at e
    rw [if_neg q]; exact (rI_inj e).1.symm
end TY
