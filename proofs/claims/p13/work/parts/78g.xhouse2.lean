/-! house of the class: what it answers, which house it leaves -/
theorem pcp_ne {M : pM} {a b n o i : Nat} (h : o ≠ b) : pcp M a b n o i = M o i := if_neg (fun z => h z.1)
theorem pcp_eq {M : pM} {a b n i : Nat} (h : i < n) : pcp M a b n b i = M a i := if_pos ⟨rfl, h⟩
theorem rV_inj {M1 M2 : pM} (h : (rV M1 : Option pR) = rV M2) : M1 = M2 := by cases h; rfl
theorem phS_n (tx : Nat → Int) (st : Nat) : ∀ (f a : Nat) (h : pM) (n : Nat), (phS tx st f a h n).2.2 ≤ n + f
  | 0, a, h, n => Nat.le_refl _
  | f + 1, a, h, n => by
    have hu : phS tx st (f + 1) a h n = match (lnS tx st h a).1 with
      | .inl p => (.inl p, (lnS tx st h a).2, n + 1)
      | .inr b => if hc tx st b = 59 then phS tx st f (b + 1) (lnS tx st h a).2 (n + 1) else (.inr b, (lnS tx st h a).2, n + 1) := rfl
    rw [hu]
    cases (lnS tx st h a).1 with
    | inl p => show n + 1 ≤ _; omega
    | inr b =>
      dsimp only
      split
      · have := phS_n tx st f (b + 1) (lnS tx st h a).2 (n + 1); omega
      · show n + 1 ≤ _; omega
section XHS
variable {tx : Nat → Int} {d D L : Nat} {M M' h : pM}
theorem x_become17 (hd : 2 ≤ d) (X : XH M h) (W : BD h) : ∃ M', xF d 62 [.inr 19, .inr 9] M = rV M' ∧ YH M' h ∧ ∀ o i, ¬ (17 ≤ o ∧ o ≤ 26) → M' o i = M o i := by
  obtain ⟨D, rfl, hD⟩ := dsucc hd
  obtain ⟨x1, x2, x3, x4, x5, x6, x7⟩ := X
  have w1 := W.1
  have w2 := W.2.1
  have w3 := W.2.2
  rw [T_House_become_17_7, c_copy_8_18 (by omega), pbN_rV, c_copy_9_19 (by omega), pbN_rV, c_copy_10_20 (by omega), pbN_rV, c_copy_11_21 (by omega), pbN_rV, c_copy_12_22 (by omega), pbN_rV, c_copy_13_23 (by omega), pbN_rV, c_copy_14_24 (by omega), pbN_rV, c_copy_15_25 (by omega), pbN_rV, c_copy_16_26 (by omega), pbN_rV]
  refine ⟨_, rfl, ⟨?_, ?_, ?_, fun r hr => ?_, fun p hp => ?_, fun t ht => ⟨?_, ?_, ?_, ?_⟩, fun s hs => ?_⟩, fun o i ho => ?_⟩
  · simp (disch := decide) only [pset_ne2, pset_ne, pset_eq, pcp_ne]; exact x1
  · simp (disch := decide) only [pset_ne2, pset_ne, pset_eq, pcp_ne]; exact x2
  · simp (disch := decide) only [pset_ne2, pset_ne, pset_eq, pcp_ne]; exact x3
  · have hr6 : r < 6 := by omega
    simp (disch := first | decide | assumption) only [pset_ne, pcp_ne, pcp_eq]; exact x4 r hr
  · simp (disch := first | decide | assumption) only [pset_ne, pcp_ne, pcp_eq]; exact x5 p hp
  · have h10 : t < 10 := by omega
    simp (disch := first | decide | assumption) only [pset_ne, pcp_ne, pcp_eq]; exact (x6 t ht).1
  · have h10 : t < 10 := by omega
    simp (disch := first | decide | assumption) only [pset_ne, pcp_ne, pcp_eq]; exact (x6 t ht).2.1
  · have h10 : t < 10 := by omega
    simp (disch := first | decide | assumption) only [pset_ne, pcp_ne, pcp_eq]; exact (x6 t ht).2.2.1
  · have h10 : t < 10 := by omega
    simp (disch := first | decide | assumption) only [pset_ne, pcp_ne, pcp_eq]; exact (x6 t ht).2.2.2
  · have h8 : s < 8 := by omega
    simp (disch := first | decide | assumption) only [pset_ne, pcp_ne, pcp_eq]; exact x7 s hs
  · rw [pset_ne (by omega), pset_ne (by omega), pset_ne (by omega), pset_ne (by omega), pcp_ne (by omega), pcp_ne (by omega), pcp_ne (by omega), pcp_ne (by omega), pcp_ne (by omega), pcp_ne (by omega), pcp_ne (by omega), pcp_ne (by omega), pcp_ne (by omega)]
theorem x_become7 (hd : 2 ≤ d) (Y : YH M h) (w1 : hR h ≤ 6) (w2 : hT h ≤ 10) (w3 : hS h ≤ 8) : ∃ M', xF d 62 [.inr 9, .inr 19] M = rV M' ∧ XH M' h := by
  obtain ⟨D, rfl, hD⟩ := dsucc hd
  obtain ⟨x1, x2, x3, x4, x5, x6, x7⟩ := Y
  rw [T_House_become_7_17, c_copy_18_8 (by omega), pbN_rV, c_copy_19_9 (by omega), pbN_rV, c_copy_20_10 (by omega), pbN_rV, c_copy_21_11 (by omega), pbN_rV, c_copy_22_12 (by omega), pbN_rV, c_copy_23_13 (by omega), pbN_rV, c_copy_24_14 (by omega), pbN_rV, c_copy_25_15 (by omega), pbN_rV, c_copy_26_16 (by omega), pbN_rV]
  refine ⟨_, rfl, ⟨?_, ?_, ?_, fun r hr => ?_, fun p hp => ?_, fun t ht => ⟨?_, ?_, ?_, ?_⟩, fun s hs => ?_⟩⟩
  · simp (disch := decide) only [pset_ne2, pset_ne, pset_eq, pcp_ne]; exact x1
  · simp (disch := decide) only [pset_ne2, pset_ne, pset_eq, pcp_ne]; exact x2
  · simp (disch := decide) only [pset_ne2, pset_ne, pset_eq, pcp_ne]; exact x3
  · have hr6 : r < 6 := by omega
    simp (disch := first | decide | assumption) only [pset_ne, pcp_ne, pcp_eq]; exact x4 r hr
  · simp (disch := first | decide | assumption) only [pset_ne, pcp_ne, pcp_eq]; exact x5 p hp
  · have h10 : t < 10 := by omega
    simp (disch := first | decide | assumption) only [pset_ne, pcp_ne, pcp_eq]; exact (x6 t ht).1
  · have h10 : t < 10 := by omega
    simp (disch := first | decide | assumption) only [pset_ne, pcp_ne, pcp_eq]; exact (x6 t ht).2.1
  · have h10 : t < 10 := by omega
    simp (disch := first | decide | assumption) only [pset_ne, pcp_ne, pcp_eq]; exact (x6 t ht).2.2.1
  · have h10 : t < 10 := by omega
    simp (disch := first | decide | assumption) only [pset_ne, pcp_ne, pcp_eq]; exact (x6 t ht).2.2.2
  · have h8 : s < 8 := by omega
    simp (disch := first | decide | assumption) only [pset_ne, pcp_ne, pcp_eq]; exact x7 s hs
theorem XH_eq (X : XH M h) (e : ∀ o i, 7 ≤ o → o ≤ 14 → ¬ (o = 7 ∧ i = 12) → M' o i = M o i) : XH M' h := by
  obtain ⟨x1, x2, x3, x4, x5, x6, x7⟩ := X
  exact ⟨by rw [e 7 9 (by decide) (by decide) (by decide)]; exact x1, by rw [e 7 10 (by decide) (by decide) (by decide)]; exact x2, by rw [e 7 11 (by decide) (by decide) (by decide)]; exact x3, fun r hr => by rw [e 8 r (by decide) (by decide) (by omega)]; exact x4 r hr, fun p hp => by rw [e 9 p (by decide) (by decide) (by omega)]; exact x5 p hp, fun t ht => by rw [e 10 t (by decide) (by decide) (by omega), e 11 t (by decide) (by decide) (by omega), e 12 t (by decide) (by decide) (by omega), e 13 t (by decide) (by decide) (by omega)]; exact x6 t ht, fun s hs => by rw [e 14 s (by decide) (by decide) (by omega)]; exact x7 s hs⟩
end XHS
