/-! copy and numberAt, everywhere (by program) -/
theorem dsucc {d h : Nat} (hd : h + 1 ≤ d) : ∃ D, d = D + 1 ∧ h ≤ D := ⟨d - 1, by omega, by omega⟩
/-- the first n places of object a at object b -/
def pcp (M : pM) (a b n : Nat) : pM := fun o i => if o = b ∧ i < n then M a i else M o i
theorem pcp_zero (M : pM) (a b : Nat) : pcp M a b 0 = M := by
  funext o i
  unfold pcp
  rw [if_neg (fun h => Nat.not_lt_zero _ h.2)]
theorem pcp_succ {M : pM} {a b : Nat} (h : a ≠ b) (i : Nat) : pset (pcp M a b i) b i (pcp M a b i a i) = pcp M a b (i + 1) := by
  have e : pcp M a b i a i = M a i := by unfold pcp; rw [if_neg (fun q => h q.1)]
  rw [e]
  funext o j
  unfold pset pcp
  by_cases h1 : o = b
  · subst h1
    by_cases h2 : j = i
    · subst h2
      rw [if_pos ⟨rfl, rfl⟩, if_pos ⟨rfl, Nat.lt_succ_self _⟩]
    · rw [if_neg (fun q => h2 q.2)]
      by_cases h3 : j < i
      · rw [if_pos ⟨rfl, h3⟩, if_pos ⟨rfl, Nat.lt_succ_of_lt h3⟩]
      · rw [if_neg (fun q => h3 q.2), if_neg (fun q => by have := q.2; omega)]
  · rw [if_neg (fun q => h1 q.1), if_neg (fun q => h1 q.1), if_neg (fun q => h1 q.1)]
theorem c_numberAt_13 {d : Nat} (hd : 1 ≤ d) {b : Int} {M : pM} (h1 : -2147483648 ≤ b) (h2 : b < 2147483648) : xF d 47 [.inr 15, .inl b] M = rI (if 0 ≤ b ∧ b < 10 then M 13 b.toNat else 0) M := by
  obtain ⟨D, rfl, -⟩ := dsucc hd
  rw [T_X_numberAt_13]
  simp (disch := omega) only [lt32_iff, le32_iff]
  by_cases q : b < 0
  · rw [if_pos q, if_neg (fun h => by omega)]
  · rw [if_neg q]
    by_cases q2 : (10 : Int) ≤ b
    · rw [if_pos q2, if_neg (fun h => by omega)]
    · rw [if_neg q2, if_pos (by omega), if_pos (by omega)]
theorem c_numberAt_13n {d : Nat} (hd : 1 ≤ d) {t : Nat} {M : pM} (ht : t < 10) : xF d 47 [.inr 15, .inl (t : Int)] M = rI (M 13 t) M := by
  rw [c_numberAt_13 hd (by omega) (by omega), if_pos (by omega), Int.toNat_natCast]
theorem c_numberAt_15 {d : Nat} (hd : 1 ≤ d) {b : Int} {M : pM} (h1 : -2147483648 ≤ b) (h2 : b < 2147483648) : xF d 47 [.inr 17, .inl b] M = rI (if 0 ≤ b ∧ b < 10 then M 15 b.toNat else 0) M := by
  obtain ⟨D, rfl, -⟩ := dsucc hd
  rw [T_X_numberAt_15]
  simp (disch := omega) only [lt32_iff, le32_iff]
  by_cases q : b < 0
  · rw [if_pos q, if_neg (fun h => by omega)]
  · rw [if_neg q]
    by_cases q2 : (10 : Int) ≤ b
    · rw [if_pos q2, if_neg (fun h => by omega)]
    · rw [if_neg q2, if_pos (by omega), if_pos (by omega)]
theorem c_numberAt_15n {d : Nat} (hd : 1 ≤ d) {t : Nat} {M : pM} (ht : t < 10) : xF d 47 [.inr 17, .inl (t : Int)] M = rI (M 15 t) M := by
  rw [c_numberAt_15 hd (by omega) (by omega), if_pos (by omega), Int.toNat_natCast]
theorem c_numberAt_36 {d : Nat} (hd : 1 ≤ d) {b : Int} {M : pM} (h1 : -2147483648 ≤ b) (h2 : b < 2147483648) : xF d 47 [.inr 38, .inl b] M = rI (if 0 ≤ b ∧ b < 10 then M 36 b.toNat else 0) M := by
  obtain ⟨D, rfl, -⟩ := dsucc hd
  rw [T_X_numberAt_36]
  simp (disch := omega) only [lt32_iff, le32_iff]
  by_cases q : b < 0
  · rw [if_pos q, if_neg (fun h => by omega)]
  · rw [if_neg q]
    by_cases q2 : (10 : Int) ≤ b
    · rw [if_pos q2, if_neg (fun h => by omega)]
    · rw [if_neg q2, if_pos (by omega), if_pos (by omega)]
theorem c_numberAt_36n {d : Nat} (hd : 1 ≤ d) {t : Nat} {M : pM} (ht : t < 10) : xF d 47 [.inr 38, .inl (t : Int)] M = rI (M 36 t) M := by
  rw [c_numberAt_36 hd (by omega) (by omega), if_pos (by omega), Int.toNat_natCast]
theorem c_numberAt_37 {d : Nat} (hd : 1 ≤ d) {b : Int} {M : pM} (h1 : -2147483648 ≤ b) (h2 : b < 2147483648) : xF d 47 [.inr 39, .inl b] M = rI (if 0 ≤ b ∧ b < 60 then M 37 b.toNat else 0) M := by
  obtain ⟨D, rfl, -⟩ := dsucc hd
  rw [T_X_numberAt_37]
  simp (disch := omega) only [lt32_iff, le32_iff]
  by_cases q : b < 0
  · rw [if_pos q, if_neg (fun h => by omega)]
  · rw [if_neg q]
    by_cases q2 : (60 : Int) ≤ b
    · rw [if_pos q2, if_neg (fun h => by omega)]
    · rw [if_neg q2, if_pos (by omega), if_pos (by omega)]
theorem c_numberAt_37n {d : Nat} (hd : 1 ≤ d) {t : Nat} {M : pM} (ht : t < 60) : xF d 47 [.inr 39, .inl (t : Int)] M = rI (M 37 t) M := by
  rw [c_numberAt_37 hd (by omega) (by omega), if_pos (by omega), Int.toNat_natCast]
theorem c_numberAt_2 {d : Nat} (hd : 1 ≤ d) {b : Int} {M : pM} (h1 : -2147483648 ≤ b) (h2 : b < 2147483648) : xF d 47 [.inr 4, .inl b] M = rI (if 0 ≤ b ∧ b < 80 then M 2 b.toNat else 0) M := by
  obtain ⟨D, rfl, -⟩ := dsucc hd
  rw [T_X_numberAt_2]
  simp (disch := omega) only [lt32_iff, le32_iff]
  by_cases q : b < 0
  · rw [if_pos q, if_neg (fun h => by omega)]
  · rw [if_neg q]
    by_cases q2 : (80 : Int) ≤ b
    · rw [if_pos q2, if_neg (fun h => by omega)]
    · rw [if_neg q2, if_pos (by omega), if_pos (by omega)]
theorem c_numberAt_2n {d : Nat} (hd : 1 ≤ d) {t : Nat} {M : pM} (ht : t < 80) : xF d 47 [.inr 4, .inl (t : Int)] M = rI (M 2 t) M := by
  rw [c_numberAt_2 hd (by omega) (by omega), if_pos (by omega), Int.toNat_natCast]
theorem c_numberAt_38 {d : Nat} (hd : 1 ≤ d) {b : Int} {M : pM} (h1 : -2147483648 ≤ b) (h2 : b < 2147483648) : xF d 47 [.inr 40, .inl b] M = rI (if 0 ≤ b ∧ b < 10 then M 38 b.toNat else 0) M := by
  obtain ⟨D, rfl, -⟩ := dsucc hd
  rw [T_X_numberAt_38]
  simp (disch := omega) only [lt32_iff, le32_iff]
  by_cases q : b < 0
  · rw [if_pos q, if_neg (fun h => by omega)]
  · rw [if_neg q]
    by_cases q2 : (10 : Int) ≤ b
    · rw [if_pos q2, if_neg (fun h => by omega)]
    · rw [if_neg q2, if_pos (by omega), if_pos (by omega)]
theorem c_numberAt_38n {d : Nat} (hd : 1 ≤ d) {t : Nat} {M : pM} (ht : t < 10) : xF d 47 [.inr 40, .inl (t : Int)] M = rI (M 38 t) M := by
  rw [c_numberAt_38 hd (by omega) (by omega), if_pos (by omega), Int.toNat_natCast]
theorem c_numberAt_40 {d : Nat} (hd : 1 ≤ d) {b : Int} {M : pM} (h1 : -2147483648 ≤ b) (h2 : b < 2147483648) : xF d 47 [.inr 42, .inl b] M = rI (if 0 ≤ b ∧ b < 20 then M 40 b.toNat else 0) M := by
  obtain ⟨D, rfl, -⟩ := dsucc hd
  rw [T_X_numberAt_40]
  simp (disch := omega) only [lt32_iff, le32_iff]
  by_cases q : b < 0
  · rw [if_pos q, if_neg (fun h => by omega)]
  · rw [if_neg q]
    by_cases q2 : (20 : Int) ≤ b
    · rw [if_pos q2, if_neg (fun h => by omega)]
    · rw [if_neg q2, if_pos (by omega), if_pos (by omega)]
theorem c_numberAt_40n {d : Nat} (hd : 1 ≤ d) {t : Nat} {M : pM} (ht : t < 20) : xF d 47 [.inr 42, .inl (t : Int)] M = rI (M 40 t) M := by
  rw [c_numberAt_40 hd (by omega) (by omega), if_pos (by omega), Int.toNat_natCast]
theorem c_numberAt_41 {d : Nat} (hd : 1 ≤ d) {b : Int} {M : pM} (h1 : -2147483648 ≤ b) (h2 : b < 2147483648) : xF d 47 [.inr 43, .inl b] M = rI (if 0 ≤ b ∧ b < 20 then M 41 b.toNat else 0) M := by
  obtain ⟨D, rfl, -⟩ := dsucc hd
  rw [T_X_numberAt_41]
  simp (disch := omega) only [lt32_iff, le32_iff]
  by_cases q : b < 0
  · rw [if_pos q, if_neg (fun h => by omega)]
  · rw [if_neg q]
    by_cases q2 : (20 : Int) ≤ b
    · rw [if_pos q2, if_neg (fun h => by omega)]
    · rw [if_neg q2, if_pos (by omega), if_pos (by omega)]
theorem c_numberAt_41n {d : Nat} (hd : 1 ≤ d) {t : Nat} {M : pM} (ht : t < 20) : xF d 47 [.inr 43, .inl (t : Int)] M = rI (M 41 t) M := by
  rw [c_numberAt_41 hd (by omega) (by omega), if_pos (by omega), Int.toNat_natCast]
theorem c_numberAt_42 {d : Nat} (hd : 1 ≤ d) {b : Int} {M : pM} (h1 : -2147483648 ≤ b) (h2 : b < 2147483648) : xF d 47 [.inr 44, .inl b] M = rI (if 0 ≤ b ∧ b < 20 then M 42 b.toNat else 0) M := by
  obtain ⟨D, rfl, -⟩ := dsucc hd
  rw [T_X_numberAt_42]
  simp (disch := omega) only [lt32_iff, le32_iff]
  by_cases q : b < 0
  · rw [if_pos q, if_neg (fun h => by omega)]
  · rw [if_neg q]
    by_cases q2 : (20 : Int) ≤ b
    · rw [if_pos q2, if_neg (fun h => by omega)]
    · rw [if_neg q2, if_pos (by omega), if_pos (by omega)]
theorem c_numberAt_42n {d : Nat} (hd : 1 ≤ d) {t : Nat} {M : pM} (ht : t < 20) : xF d 47 [.inr 44, .inl (t : Int)] M = rI (M 42 t) M := by
  rw [c_numberAt_42 hd (by omega) (by omega), if_pos (by omega), Int.toNat_natCast]
theorem c_numberAt_50 {d : Nat} (hd : 1 ≤ d) {b : Int} {M : pM} (h1 : -2147483648 ≤ b) (h2 : b < 2147483648) : xF d 47 [.inr 52, .inl b] M = rI (if 0 ≤ b ∧ b < 10 then M 50 b.toNat else 0) M := by
  obtain ⟨D, rfl, -⟩ := dsucc hd
  rw [T_X_numberAt_50]
  simp (disch := omega) only [lt32_iff, le32_iff]
  by_cases q : b < 0
  · rw [if_pos q, if_neg (fun h => by omega)]
  · rw [if_neg q]
    by_cases q2 : (10 : Int) ≤ b
    · rw [if_pos q2, if_neg (fun h => by omega)]
    · rw [if_neg q2, if_pos (by omega), if_pos (by omega)]
theorem c_numberAt_50n {d : Nat} (hd : 1 ≤ d) {t : Nat} {M : pM} (ht : t < 10) : xF d 47 [.inr 52, .inl (t : Int)] M = rI (M 50 t) M := by
  rw [c_numberAt_50 hd (by omega) (by omega), if_pos (by omega), Int.toNat_natCast]
theorem c_numberAt_51 {d : Nat} (hd : 1 ≤ d) {b : Int} {M : pM} (h1 : -2147483648 ≤ b) (h2 : b < 2147483648) : xF d 47 [.inr 53, .inl b] M = rI (if 0 ≤ b ∧ b < 10 then M 51 b.toNat else 0) M := by
  obtain ⟨D, rfl, -⟩ := dsucc hd
  rw [T_X_numberAt_51]
  simp (disch := omega) only [lt32_iff, le32_iff]
  by_cases q : b < 0
  · rw [if_pos q, if_neg (fun h => by omega)]
  · rw [if_neg q]
    by_cases q2 : (10 : Int) ≤ b
    · rw [if_pos q2, if_neg (fun h => by omega)]
    · rw [if_neg q2, if_pos (by omega), if_pos (by omega)]
theorem c_numberAt_51n {d : Nat} (hd : 1 ≤ d) {t : Nat} {M : pM} (ht : t < 10) : xF d 47 [.inr 53, .inl (t : Int)] M = rI (M 51 t) M := by
  rw [c_numberAt_51 hd (by omega) (by omega), if_pos (by omega), Int.toNat_natCast]
theorem c_numberAt_54 {d : Nat} (hd : 1 ≤ d) {b : Int} {M : pM} (h1 : -2147483648 ≤ b) (h2 : b < 2147483648) : xF d 47 [.inr 56, .inl b] M = rI (if 0 ≤ b ∧ b < 360 then M 54 b.toNat else 0) M := by
  obtain ⟨D, rfl, -⟩ := dsucc hd
  rw [T_X_numberAt_54]
  simp (disch := omega) only [lt32_iff, le32_iff]
  by_cases q : b < 0
  · rw [if_pos q, if_neg (fun h => by omega)]
  · rw [if_neg q]
    by_cases q2 : (360 : Int) ≤ b
    · rw [if_pos q2, if_neg (fun h => by omega)]
    · rw [if_neg q2, if_pos (by omega), if_pos (by omega)]
theorem c_numberAt_54n {d : Nat} (hd : 1 ≤ d) {t : Nat} {M : pM} (ht : t < 360) : xF d 47 [.inr 56, .inl (t : Int)] M = rI (M 54 t) M := by
  rw [c_numberAt_54 hd (by omega) (by omega), if_pos (by omega), Int.toNat_natCast]
theorem c_numberAt_58 {d : Nat} (hd : 1 ≤ d) {b : Int} {M : pM} (h1 : -2147483648 ≤ b) (h2 : b < 2147483648) : xF d 47 [.inr 60, .inl b] M = rI (if 0 ≤ b ∧ b < 10 then M 58 b.toNat else 0) M := by
  obtain ⟨D, rfl, -⟩ := dsucc hd
  rw [T_X_numberAt_58]
  simp (disch := omega) only [lt32_iff, le32_iff]
  by_cases q : b < 0
  · rw [if_pos q, if_neg (fun h => by omega)]
  · rw [if_neg q]
    by_cases q2 : (10 : Int) ≤ b
    · rw [if_pos q2, if_neg (fun h => by omega)]
    · rw [if_neg q2, if_pos (by omega), if_pos (by omega)]
theorem c_numberAt_58n {d : Nat} (hd : 1 ≤ d) {t : Nat} {M : pM} (ht : t < 10) : xF d 47 [.inr 60, .inl (t : Int)] M = rI (M 58 t) M := by
  rw [c_numberAt_58 hd (by omega) (by omega), if_pos (by omega), Int.toNat_natCast]
theorem c_numberAt_59 {d : Nat} (hd : 1 ≤ d) {b : Int} {M : pM} (h1 : -2147483648 ≤ b) (h2 : b < 2147483648) : xF d 47 [.inr 61, .inl b] M = rI (if 0 ≤ b ∧ b < 10 then M 59 b.toNat else 0) M := by
  obtain ⟨D, rfl, -⟩ := dsucc hd
  rw [T_X_numberAt_59]
  simp (disch := omega) only [lt32_iff, le32_iff]
  by_cases q : b < 0
  · rw [if_pos q, if_neg (fun h => by omega)]
  · rw [if_neg q]
    by_cases q2 : (10 : Int) ≤ b
    · rw [if_pos q2, if_neg (fun h => by omega)]
    · rw [if_neg q2, if_pos (by omega), if_pos (by omega)]
theorem c_numberAt_59n {d : Nat} (hd : 1 ≤ d) {t : Nat} {M : pM} (ht : t < 10) : xF d 47 [.inr 61, .inl (t : Int)] M = rI (M 59 t) M := by
  rw [c_numberAt_59 hd (by omega) (by omega), if_pos (by omega), Int.toNat_natCast]
theorem c_numberAt_6 {d : Nat} (hd : 1 ≤ d) {b : Int} {M : pM} (h1 : -2147483648 ≤ b) (h2 : b < 2147483648) : xF d 47 [.inr 8, .inl b] M = rI (if 0 ≤ b ∧ b < 12 then M 6 b.toNat else 0) M := by
  obtain ⟨D, rfl, -⟩ := dsucc hd
  rw [T_X_numberAt_6]
  simp (disch := omega) only [lt32_iff, le32_iff]
  by_cases q : b < 0
  · rw [if_pos q, if_neg (fun h => by omega)]
  · rw [if_neg q]
    by_cases q2 : (12 : Int) ≤ b
    · rw [if_pos q2, if_neg (fun h => by omega)]
    · rw [if_neg q2, if_pos (by omega), if_pos (by omega)]
theorem c_numberAt_6n {d : Nat} (hd : 1 ≤ d) {t : Nat} {M : pM} (ht : t < 12) : xF d 47 [.inr 8, .inl (t : Int)] M = rI (M 6 t) M := by
  rw [c_numberAt_6 hd (by omega) (by omega), if_pos (by omega), Int.toNat_natCast]
theorem c_copy_8_18 {d : Nat} (hd : 1 ≤ d) {M : pM} : xF d 48 [.inr 10, .inr 20] M = rV (pcp M 8 18 6) := by
  obtain ⟨D, rfl, -⟩ := dsucc hd
  rw [T_X_copy_8_18]
  have key : ∀ m i : Nat, i + m = 6 → xE D 48 2 [.inr 10, .inr 20, .inl (i : Int)] [] (pcp M 8 18 i) = rV (pcp M 8 18 6) := by
    intro m
    induction m with
    | zero =>
      intro i hi
      have hi : i = 6 := by omega
      subst hi
      rw [L_X_copy_8_18_2, if_pos (by rw [le32_iff] <;> omega)]
    | succ m ih =>
      intro i hi
      rw [L_X_copy_8_18_2, if_neg (by rw [le32_iff] <;> omega), if_neg (by rw [le32_iff] <;> omega), if_pos (by omega), if_pos (by omega), Int.toNat_natCast, pcp_succ (by decide)]
      exact ih (i + 1) (by omega)
  have h := key 6 0 (by omega)
  rw [pcp_zero] at h
  exact h
theorem c_copy_8_33 {d : Nat} (hd : 1 ≤ d) {M : pM} : xF d 48 [.inr 10, .inr 35] M = rV (pcp M 8 33 6) := by
  obtain ⟨D, rfl, -⟩ := dsucc hd
  rw [T_X_copy_8_33]
  have key : ∀ m i : Nat, i + m = 6 → xE D 48 2 [.inr 10, .inr 35, .inl (i : Int)] [] (pcp M 8 33 i) = rV (pcp M 8 33 6) := by
    intro m
    induction m with
    | zero =>
      intro i hi
      have hi : i = 6 := by omega
      subst hi
      rw [L_X_copy_8_33_2, if_pos (by rw [le32_iff] <;> omega)]
    | succ m ih =>
      intro i hi
      rw [L_X_copy_8_33_2, if_neg (by rw [le32_iff] <;> omega), if_neg (by rw [le32_iff] <;> omega), if_pos (by omega), if_pos (by omega), Int.toNat_natCast, pcp_succ (by decide)]
      exact ih (i + 1) (by omega)
  have h := key 6 0 (by omega)
  rw [pcp_zero] at h
  exact h
theorem c_copy_9_19 {d : Nat} (hd : 1 ≤ d) {M : pM} : xF d 48 [.inr 11, .inr 21] M = rV (pcp M 9 19 36) := by
  obtain ⟨D, rfl, -⟩ := dsucc hd
  rw [T_X_copy_9_19]
  have key : ∀ m i : Nat, i + m = 36 → xE D 48 2 [.inr 11, .inr 21, .inl (i : Int)] [] (pcp M 9 19 i) = rV (pcp M 9 19 36) := by
    intro m
    induction m with
    | zero =>
      intro i hi
      have hi : i = 36 := by omega
      subst hi
      rw [L_X_copy_9_19_2, if_pos (by rw [le32_iff] <;> omega)]
    | succ m ih =>
      intro i hi
      rw [L_X_copy_9_19_2, if_neg (by rw [le32_iff] <;> omega), if_neg (by rw [le32_iff] <;> omega), if_pos (by omega), if_pos (by omega), Int.toNat_natCast, pcp_succ (by decide)]
      exact ih (i + 1) (by omega)
  have h := key 36 0 (by omega)
  rw [pcp_zero] at h
  exact h
theorem c_copy_10_20 {d : Nat} (hd : 1 ≤ d) {M : pM} : xF d 48 [.inr 12, .inr 22] M = rV (pcp M 10 20 10) := by
  obtain ⟨D, rfl, -⟩ := dsucc hd
  rw [T_X_copy_10_20]
  have key : ∀ m i : Nat, i + m = 10 → xE D 48 2 [.inr 12, .inr 22, .inl (i : Int)] [] (pcp M 10 20 i) = rV (pcp M 10 20 10) := by
    intro m
    induction m with
    | zero =>
      intro i hi
      have hi : i = 10 := by omega
      subst hi
      rw [L_X_copy_10_20_2, if_pos (by rw [le32_iff] <;> omega)]
    | succ m ih =>
      intro i hi
      rw [L_X_copy_10_20_2, if_neg (by rw [le32_iff] <;> omega), if_neg (by rw [le32_iff] <;> omega), if_pos (by omega), if_pos (by omega), Int.toNat_natCast, pcp_succ (by decide)]
      exact ih (i + 1) (by omega)
  have h := key 10 0 (by omega)
  rw [pcp_zero] at h
  exact h
theorem c_copy_11_21 {d : Nat} (hd : 1 ≤ d) {M : pM} : xF d 48 [.inr 13, .inr 23] M = rV (pcp M 11 21 10) := by
  obtain ⟨D, rfl, -⟩ := dsucc hd
  rw [T_X_copy_11_21]
  have key : ∀ m i : Nat, i + m = 10 → xE D 48 2 [.inr 13, .inr 23, .inl (i : Int)] [] (pcp M 11 21 i) = rV (pcp M 11 21 10) := by
    intro m
    induction m with
    | zero =>
      intro i hi
      have hi : i = 10 := by omega
      subst hi
      rw [L_X_copy_11_21_2, if_pos (by rw [le32_iff] <;> omega)]
    | succ m ih =>
      intro i hi
      rw [L_X_copy_11_21_2, if_neg (by rw [le32_iff] <;> omega), if_neg (by rw [le32_iff] <;> omega), if_pos (by omega), if_pos (by omega), Int.toNat_natCast, pcp_succ (by decide)]
      exact ih (i + 1) (by omega)
  have h := key 10 0 (by omega)
  rw [pcp_zero] at h
  exact h
theorem c_copy_12_22 {d : Nat} (hd : 1 ≤ d) {M : pM} : xF d 48 [.inr 14, .inr 24] M = rV (pcp M 12 22 10) := by
  obtain ⟨D, rfl, -⟩ := dsucc hd
  rw [T_X_copy_12_22]
  have key : ∀ m i : Nat, i + m = 10 → xE D 48 2 [.inr 14, .inr 24, .inl (i : Int)] [] (pcp M 12 22 i) = rV (pcp M 12 22 10) := by
    intro m
    induction m with
    | zero =>
      intro i hi
      have hi : i = 10 := by omega
      subst hi
      rw [L_X_copy_12_22_2, if_pos (by rw [le32_iff] <;> omega)]
    | succ m ih =>
      intro i hi
      rw [L_X_copy_12_22_2, if_neg (by rw [le32_iff] <;> omega), if_neg (by rw [le32_iff] <;> omega), if_pos (by omega), if_pos (by omega), Int.toNat_natCast, pcp_succ (by decide)]
      exact ih (i + 1) (by omega)
  have h := key 10 0 (by omega)
  rw [pcp_zero] at h
  exact h
theorem c_copy_13_23 {d : Nat} (hd : 1 ≤ d) {M : pM} : xF d 48 [.inr 15, .inr 25] M = rV (pcp M 13 23 10) := by
  obtain ⟨D, rfl, -⟩ := dsucc hd
  rw [T_X_copy_13_23]
  have key : ∀ m i : Nat, i + m = 10 → xE D 48 2 [.inr 15, .inr 25, .inl (i : Int)] [] (pcp M 13 23 i) = rV (pcp M 13 23 10) := by
    intro m
    induction m with
    | zero =>
      intro i hi
      have hi : i = 10 := by omega
      subst hi
      rw [L_X_copy_13_23_2, if_pos (by rw [le32_iff] <;> omega)]
    | succ m ih =>
      intro i hi
      rw [L_X_copy_13_23_2, if_neg (by rw [le32_iff] <;> omega), if_neg (by rw [le32_iff] <;> omega), if_pos (by omega), if_pos (by omega), Int.toNat_natCast, pcp_succ (by decide)]
      exact ih (i + 1) (by omega)
  have h := key 10 0 (by omega)
  rw [pcp_zero] at h
  exact h
theorem c_copy_13_45 {d : Nat} (hd : 1 ≤ d) {M : pM} : xF d 48 [.inr 15, .inr 47] M = rV (pcp M 13 45 10) := by
  obtain ⟨D, rfl, -⟩ := dsucc hd
  rw [T_X_copy_13_45]
  have key : ∀ m i : Nat, i + m = 10 → xE D 48 2 [.inr 15, .inr 47, .inl (i : Int)] [] (pcp M 13 45 i) = rV (pcp M 13 45 10) := by
    intro m
    induction m with
    | zero =>
      intro i hi
      have hi : i = 10 := by omega
      subst hi
      rw [L_X_copy_13_45_2, if_pos (by rw [le32_iff] <;> omega)]
    | succ m ih =>
      intro i hi
      rw [L_X_copy_13_45_2, if_neg (by rw [le32_iff] <;> omega), if_neg (by rw [le32_iff] <;> omega), if_pos (by omega), if_pos (by omega), Int.toNat_natCast, pcp_succ (by decide)]
      exact ih (i + 1) (by omega)
  have h := key 10 0 (by omega)
  rw [pcp_zero] at h
  exact h
theorem c_copy_13_47 {d : Nat} (hd : 1 ≤ d) {M : pM} : xF d 48 [.inr 15, .inr 49] M = rV (pcp M 13 47 10) := by
  obtain ⟨D, rfl, -⟩ := dsucc hd
  rw [T_X_copy_13_47]
  have key : ∀ m i : Nat, i + m = 10 → xE D 48 2 [.inr 15, .inr 49, .inl (i : Int)] [] (pcp M 13 47 i) = rV (pcp M 13 47 10) := by
    intro m
    induction m with
    | zero =>
      intro i hi
      have hi : i = 10 := by omega
      subst hi
      rw [L_X_copy_13_47_2, if_pos (by rw [le32_iff] <;> omega)]
    | succ m ih =>
      intro i hi
      rw [L_X_copy_13_47_2, if_neg (by rw [le32_iff] <;> omega), if_neg (by rw [le32_iff] <;> omega), if_pos (by omega), if_pos (by omega), Int.toNat_natCast, pcp_succ (by decide)]
      exact ih (i + 1) (by omega)
  have h := key 10 0 (by omega)
  rw [pcp_zero] at h
  exact h
theorem c_copy_13_59 {d : Nat} (hd : 1 ≤ d) {M : pM} : xF d 48 [.inr 15, .inr 61] M = rV (pcp M 13 59 10) := by
  obtain ⟨D, rfl, -⟩ := dsucc hd
  rw [T_X_copy_13_59]
  have key : ∀ m i : Nat, i + m = 10 → xE D 48 2 [.inr 15, .inr 61, .inl (i : Int)] [] (pcp M 13 59 i) = rV (pcp M 13 59 10) := by
    intro m
    induction m with
    | zero =>
      intro i hi
      have hi : i = 10 := by omega
      subst hi
      rw [L_X_copy_13_59_2, if_pos (by rw [le32_iff] <;> omega)]
    | succ m ih =>
      intro i hi
      rw [L_X_copy_13_59_2, if_neg (by rw [le32_iff] <;> omega), if_neg (by rw [le32_iff] <;> omega), if_pos (by omega), if_pos (by omega), Int.toNat_natCast, pcp_succ (by decide)]
      exact ih (i + 1) (by omega)
  have h := key 10 0 (by omega)
  rw [pcp_zero] at h
  exact h
theorem c_copy_14_24 {d : Nat} (hd : 1 ≤ d) {M : pM} : xF d 48 [.inr 16, .inr 26] M = rV (pcp M 14 24 8) := by
  obtain ⟨D, rfl, -⟩ := dsucc hd
  rw [T_X_copy_14_24]
  have key : ∀ m i : Nat, i + m = 8 → xE D 48 2 [.inr 16, .inr 26, .inl (i : Int)] [] (pcp M 14 24 i) = rV (pcp M 14 24 8) := by
    intro m
    induction m with
    | zero =>
      intro i hi
      have hi : i = 8 := by omega
      subst hi
      rw [L_X_copy_14_24_2, if_pos (by rw [le32_iff] <;> omega)]
    | succ m ih =>
      intro i hi
      rw [L_X_copy_14_24_2, if_neg (by rw [le32_iff] <;> omega), if_neg (by rw [le32_iff] <;> omega), if_pos (by omega), if_pos (by omega), Int.toNat_natCast, pcp_succ (by decide)]
      exact ih (i + 1) (by omega)
  have h := key 8 0 (by omega)
  rw [pcp_zero] at h
  exact h
theorem c_copy_15_25 {d : Nat} (hd : 1 ≤ d) {M : pM} : xF d 48 [.inr 17, .inr 27] M = rV (pcp M 15 25 10) := by
  obtain ⟨D, rfl, -⟩ := dsucc hd
  rw [T_X_copy_15_25]
  have key : ∀ m i : Nat, i + m = 10 → xE D 48 2 [.inr 17, .inr 27, .inl (i : Int)] [] (pcp M 15 25 i) = rV (pcp M 15 25 10) := by
    intro m
    induction m with
    | zero =>
      intro i hi
      have hi : i = 10 := by omega
      subst hi
      rw [L_X_copy_15_25_2, if_pos (by rw [le32_iff] <;> omega)]
    | succ m ih =>
      intro i hi
      rw [L_X_copy_15_25_2, if_neg (by rw [le32_iff] <;> omega), if_neg (by rw [le32_iff] <;> omega), if_pos (by omega), if_pos (by omega), Int.toNat_natCast, pcp_succ (by decide)]
      exact ih (i + 1) (by omega)
  have h := key 10 0 (by omega)
  rw [pcp_zero] at h
  exact h
theorem c_copy_16_26 {d : Nat} (hd : 1 ≤ d) {M : pM} : xF d 48 [.inr 18, .inr 28] M = rV (pcp M 16 26 10) := by
  obtain ⟨D, rfl, -⟩ := dsucc hd
  rw [T_X_copy_16_26]
  have key : ∀ m i : Nat, i + m = 10 → xE D 48 2 [.inr 18, .inr 28, .inl (i : Int)] [] (pcp M 16 26 i) = rV (pcp M 16 26 10) := by
    intro m
    induction m with
    | zero =>
      intro i hi
      have hi : i = 10 := by omega
      subst hi
      rw [L_X_copy_16_26_2, if_pos (by rw [le32_iff] <;> omega)]
    | succ m ih =>
      intro i hi
      rw [L_X_copy_16_26_2, if_neg (by rw [le32_iff] <;> omega), if_neg (by rw [le32_iff] <;> omega), if_pos (by omega), if_pos (by omega), Int.toNat_natCast, pcp_succ (by decide)]
      exact ih (i + 1) (by omega)
  have h := key 10 0 (by omega)
  rw [pcp_zero] at h
  exact h
theorem c_copy_18_8 {d : Nat} (hd : 1 ≤ d) {M : pM} : xF d 48 [.inr 20, .inr 10] M = rV (pcp M 18 8 6) := by
  obtain ⟨D, rfl, -⟩ := dsucc hd
  rw [T_X_copy_18_8]
  have key : ∀ m i : Nat, i + m = 6 → xE D 48 2 [.inr 20, .inr 10, .inl (i : Int)] [] (pcp M 18 8 i) = rV (pcp M 18 8 6) := by
    intro m
    induction m with
    | zero =>
      intro i hi
      have hi : i = 6 := by omega
      subst hi
      rw [L_X_copy_18_8_2, if_pos (by rw [le32_iff] <;> omega)]
    | succ m ih =>
      intro i hi
      rw [L_X_copy_18_8_2, if_neg (by rw [le32_iff] <;> omega), if_neg (by rw [le32_iff] <;> omega), if_pos (by omega), if_pos (by omega), Int.toNat_natCast, pcp_succ (by decide)]
      exact ih (i + 1) (by omega)
  have h := key 6 0 (by omega)
  rw [pcp_zero] at h
  exact h
theorem c_copy_19_9 {d : Nat} (hd : 1 ≤ d) {M : pM} : xF d 48 [.inr 21, .inr 11] M = rV (pcp M 19 9 36) := by
  obtain ⟨D, rfl, -⟩ := dsucc hd
  rw [T_X_copy_19_9]
  have key : ∀ m i : Nat, i + m = 36 → xE D 48 2 [.inr 21, .inr 11, .inl (i : Int)] [] (pcp M 19 9 i) = rV (pcp M 19 9 36) := by
    intro m
    induction m with
    | zero =>
      intro i hi
      have hi : i = 36 := by omega
      subst hi
      rw [L_X_copy_19_9_2, if_pos (by rw [le32_iff] <;> omega)]
    | succ m ih =>
      intro i hi
      rw [L_X_copy_19_9_2, if_neg (by rw [le32_iff] <;> omega), if_neg (by rw [le32_iff] <;> omega), if_pos (by omega), if_pos (by omega), Int.toNat_natCast, pcp_succ (by decide)]
      exact ih (i + 1) (by omega)
  have h := key 36 0 (by omega)
  rw [pcp_zero] at h
  exact h
theorem c_copy_20_10 {d : Nat} (hd : 1 ≤ d) {M : pM} : xF d 48 [.inr 22, .inr 12] M = rV (pcp M 20 10 10) := by
  obtain ⟨D, rfl, -⟩ := dsucc hd
  rw [T_X_copy_20_10]
  have key : ∀ m i : Nat, i + m = 10 → xE D 48 2 [.inr 22, .inr 12, .inl (i : Int)] [] (pcp M 20 10 i) = rV (pcp M 20 10 10) := by
    intro m
    induction m with
    | zero =>
      intro i hi
      have hi : i = 10 := by omega
      subst hi
      rw [L_X_copy_20_10_2, if_pos (by rw [le32_iff] <;> omega)]
    | succ m ih =>
      intro i hi
      rw [L_X_copy_20_10_2, if_neg (by rw [le32_iff] <;> omega), if_neg (by rw [le32_iff] <;> omega), if_pos (by omega), if_pos (by omega), Int.toNat_natCast, pcp_succ (by decide)]
      exact ih (i + 1) (by omega)
  have h := key 10 0 (by omega)
  rw [pcp_zero] at h
  exact h
theorem c_copy_21_11 {d : Nat} (hd : 1 ≤ d) {M : pM} : xF d 48 [.inr 23, .inr 13] M = rV (pcp M 21 11 10) := by
  obtain ⟨D, rfl, -⟩ := dsucc hd
  rw [T_X_copy_21_11]
  have key : ∀ m i : Nat, i + m = 10 → xE D 48 2 [.inr 23, .inr 13, .inl (i : Int)] [] (pcp M 21 11 i) = rV (pcp M 21 11 10) := by
    intro m
    induction m with
    | zero =>
      intro i hi
      have hi : i = 10 := by omega
      subst hi
      rw [L_X_copy_21_11_2, if_pos (by rw [le32_iff] <;> omega)]
    | succ m ih =>
      intro i hi
      rw [L_X_copy_21_11_2, if_neg (by rw [le32_iff] <;> omega), if_neg (by rw [le32_iff] <;> omega), if_pos (by omega), if_pos (by omega), Int.toNat_natCast, pcp_succ (by decide)]
      exact ih (i + 1) (by omega)
  have h := key 10 0 (by omega)
  rw [pcp_zero] at h
  exact h
theorem c_copy_22_12 {d : Nat} (hd : 1 ≤ d) {M : pM} : xF d 48 [.inr 24, .inr 14] M = rV (pcp M 22 12 10) := by
  obtain ⟨D, rfl, -⟩ := dsucc hd
  rw [T_X_copy_22_12]
  have key : ∀ m i : Nat, i + m = 10 → xE D 48 2 [.inr 24, .inr 14, .inl (i : Int)] [] (pcp M 22 12 i) = rV (pcp M 22 12 10) := by
    intro m
    induction m with
    | zero =>
      intro i hi
      have hi : i = 10 := by omega
      subst hi
      rw [L_X_copy_22_12_2, if_pos (by rw [le32_iff] <;> omega)]
    | succ m ih =>
      intro i hi
      rw [L_X_copy_22_12_2, if_neg (by rw [le32_iff] <;> omega), if_neg (by rw [le32_iff] <;> omega), if_pos (by omega), if_pos (by omega), Int.toNat_natCast, pcp_succ (by decide)]
      exact ih (i + 1) (by omega)
  have h := key 10 0 (by omega)
  rw [pcp_zero] at h
  exact h
theorem c_copy_23_13 {d : Nat} (hd : 1 ≤ d) {M : pM} : xF d 48 [.inr 25, .inr 15] M = rV (pcp M 23 13 10) := by
  obtain ⟨D, rfl, -⟩ := dsucc hd
  rw [T_X_copy_23_13]
  have key : ∀ m i : Nat, i + m = 10 → xE D 48 2 [.inr 25, .inr 15, .inl (i : Int)] [] (pcp M 23 13 i) = rV (pcp M 23 13 10) := by
    intro m
    induction m with
    | zero =>
      intro i hi
      have hi : i = 10 := by omega
      subst hi
      rw [L_X_copy_23_13_2, if_pos (by rw [le32_iff] <;> omega)]
    | succ m ih =>
      intro i hi
      rw [L_X_copy_23_13_2, if_neg (by rw [le32_iff] <;> omega), if_neg (by rw [le32_iff] <;> omega), if_pos (by omega), if_pos (by omega), Int.toNat_natCast, pcp_succ (by decide)]
      exact ih (i + 1) (by omega)
  have h := key 10 0 (by omega)
  rw [pcp_zero] at h
  exact h
theorem c_copy_24_14 {d : Nat} (hd : 1 ≤ d) {M : pM} : xF d 48 [.inr 26, .inr 16] M = rV (pcp M 24 14 8) := by
  obtain ⟨D, rfl, -⟩ := dsucc hd
  rw [T_X_copy_24_14]
  have key : ∀ m i : Nat, i + m = 8 → xE D 48 2 [.inr 26, .inr 16, .inl (i : Int)] [] (pcp M 24 14 i) = rV (pcp M 24 14 8) := by
    intro m
    induction m with
    | zero =>
      intro i hi
      have hi : i = 8 := by omega
      subst hi
      rw [L_X_copy_24_14_2, if_pos (by rw [le32_iff] <;> omega)]
    | succ m ih =>
      intro i hi
      rw [L_X_copy_24_14_2, if_neg (by rw [le32_iff] <;> omega), if_neg (by rw [le32_iff] <;> omega), if_pos (by omega), if_pos (by omega), Int.toNat_natCast, pcp_succ (by decide)]
      exact ih (i + 1) (by omega)
  have h := key 8 0 (by omega)
  rw [pcp_zero] at h
  exact h
theorem c_copy_25_15 {d : Nat} (hd : 1 ≤ d) {M : pM} : xF d 48 [.inr 27, .inr 17] M = rV (pcp M 25 15 10) := by
  obtain ⟨D, rfl, -⟩ := dsucc hd
  rw [T_X_copy_25_15]
  have key : ∀ m i : Nat, i + m = 10 → xE D 48 2 [.inr 27, .inr 17, .inl (i : Int)] [] (pcp M 25 15 i) = rV (pcp M 25 15 10) := by
    intro m
    induction m with
    | zero =>
      intro i hi
      have hi : i = 10 := by omega
      subst hi
      rw [L_X_copy_25_15_2, if_pos (by rw [le32_iff] <;> omega)]
    | succ m ih =>
      intro i hi
      rw [L_X_copy_25_15_2, if_neg (by rw [le32_iff] <;> omega), if_neg (by rw [le32_iff] <;> omega), if_pos (by omega), if_pos (by omega), Int.toNat_natCast, pcp_succ (by decide)]
      exact ih (i + 1) (by omega)
  have h := key 10 0 (by omega)
  rw [pcp_zero] at h
  exact h
theorem c_copy_26_16 {d : Nat} (hd : 1 ≤ d) {M : pM} : xF d 48 [.inr 28, .inr 18] M = rV (pcp M 26 16 10) := by
  obtain ⟨D, rfl, -⟩ := dsucc hd
  rw [T_X_copy_26_16]
  have key : ∀ m i : Nat, i + m = 10 → xE D 48 2 [.inr 28, .inr 18, .inl (i : Int)] [] (pcp M 26 16 i) = rV (pcp M 26 16 10) := by
    intro m
    induction m with
    | zero =>
      intro i hi
      have hi : i = 10 := by omega
      subst hi
      rw [L_X_copy_26_16_2, if_pos (by rw [le32_iff] <;> omega)]
    | succ m ih =>
      intro i hi
      rw [L_X_copy_26_16_2, if_neg (by rw [le32_iff] <;> omega), if_neg (by rw [le32_iff] <;> omega), if_pos (by omega), if_pos (by omega), Int.toNat_natCast, pcp_succ (by decide)]
      exact ih (i + 1) (by omega)
  have h := key 10 0 (by omega)
  rw [pcp_zero] at h
  exact h
theorem c_copy_36_38 {d : Nat} (hd : 1 ≤ d) {M : pM} : xF d 48 [.inr 38, .inr 40] M = rV (pcp M 36 38 10) := by
  obtain ⟨D, rfl, -⟩ := dsucc hd
  rw [T_X_copy_36_38]
  have key : ∀ m i : Nat, i + m = 10 → xE D 48 2 [.inr 38, .inr 40, .inl (i : Int)] [] (pcp M 36 38 i) = rV (pcp M 36 38 10) := by
    intro m
    induction m with
    | zero =>
      intro i hi
      have hi : i = 10 := by omega
      subst hi
      rw [L_X_copy_36_38_2, if_pos (by rw [le32_iff] <;> omega)]
    | succ m ih =>
      intro i hi
      rw [L_X_copy_36_38_2, if_neg (by rw [le32_iff] <;> omega), if_neg (by rw [le32_iff] <;> omega), if_pos (by omega), if_pos (by omega), Int.toNat_natCast, pcp_succ (by decide)]
      exact ih (i + 1) (by omega)
  have h := key 10 0 (by omega)
  rw [pcp_zero] at h
  exact h
theorem c_copy_2_29 {d : Nat} (hd : 1 ≤ d) {M : pM} : xF d 48 [.inr 4, .inr 31] M = rV (pcp M 2 29 80) := by
  obtain ⟨D, rfl, -⟩ := dsucc hd
  rw [T_X_copy_2_29]
  have key : ∀ m i : Nat, i + m = 80 → xE D 48 2 [.inr 4, .inr 31, .inl (i : Int)] [] (pcp M 2 29 i) = rV (pcp M 2 29 80) := by
    intro m
    induction m with
    | zero =>
      intro i hi
      have hi : i = 80 := by omega
      subst hi
      rw [L_X_copy_2_29_2, if_pos (by rw [le32_iff] <;> omega)]
    | succ m ih =>
      intro i hi
      rw [L_X_copy_2_29_2, if_neg (by rw [le32_iff] <;> omega), if_neg (by rw [le32_iff] <;> omega), if_pos (by omega), if_pos (by omega), Int.toNat_natCast, pcp_succ (by decide)]
      exact ih (i + 1) (by omega)
  have h := key 80 0 (by omega)
  rw [pcp_zero] at h
  exact h
