/-! the row: numbers told, on both sides -/
theorem c_start {d : Nat} (hd : 1 ≤ d) {M : pM} : xF d 127 [.inr 7] M = rV (pset M 5 1 0) := by
  obtain ⟨D, rfl, -⟩ := dsucc hd
  rw [T_Numbers_start]
def tel (M : pM) (n : Nat) (b : Int) : pM := pset (pset M 6 n b) 5 1 ((n + 1 : Nat) : Int)
theorem c_tell {d : Nat} (hd : 1 ≤ d) {M : pM} {n : Nat} (hn : M 5 1 = n) (h : n < 12) {b : Int} : xF d 128 [.inr 7, .inl b] M = rV (tel M n b) := by
  obtain ⟨D, rfl, -⟩ := dsucc hd
  rw [T_Numbers_tell, hn, if_neg (by rw [lt32_iff] <;> omega), if_neg (by rw [le32_iff] <;> omega), if_pos (by omega), Int.toNat_natCast, pset_ne (by decide), hn]
  rfl
theorem tel_n {M : pM} {n : Nat} {b : Int} : tel M n b 5 1 = ((n + 1 : Nat) : Int) := pset_eq
def telM (M : pM) (n : Nat) (b : Int) : pM := pset (pset M 69 n b) 60 16 ((n + 1 : Nat) : Int)
theorem m_tell {d : Nat} (hd : 1 ≤ d) {M : pM} {n : Nat} (hn : M 60 16 = n) (h : n < 16) {b : Int} : xF d 172 [.inr 62, .inl b] M = rV (telM M n b) := by
  obtain ⟨D, rfl, -⟩ := dsucc hd
  rw [T_M_tell, hn, if_pos (by omega), Int.toNat_natCast, pset_ne (by decide), hn]
  rfl
theorem telM_n {M : pM} {n : Nat} {b : Int} : telM M n b 60 16 = ((n + 1 : Nat) : Int) := pset_eq
