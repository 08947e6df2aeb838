/-! one turn of the law, out of what its calls do (by program) -/
def okC (cmp : Bool) (D kx km : Nat) (ax am : List pV) (Inv : pM → Prop) (M : pM) : Prop := ∃ v w M1 M2, xF D kx ax M = rI v M1 ∧ xF D km am M1 = rI w M2 ∧ (cmp = true → v = w) ∧ Inv M2
def okT0 (D k pl km : Nat) (ax am : List pV) (Inv : pM → Prop) (M : pM) : Prop := ∃ v w M1 M2, yL D k pl ax M = rI v M1 ∧ xF D km am M1 = rI w M2 ∧ Inv M2
def cmpc (c : Nat) : Bool := Nat.beq c 18
def callOK (D : Nat) (Inv : pM → Prop) (M : pM) (a1 a2 a3 a4 : Int) (c : Nat) : Prop := match c with
  | 0 => okC (cmpc 0) D 0 175 [.inr 2, .inl a1] [.inr 62, .inl a1] Inv M
  | 1 => okC (cmpc 1) D 1 176 [.inr 2, .inl a1] [.inr 62, .inl a1] Inv M
  | 2 => okC (cmpc 2) D 2 184 [.inr 2] [.inr 62] Inv M
  | 3 => okC (cmpc 3) D 3 193 [.inr 2] [.inr 62] Inv M
  | 4 => okT0 D 4 10 199 [.inr 2, .inl a1, .inl a2] [.inr 62, .inl a1, .inl a2] Inv M
  | 5 => okT0 D 5 10 201 [.inr 2, .inl a1, .inl a2] [.inr 62, .inl a1, .inl a2] Inv M
  | 6 => okC (cmpc 6) D 6 202 [.inr 2, .inl a1] [.inr 62, .inl a1] Inv M
  | 7 => okC (cmpc 7) D 7 203 [.inr 2, .inl a1, .inl a2] [.inr 62, .inl a1, .inl a2] Inv M
  | 8 => okC (cmpc 8) D 8 204 [.inr 2, .inl a1, .inl a2, .inl a3] [.inr 62, .inl a1, .inl a2, .inl a3] Inv M
  | 9 => okC (cmpc 9) D 9 205 [.inr 2, .inl a1] [.inr 62, .inl a1] Inv M
  | 10 => okC (cmpc 10) D 10 206 [.inr 2, .inl a1, .inl a2, .inl a3, .inl a4] [.inr 62, .inl a1, .inl a2, .inl a3, .inl a4] Inv M
  | 11 => okC (cmpc 11) D 11 216 [.inr 2, .inl a1, .inl a2] [.inr 62, .inl a1, .inl a2] Inv M
  | 12 => okC (cmpc 12) D 12 218 [.inr 2] [.inr 62] Inv M
  | 13 => okC (cmpc 13) D 13 219 [.inr 2] [.inr 62] Inv M
  | 14 => okC (cmpc 14) D 14 220 [.inr 2] [.inr 62] Inv M
  | 15 => okC (cmpc 15) D 15 221 [.inr 2, .inl a1, .inl a2] [.inr 62, .inl a1, .inl a2] Inv M
  | 16 => okC (cmpc 16) D 16 222 [.inr 2] [.inr 62] Inv M
  | 17 => okC (cmpc 17) D 17 224 [.inr 2] [.inr 62] Inv M
  | 18 => okC (cmpc 18) D 18 225 [.inr 2, .inl a1] [.inr 62, .inl a1] Inv M
  | 19 => okC (cmpc 19) D 19 226 [.inr 2, .inl a1] [.inr 62, .inl a1] Inv M
  | 20 => okC (cmpc 20) D 20 227 [.inr 2] [.inr 62] Inv M
  | 21 => okC (cmpc 21) D 21 234 [.inr 2] [.inr 62] Inv M
  | 22 => okC (cmpc 22) D 22 235 [.inr 2] [.inr 62] Inv M
  | 23 => okC (cmpc 23) D 23 236 [.inr 2] [.inr 62] Inv M
  | 24 => okC (cmpc 24) D 24 238 [.inr 2] [.inr 62] Inv M
  | 25 => okC (cmpc 25) D 25 239 [.inr 2, .inl a1, .inl a2] [.inr 62, .inl a1, .inl a2] Inv M
  | 26 => okC (cmpc 26) D 26 240 [.inr 2] [.inr 62] Inv M
  | 27 => okC (cmpc 27) D 27 241 [.inr 2, .inl a1, .inl a2] [.inr 62, .inl a1, .inl a2] Inv M
  | 28 => okC (cmpc 28) D 28 242 [.inr 2, .inl a1] [.inr 62, .inl a1] Inv M
  | 29 => okC (cmpc 29) D 29 243 [.inr 2, .inl a1, .inl a2] [.inr 62, .inl a1, .inl a2] Inv M
  | 30 => okC (cmpc 30) D 30 244 [.inr 2, .inl a1] [.inr 62, .inl a1] Inv M
  | 31 => okC (cmpc 31) D 31 245 [.inr 2, .inl a1, .inl a2] [.inr 62, .inl a1, .inl a2] Inv M
  | 32 => okC (cmpc 32) D 32 246 [.inr 2] [.inr 62] Inv M
  | 33 => okC (cmpc 33) D 33 248 [.inr 2] [.inr 62] Inv M
  | 34 => okC (cmpc 34) D 34 250 [.inr 2, .inl a1, .inl a2] [.inr 62, .inl a1, .inl a2] Inv M
  | 35 => okC (cmpc 35) D 35 251 [.inr 2, .inl a1, .inl a2] [.inr 62, .inl a1, .inl a2] Inv M
  | 36 => okC (cmpc 36) D 36 252 [.inr 2] [.inr 62] Inv M
  | 37 => okC (cmpc 37) D 37 254 [.inr 2, .inl a1] [.inr 62, .inl a1] Inv M
  | 38 => okC (cmpc 38) D 38 255 [.inr 2] [.inr 62] Inv M
  | 39 => okC (cmpc 39) D 39 257 [.inr 2] [.inr 62] Inv M
  | 40 => okC (cmpc 40) D 40 259 [.inr 2] [.inr 62] Inv M
  | 41 => okC (cmpc 41) D 41 263 [.inr 2] [.inr 62] Inv M
  | 42 => okC (cmpc 42) D 42 264 [.inr 2] [.inr 62] Inv M
  | 43 => okC (cmpc 43) D 43 266 [.inr 2, .inl a1] [.inr 62, .inl a1] Inv M
  | 44 => okC (cmpc 44) D 44 267 [.inr 2, .inl a1] [.inr 62, .inl a1] Inv M
  | 45 => okC (cmpc 45) D 45 268 [.inr 2, .inl a1] [.inr 62, .inl a1] Inv M
  | 46 => okT0 D 46 7 269 [.inr 2, .inl a1] [.inr 62, .inl a1] Inv M
  | _ => Inv M
theorem lawX_ok {Inv : Nat → pM → Prop} {j : Nat} {M : pM} (h : Inv (j + 1) M) (u5 u6 : pV) : lawX Inv j 13 [.inr 95, .inr 2, .inr 62, .inr 92, .inl (Int.ofNat (5 * j) + 5), u5, u6] [] M = some (some (.inl 1), M) := by
  unfold lawX
  exact if_pos ⟨rfl, rfl, h, _, _, rfl⟩
theorem lawX1_ok {D L : Nat} {xs : Nat → Int32} {Inv : Nat → pM → Prop} {j : Nat} {M : pM} (h : Inv (j + 1) M) (u5 u6 : pV) : lawX1 D L xs Inv j 13 [.inr 95, .inr 2, .inr 62, .inr 92, .inl (Int.ofNat (5 * j) + 5), u5, u6] [] M = some (some (.inl 1), M) := lawX_ok h u5 u6
set_option maxHeartbeats 1000000 in
theorem turn_0 {D L : Nat} {xs : Nat → Int32} {Inv : Nat → pM → Prop} {j : Nat} {M : pM} (u5 u6 : pV) (hj : 5 * j + 5 ≤ L) (h : callOK D (Inv (j + 1)) M ((xs (Int.ofNat (5 * j) + 1).toNat).toInt) ((xs (Int.ofNat (5 * j) + 2).toNat).toInt) ((xs (Int.ofNat (5 * j) + 3).toNat).toInt) ((xs (Int.ofNat (5 * j) + 4).toNat).toInt) 0) : ∃ M', lawC D L xs Inv j 25 [.inr 95, .inr 2, .inr 62, .inr 92, .inl (Int.ofNat (5 * j)), u5, u6] [] M = some (some (.inl 1), M') := by
  have h1 : 0 ≤ Int.ofNat (5 * j) + 1 ∧ Int.ofNat (5 * j) + 1 < Int.ofNat L := by simp only [Int.ofNat_eq_natCast]; omega
  obtain ⟨v, y, M1, M2, e1, e2, e3, e4⟩ := h
  unfold lawC
  rw [LT_0]
  simp only [if_pos h1, e1, e2, pbI_rI]
  exact ⟨_, lawX1_ok e4 _ _⟩
set_option maxHeartbeats 1000000 in
theorem turn_1 {D L : Nat} {xs : Nat → Int32} {Inv : Nat → pM → Prop} {j : Nat} {M : pM} (u5 u6 : pV) (hj : 5 * j + 5 ≤ L) (h : callOK D (Inv (j + 1)) M ((xs (Int.ofNat (5 * j) + 1).toNat).toInt) ((xs (Int.ofNat (5 * j) + 2).toNat).toInt) ((xs (Int.ofNat (5 * j) + 3).toNat).toInt) ((xs (Int.ofNat (5 * j) + 4).toNat).toInt) 1) : ∃ M', lawC D L xs Inv j 42 [.inr 95, .inr 2, .inr 62, .inr 92, .inl (Int.ofNat (5 * j)), u5, u6] [] M = some (some (.inl 1), M') := by
  have h1 : 0 ≤ Int.ofNat (5 * j) + 1 ∧ Int.ofNat (5 * j) + 1 < Int.ofNat L := by simp only [Int.ofNat_eq_natCast]; omega
  obtain ⟨v, y, M1, M2, e1, e2, e3, e4⟩ := h
  unfold lawC
  rw [LT_1]
  simp only [if_pos h1, e1, e2, pbI_rI]
  exact ⟨_, lawX1_ok e4 _ _⟩
set_option maxHeartbeats 1000000 in
theorem turn_2 {D L : Nat} {xs : Nat → Int32} {Inv : Nat → pM → Prop} {j : Nat} {M : pM} (u5 u6 : pV) (hj : 5 * j + 5 ≤ L) (h : callOK D (Inv (j + 1)) M ((xs (Int.ofNat (5 * j) + 1).toNat).toInt) ((xs (Int.ofNat (5 * j) + 2).toNat).toInt) ((xs (Int.ofNat (5 * j) + 3).toNat).toInt) ((xs (Int.ofNat (5 * j) + 4).toNat).toInt) 2) : ∃ M', lawC D L xs Inv j 59 [.inr 95, .inr 2, .inr 62, .inr 92, .inl (Int.ofNat (5 * j)), u5, u6] [] M = some (some (.inl 1), M') := by
  obtain ⟨v, y, M1, M2, e1, e2, e3, e4⟩ := h
  unfold lawC
  rw [LT_2]
  simp only [e1, e2, pbI_rI]
  exact ⟨_, lawX1_ok e4 _ _⟩
set_option maxHeartbeats 1000000 in
theorem turn_3 {D L : Nat} {xs : Nat → Int32} {Inv : Nat → pM → Prop} {j : Nat} {M : pM} (u5 u6 : pV) (hj : 5 * j + 5 ≤ L) (h : callOK D (Inv (j + 1)) M ((xs (Int.ofNat (5 * j) + 1).toNat).toInt) ((xs (Int.ofNat (5 * j) + 2).toNat).toInt) ((xs (Int.ofNat (5 * j) + 3).toNat).toInt) ((xs (Int.ofNat (5 * j) + 4).toNat).toInt) 3) : ∃ M', lawC D L xs Inv j 66 [.inr 95, .inr 2, .inr 62, .inr 92, .inl (Int.ofNat (5 * j)), u5, u6] [] M = some (some (.inl 1), M') := by
  obtain ⟨v, y, M1, M2, e1, e2, e3, e4⟩ := h
  unfold lawC
  rw [LT_3]
  simp only [e1, e2, pbI_rI]
  exact ⟨_, lawX1_ok e4 _ _⟩
set_option maxHeartbeats 1000000 in
theorem turn_4 {D L : Nat} {xs : Nat → Int32} {Inv : Nat → pM → Prop} {j : Nat} {M : pM} (u5 u6 : pV) (hj : 5 * j + 5 ≤ L) (h : callOK D (Inv (j + 1)) M ((xs (Int.ofNat (5 * j) + 1).toNat).toInt) ((xs (Int.ofNat (5 * j) + 2).toNat).toInt) ((xs (Int.ofNat (5 * j) + 3).toNat).toInt) ((xs (Int.ofNat (5 * j) + 4).toNat).toInt) 4) : ∃ M', lawC D L xs Inv j 73 [.inr 95, .inr 2, .inr 62, .inr 92, .inl (Int.ofNat (5 * j)), u5, u6] [] M = some (some (.inl 1), M') := by
  have h1 : 0 ≤ Int.ofNat (5 * j) + 1 ∧ Int.ofNat (5 * j) + 1 < Int.ofNat L := by simp only [Int.ofNat_eq_natCast]; omega
  have h2 : 0 ≤ Int.ofNat (5 * j) + 2 ∧ Int.ofNat (5 * j) + 2 < Int.ofNat L := by simp only [Int.ofNat_eq_natCast]; omega
  obtain ⟨v, y, M1, M2, e1, e2, e6⟩ := h
  unfold lawC
  rw [LT_4]
  simp only [if_pos h1, if_pos h2, Nat.beq]
  show ∃ M', (pbI (yL D 4 10 [.inr 2, .inl ((xs (Int.ofNat (5 * j) + 1).toNat).toInt), .inl ((xs (Int.ofNat (5 * j) + 2).toNat).toInt)] M) fun v M1 => lawR D L xs Inv j 86 [.inr 95, .inr 2, .inr 62, .inr 92, .inl (Int.ofNat (5 * j)), u5, u6] [.inl v] M1) = some (some (.inl 1), M')
  rw [e1]
  simp only [pbI_rI]
  unfold lawR
  rw [LT_after_85]
  simp only [if_pos h1, if_pos h2, Nat.beq]
  rw [e2]
  simp only [pbI_rI]
  exact ⟨_, lawX_ok e6 _ _⟩
set_option maxHeartbeats 1000000 in
theorem turn_5 {D L : Nat} {xs : Nat → Int32} {Inv : Nat → pM → Prop} {j : Nat} {M : pM} (u5 u6 : pV) (hj : 5 * j + 5 ≤ L) (h : callOK D (Inv (j + 1)) M ((xs (Int.ofNat (5 * j) + 1).toNat).toInt) ((xs (Int.ofNat (5 * j) + 2).toNat).toInt) ((xs (Int.ofNat (5 * j) + 3).toNat).toInt) ((xs (Int.ofNat (5 * j) + 4).toNat).toInt) 5) : ∃ M', lawC D L xs Inv j 101 [.inr 95, .inr 2, .inr 62, .inr 92, .inl (Int.ofNat (5 * j)), u5, u6] [] M = some (some (.inl 1), M') := by
  have h1 : 0 ≤ Int.ofNat (5 * j) + 1 ∧ Int.ofNat (5 * j) + 1 < Int.ofNat L := by simp only [Int.ofNat_eq_natCast]; omega
  have h2 : 0 ≤ Int.ofNat (5 * j) + 2 ∧ Int.ofNat (5 * j) + 2 < Int.ofNat L := by simp only [Int.ofNat_eq_natCast]; omega
  obtain ⟨v, y, M1, M2, e1, e2, e6⟩ := h
  unfold lawC
  rw [LT_5]
  simp only [if_pos h1, if_pos h2, Nat.beq]
  show ∃ M', (pbI (yL D 5 10 [.inr 2, .inl ((xs (Int.ofNat (5 * j) + 1).toNat).toInt), .inl ((xs (Int.ofNat (5 * j) + 2).toNat).toInt)] M) fun v M1 => lawR D L xs Inv j 114 [.inr 95, .inr 2, .inr 62, .inr 92, .inl (Int.ofNat (5 * j)), u5, u6] [.inl v] M1) = some (some (.inl 1), M')
  rw [e1]
  simp only [pbI_rI]
  unfold lawR
  rw [LT_after_113]
  simp only [if_pos h1, if_pos h2, Nat.beq]
  rw [e2]
  simp only [pbI_rI]
  exact ⟨_, lawX_ok e6 _ _⟩
set_option maxHeartbeats 1000000 in
theorem turn_6 {D L : Nat} {xs : Nat → Int32} {Inv : Nat → pM → Prop} {j : Nat} {M : pM} (u5 u6 : pV) (hj : 5 * j + 5 ≤ L) (h : callOK D (Inv (j + 1)) M ((xs (Int.ofNat (5 * j) + 1).toNat).toInt) ((xs (Int.ofNat (5 * j) + 2).toNat).toInt) ((xs (Int.ofNat (5 * j) + 3).toNat).toInt) ((xs (Int.ofNat (5 * j) + 4).toNat).toInt) 6) : ∃ M', lawC D L xs Inv j 129 [.inr 95, .inr 2, .inr 62, .inr 92, .inl (Int.ofNat (5 * j)), u5, u6] [] M = some (some (.inl 1), M') := by
  have h1 : 0 ≤ Int.ofNat (5 * j) + 1 ∧ Int.ofNat (5 * j) + 1 < Int.ofNat L := by simp only [Int.ofNat_eq_natCast]; omega
  obtain ⟨v, y, M1, M2, e1, e2, e3, e4⟩ := h
  unfold lawC
  rw [LT_6]
  simp only [if_pos h1, e1, e2, pbI_rI]
  exact ⟨_, lawX1_ok e4 _ _⟩
set_option maxHeartbeats 1000000 in
theorem turn_7 {D L : Nat} {xs : Nat → Int32} {Inv : Nat → pM → Prop} {j : Nat} {M : pM} (u5 u6 : pV) (hj : 5 * j + 5 ≤ L) (h : callOK D (Inv (j + 1)) M ((xs (Int.ofNat (5 * j) + 1).toNat).toInt) ((xs (Int.ofNat (5 * j) + 2).toNat).toInt) ((xs (Int.ofNat (5 * j) + 3).toNat).toInt) ((xs (Int.ofNat (5 * j) + 4).toNat).toInt) 7) : ∃ M', lawC D L xs Inv j 146 [.inr 95, .inr 2, .inr 62, .inr 92, .inl (Int.ofNat (5 * j)), u5, u6] [] M = some (some (.inl 1), M') := by
  have h1 : 0 ≤ Int.ofNat (5 * j) + 1 ∧ Int.ofNat (5 * j) + 1 < Int.ofNat L := by simp only [Int.ofNat_eq_natCast]; omega
  have h2 : 0 ≤ Int.ofNat (5 * j) + 2 ∧ Int.ofNat (5 * j) + 2 < Int.ofNat L := by simp only [Int.ofNat_eq_natCast]; omega
  obtain ⟨v, y, M1, M2, e1, e2, e3, e4⟩ := h
  unfold lawC
  rw [LT_7]
  simp only [if_pos h1, if_pos h2, e1, e2, pbI_rI]
  exact ⟨_, lawX1_ok e4 _ _⟩
set_option maxHeartbeats 1000000 in
theorem turn_8 {D L : Nat} {xs : Nat → Int32} {Inv : Nat → pM → Prop} {j : Nat} {M : pM} (u5 u6 : pV) (hj : 5 * j + 5 ≤ L) (h : callOK D (Inv (j + 1)) M ((xs (Int.ofNat (5 * j) + 1).toNat).toInt) ((xs (Int.ofNat (5 * j) + 2).toNat).toInt) ((xs (Int.ofNat (5 * j) + 3).toNat).toInt) ((xs (Int.ofNat (5 * j) + 4).toNat).toInt) 8) : ∃ M', lawC D L xs Inv j 173 [.inr 95, .inr 2, .inr 62, .inr 92, .inl (Int.ofNat (5 * j)), u5, u6] [] M = some (some (.inl 1), M') := by
  have h1 : 0 ≤ Int.ofNat (5 * j) + 1 ∧ Int.ofNat (5 * j) + 1 < Int.ofNat L := by simp only [Int.ofNat_eq_natCast]; omega
  have h2 : 0 ≤ Int.ofNat (5 * j) + 2 ∧ Int.ofNat (5 * j) + 2 < Int.ofNat L := by simp only [Int.ofNat_eq_natCast]; omega
  have h3 : 0 ≤ Int.ofNat (5 * j) + 3 ∧ Int.ofNat (5 * j) + 3 < Int.ofNat L := by simp only [Int.ofNat_eq_natCast]; omega
  obtain ⟨v, y, M1, M2, e1, e2, e3, e4⟩ := h
  unfold lawC
  rw [LT_8]
  simp only [if_pos h1, if_pos h2, if_pos h3, e1, e2, pbI_rI]
  exact ⟨_, lawX1_ok e4 _ _⟩
set_option maxHeartbeats 1000000 in
theorem turn_9 {D L : Nat} {xs : Nat → Int32} {Inv : Nat → pM → Prop} {j : Nat} {M : pM} (u5 u6 : pV) (hj : 5 * j + 5 ≤ L) (h : callOK D (Inv (j + 1)) M ((xs (Int.ofNat (5 * j) + 1).toNat).toInt) ((xs (Int.ofNat (5 * j) + 2).toNat).toInt) ((xs (Int.ofNat (5 * j) + 3).toNat).toInt) ((xs (Int.ofNat (5 * j) + 4).toNat).toInt) 9) : ∃ M', lawC D L xs Inv j 210 [.inr 95, .inr 2, .inr 62, .inr 92, .inl (Int.ofNat (5 * j)), u5, u6] [] M = some (some (.inl 1), M') := by
  have h1 : 0 ≤ Int.ofNat (5 * j) + 1 ∧ Int.ofNat (5 * j) + 1 < Int.ofNat L := by simp only [Int.ofNat_eq_natCast]; omega
  obtain ⟨v, y, M1, M2, e1, e2, e3, e4⟩ := h
  unfold lawC
  rw [LT_9]
  simp only [if_pos h1, e1, e2, pbI_rI]
  exact ⟨_, lawX1_ok e4 _ _⟩
set_option maxHeartbeats 1000000 in
theorem turn_10 {D L : Nat} {xs : Nat → Int32} {Inv : Nat → pM → Prop} {j : Nat} {M : pM} (u5 u6 : pV) (hj : 5 * j + 5 ≤ L) (h : callOK D (Inv (j + 1)) M ((xs (Int.ofNat (5 * j) + 1).toNat).toInt) ((xs (Int.ofNat (5 * j) + 2).toNat).toInt) ((xs (Int.ofNat (5 * j) + 3).toNat).toInt) ((xs (Int.ofNat (5 * j) + 4).toNat).toInt) 10) : ∃ M', lawC D L xs Inv j 227 [.inr 95, .inr 2, .inr 62, .inr 92, .inl (Int.ofNat (5 * j)), u5, u6] [] M = some (some (.inl 1), M') := by
  have h1 : 0 ≤ Int.ofNat (5 * j) + 1 ∧ Int.ofNat (5 * j) + 1 < Int.ofNat L := by simp only [Int.ofNat_eq_natCast]; omega
  have h2 : 0 ≤ Int.ofNat (5 * j) + 2 ∧ Int.ofNat (5 * j) + 2 < Int.ofNat L := by simp only [Int.ofNat_eq_natCast]; omega
  have h3 : 0 ≤ Int.ofNat (5 * j) + 3 ∧ Int.ofNat (5 * j) + 3 < Int.ofNat L := by simp only [Int.ofNat_eq_natCast]; omega
  have h4 : 0 ≤ Int.ofNat (5 * j) + 4 ∧ Int.ofNat (5 * j) + 4 < Int.ofNat L := by simp only [Int.ofNat_eq_natCast]; omega
  obtain ⟨v, y, M1, M2, e1, e2, e3, e4⟩ := h
  unfold lawC
  rw [LT_10]
  simp only [if_pos h1, if_pos h2, if_pos h3, if_pos h4, e1, e2, pbI_rI]
  exact ⟨_, lawX1_ok e4 _ _⟩
set_option maxHeartbeats 1000000 in
theorem turn_11 {D L : Nat} {xs : Nat → Int32} {Inv : Nat → pM → Prop} {j : Nat} {M : pM} (u5 u6 : pV) (hj : 5 * j + 5 ≤ L) (h : callOK D (Inv (j + 1)) M ((xs (Int.ofNat (5 * j) + 1).toNat).toInt) ((xs (Int.ofNat (5 * j) + 2).toNat).toInt) ((xs (Int.ofNat (5 * j) + 3).toNat).toInt) ((xs (Int.ofNat (5 * j) + 4).toNat).toInt) 11) : ∃ M', lawC D L xs Inv j 274 [.inr 95, .inr 2, .inr 62, .inr 92, .inl (Int.ofNat (5 * j)), u5, u6] [] M = some (some (.inl 1), M') := by
  have h1 : 0 ≤ Int.ofNat (5 * j) + 1 ∧ Int.ofNat (5 * j) + 1 < Int.ofNat L := by simp only [Int.ofNat_eq_natCast]; omega
  have h2 : 0 ≤ Int.ofNat (5 * j) + 2 ∧ Int.ofNat (5 * j) + 2 < Int.ofNat L := by simp only [Int.ofNat_eq_natCast]; omega
  obtain ⟨v, y, M1, M2, e1, e2, e3, e4⟩ := h
  unfold lawC
  rw [LT_11]
  simp only [if_pos h1, if_pos h2, e1, e2, pbI_rI]
  exact ⟨_, lawX1_ok e4 _ _⟩
set_option maxHeartbeats 1000000 in
theorem turn_12 {D L : Nat} {xs : Nat → Int32} {Inv : Nat → pM → Prop} {j : Nat} {M : pM} (u5 u6 : pV) (hj : 5 * j + 5 ≤ L) (h : callOK D (Inv (j + 1)) M ((xs (Int.ofNat (5 * j) + 1).toNat).toInt) ((xs (Int.ofNat (5 * j) + 2).toNat).toInt) ((xs (Int.ofNat (5 * j) + 3).toNat).toInt) ((xs (Int.ofNat (5 * j) + 4).toNat).toInt) 12) : ∃ M', lawC D L xs Inv j 301 [.inr 95, .inr 2, .inr 62, .inr 92, .inl (Int.ofNat (5 * j)), u5, u6] [] M = some (some (.inl 1), M') := by
  obtain ⟨v, y, M1, M2, e1, e2, e3, e4⟩ := h
  unfold lawC
  rw [LT_12]
  simp only [e1, e2, pbI_rI]
  exact ⟨_, lawX1_ok e4 _ _⟩
set_option maxHeartbeats 1000000 in
theorem turn_13 {D L : Nat} {xs : Nat → Int32} {Inv : Nat → pM → Prop} {j : Nat} {M : pM} (u5 u6 : pV) (hj : 5 * j + 5 ≤ L) (h : callOK D (Inv (j + 1)) M ((xs (Int.ofNat (5 * j) + 1).toNat).toInt) ((xs (Int.ofNat (5 * j) + 2).toNat).toInt) ((xs (Int.ofNat (5 * j) + 3).toNat).toInt) ((xs (Int.ofNat (5 * j) + 4).toNat).toInt) 13) : ∃ M', lawC D L xs Inv j 308 [.inr 95, .inr 2, .inr 62, .inr 92, .inl (Int.ofNat (5 * j)), u5, u6] [] M = some (some (.inl 1), M') := by
  obtain ⟨v, y, M1, M2, e1, e2, e3, e4⟩ := h
  unfold lawC
  rw [LT_13]
  simp only [e1, e2, pbI_rI]
  exact ⟨_, lawX1_ok e4 _ _⟩
set_option maxHeartbeats 1000000 in
theorem turn_14 {D L : Nat} {xs : Nat → Int32} {Inv : Nat → pM → Prop} {j : Nat} {M : pM} (u5 u6 : pV) (hj : 5 * j + 5 ≤ L) (h : callOK D (Inv (j + 1)) M ((xs (Int.ofNat (5 * j) + 1).toNat).toInt) ((xs (Int.ofNat (5 * j) + 2).toNat).toInt) ((xs (Int.ofNat (5 * j) + 3).toNat).toInt) ((xs (Int.ofNat (5 * j) + 4).toNat).toInt) 14) : ∃ M', lawC D L xs Inv j 315 [.inr 95, .inr 2, .inr 62, .inr 92, .inl (Int.ofNat (5 * j)), u5, u6] [] M = some (some (.inl 1), M') := by
  obtain ⟨v, y, M1, M2, e1, e2, e3, e4⟩ := h
  unfold lawC
  rw [LT_14]
  simp only [e1, e2, pbI_rI]
  exact ⟨_, lawX1_ok e4 _ _⟩
set_option maxHeartbeats 1000000 in
theorem turn_15 {D L : Nat} {xs : Nat → Int32} {Inv : Nat → pM → Prop} {j : Nat} {M : pM} (u5 u6 : pV) (hj : 5 * j + 5 ≤ L) (h : callOK D (Inv (j + 1)) M ((xs (Int.ofNat (5 * j) + 1).toNat).toInt) ((xs (Int.ofNat (5 * j) + 2).toNat).toInt) ((xs (Int.ofNat (5 * j) + 3).toNat).toInt) ((xs (Int.ofNat (5 * j) + 4).toNat).toInt) 15) : ∃ M', lawC D L xs Inv j 322 [.inr 95, .inr 2, .inr 62, .inr 92, .inl (Int.ofNat (5 * j)), u5, u6] [] M = some (some (.inl 1), M') := by
  have h1 : 0 ≤ Int.ofNat (5 * j) + 1 ∧ Int.ofNat (5 * j) + 1 < Int.ofNat L := by simp only [Int.ofNat_eq_natCast]; omega
  have h2 : 0 ≤ Int.ofNat (5 * j) + 2 ∧ Int.ofNat (5 * j) + 2 < Int.ofNat L := by simp only [Int.ofNat_eq_natCast]; omega
  obtain ⟨v, y, M1, M2, e1, e2, e3, e4⟩ := h
  unfold lawC
  rw [LT_15]
  simp only [if_pos h1, if_pos h2, e1, e2, pbI_rI]
  exact ⟨_, lawX1_ok e4 _ _⟩
set_option maxHeartbeats 1000000 in
theorem turn_16 {D L : Nat} {xs : Nat → Int32} {Inv : Nat → pM → Prop} {j : Nat} {M : pM} (u5 u6 : pV) (hj : 5 * j + 5 ≤ L) (h : callOK D (Inv (j + 1)) M ((xs (Int.ofNat (5 * j) + 1).toNat).toInt) ((xs (Int.ofNat (5 * j) + 2).toNat).toInt) ((xs (Int.ofNat (5 * j) + 3).toNat).toInt) ((xs (Int.ofNat (5 * j) + 4).toNat).toInt) 16) : ∃ M', lawC D L xs Inv j 349 [.inr 95, .inr 2, .inr 62, .inr 92, .inl (Int.ofNat (5 * j)), u5, u6] [] M = some (some (.inl 1), M') := by
  obtain ⟨v, y, M1, M2, e1, e2, e3, e4⟩ := h
  unfold lawC
  rw [LT_16]
  simp only [e1, e2, pbI_rI]
  exact ⟨_, lawX1_ok e4 _ _⟩
set_option maxHeartbeats 1000000 in
theorem turn_17 {D L : Nat} {xs : Nat → Int32} {Inv : Nat → pM → Prop} {j : Nat} {M : pM} (u5 u6 : pV) (hj : 5 * j + 5 ≤ L) (h : callOK D (Inv (j + 1)) M ((xs (Int.ofNat (5 * j) + 1).toNat).toInt) ((xs (Int.ofNat (5 * j) + 2).toNat).toInt) ((xs (Int.ofNat (5 * j) + 3).toNat).toInt) ((xs (Int.ofNat (5 * j) + 4).toNat).toInt) 17) : ∃ M', lawC D L xs Inv j 356 [.inr 95, .inr 2, .inr 62, .inr 92, .inl (Int.ofNat (5 * j)), u5, u6] [] M = some (some (.inl 1), M') := by
  obtain ⟨v, y, M1, M2, e1, e2, e3, e4⟩ := h
  unfold lawC
  rw [LT_17]
  simp only [e1, e2, pbI_rI]
  exact ⟨_, lawX1_ok e4 _ _⟩
set_option maxHeartbeats 1000000 in
theorem turn_18 {D L : Nat} {xs : Nat → Int32} {Inv : Nat → pM → Prop} {j : Nat} {M : pM} (u5 u6 : pV) (hj : 5 * j + 5 ≤ L) (h : callOK D (Inv (j + 1)) M ((xs (Int.ofNat (5 * j) + 1).toNat).toInt) ((xs (Int.ofNat (5 * j) + 2).toNat).toInt) ((xs (Int.ofNat (5 * j) + 3).toNat).toInt) ((xs (Int.ofNat (5 * j) + 4).toNat).toInt) 18) : ∃ M', lawC D L xs Inv j 363 [.inr 95, .inr 2, .inr 62, .inr 92, .inl (Int.ofNat (5 * j)), u5, u6] [] M = some (some (.inl 1), M') := by
  have h1 : 0 ≤ Int.ofNat (5 * j) + 1 ∧ Int.ofNat (5 * j) + 1 < Int.ofNat L := by simp only [Int.ofNat_eq_natCast]; omega
  obtain ⟨v, y, M1, M2, e1, e2, e3, e4⟩ := h
  unfold lawC
  rw [LT_18]
  simp only [if_pos h1, e1, e2, pbI_rI]
  rw [if_pos (show eq32 v y by rw [e3 rfl])]
  exact ⟨_, lawX1_ok e4 _ _⟩
set_option maxHeartbeats 1000000 in
theorem turn_19 {D L : Nat} {xs : Nat → Int32} {Inv : Nat → pM → Prop} {j : Nat} {M : pM} (u5 u6 : pV) (hj : 5 * j + 5 ≤ L) (h : callOK D (Inv (j + 1)) M ((xs (Int.ofNat (5 * j) + 1).toNat).toInt) ((xs (Int.ofNat (5 * j) + 2).toNat).toInt) ((xs (Int.ofNat (5 * j) + 3).toNat).toInt) ((xs (Int.ofNat (5 * j) + 4).toNat).toInt) 19) : ∃ M', lawC D L xs Inv j 380 [.inr 95, .inr 2, .inr 62, .inr 92, .inl (Int.ofNat (5 * j)), u5, u6] [] M = some (some (.inl 1), M') := by
  have h1 : 0 ≤ Int.ofNat (5 * j) + 1 ∧ Int.ofNat (5 * j) + 1 < Int.ofNat L := by simp only [Int.ofNat_eq_natCast]; omega
  obtain ⟨v, y, M1, M2, e1, e2, e3, e4⟩ := h
  unfold lawC
  rw [LT_19]
  simp only [if_pos h1, e1, e2, pbI_rI]
  exact ⟨_, lawX1_ok e4 _ _⟩
set_option maxHeartbeats 1000000 in
theorem turn_20 {D L : Nat} {xs : Nat → Int32} {Inv : Nat → pM → Prop} {j : Nat} {M : pM} (u5 u6 : pV) (hj : 5 * j + 5 ≤ L) (h : callOK D (Inv (j + 1)) M ((xs (Int.ofNat (5 * j) + 1).toNat).toInt) ((xs (Int.ofNat (5 * j) + 2).toNat).toInt) ((xs (Int.ofNat (5 * j) + 3).toNat).toInt) ((xs (Int.ofNat (5 * j) + 4).toNat).toInt) 20) : ∃ M', lawC D L xs Inv j 397 [.inr 95, .inr 2, .inr 62, .inr 92, .inl (Int.ofNat (5 * j)), u5, u6] [] M = some (some (.inl 1), M') := by
  obtain ⟨v, y, M1, M2, e1, e2, e3, e4⟩ := h
  unfold lawC
  rw [LT_20]
  simp only [e1, e2, pbI_rI]
  exact ⟨_, lawX1_ok e4 _ _⟩
set_option maxHeartbeats 1000000 in
theorem turn_21 {D L : Nat} {xs : Nat → Int32} {Inv : Nat → pM → Prop} {j : Nat} {M : pM} (u5 u6 : pV) (hj : 5 * j + 5 ≤ L) (h : callOK D (Inv (j + 1)) M ((xs (Int.ofNat (5 * j) + 1).toNat).toInt) ((xs (Int.ofNat (5 * j) + 2).toNat).toInt) ((xs (Int.ofNat (5 * j) + 3).toNat).toInt) ((xs (Int.ofNat (5 * j) + 4).toNat).toInt) 21) : ∃ M', lawC D L xs Inv j 404 [.inr 95, .inr 2, .inr 62, .inr 92, .inl (Int.ofNat (5 * j)), u5, u6] [] M = some (some (.inl 1), M') := by
  obtain ⟨v, y, M1, M2, e1, e2, e3, e4⟩ := h
  unfold lawC
  rw [LT_21]
  simp only [e1, e2, pbI_rI]
  exact ⟨_, lawX1_ok e4 _ _⟩
set_option maxHeartbeats 1000000 in
theorem turn_22 {D L : Nat} {xs : Nat → Int32} {Inv : Nat → pM → Prop} {j : Nat} {M : pM} (u5 u6 : pV) (hj : 5 * j + 5 ≤ L) (h : callOK D (Inv (j + 1)) M ((xs (Int.ofNat (5 * j) + 1).toNat).toInt) ((xs (Int.ofNat (5 * j) + 2).toNat).toInt) ((xs (Int.ofNat (5 * j) + 3).toNat).toInt) ((xs (Int.ofNat (5 * j) + 4).toNat).toInt) 22) : ∃ M', lawC D L xs Inv j 411 [.inr 95, .inr 2, .inr 62, .inr 92, .inl (Int.ofNat (5 * j)), u5, u6] [] M = some (some (.inl 1), M') := by
  obtain ⟨v, y, M1, M2, e1, e2, e3, e4⟩ := h
  unfold lawC
  rw [LT_22]
  simp only [e1, e2, pbI_rI]
  exact ⟨_, lawX1_ok e4 _ _⟩
set_option maxHeartbeats 1000000 in
theorem turn_23 {D L : Nat} {xs : Nat → Int32} {Inv : Nat → pM → Prop} {j : Nat} {M : pM} (u5 u6 : pV) (hj : 5 * j + 5 ≤ L) (h : callOK D (Inv (j + 1)) M ((xs (Int.ofNat (5 * j) + 1).toNat).toInt) ((xs (Int.ofNat (5 * j) + 2).toNat).toInt) ((xs (Int.ofNat (5 * j) + 3).toNat).toInt) ((xs (Int.ofNat (5 * j) + 4).toNat).toInt) 23) : ∃ M', lawC D L xs Inv j 418 [.inr 95, .inr 2, .inr 62, .inr 92, .inl (Int.ofNat (5 * j)), u5, u6] [] M = some (some (.inl 1), M') := by
  obtain ⟨v, y, M1, M2, e1, e2, e3, e4⟩ := h
  unfold lawC
  rw [LT_23]
  simp only [e1, e2, pbI_rI]
  exact ⟨_, lawX1_ok e4 _ _⟩
set_option maxHeartbeats 1000000 in
theorem turn_24 {D L : Nat} {xs : Nat → Int32} {Inv : Nat → pM → Prop} {j : Nat} {M : pM} (u5 u6 : pV) (hj : 5 * j + 5 ≤ L) (h : callOK D (Inv (j + 1)) M ((xs (Int.ofNat (5 * j) + 1).toNat).toInt) ((xs (Int.ofNat (5 * j) + 2).toNat).toInt) ((xs (Int.ofNat (5 * j) + 3).toNat).toInt) ((xs (Int.ofNat (5 * j) + 4).toNat).toInt) 24) : ∃ M', lawC D L xs Inv j 425 [.inr 95, .inr 2, .inr 62, .inr 92, .inl (Int.ofNat (5 * j)), u5, u6] [] M = some (some (.inl 1), M') := by
  obtain ⟨v, y, M1, M2, e1, e2, e3, e4⟩ := h
  unfold lawC
  rw [LT_24]
  simp only [e1, e2, pbI_rI]
  exact ⟨_, lawX1_ok e4 _ _⟩
set_option maxHeartbeats 1000000 in
theorem turn_25 {D L : Nat} {xs : Nat → Int32} {Inv : Nat → pM → Prop} {j : Nat} {M : pM} (u5 u6 : pV) (hj : 5 * j + 5 ≤ L) (h : callOK D (Inv (j + 1)) M ((xs (Int.ofNat (5 * j) + 1).toNat).toInt) ((xs (Int.ofNat (5 * j) + 2).toNat).toInt) ((xs (Int.ofNat (5 * j) + 3).toNat).toInt) ((xs (Int.ofNat (5 * j) + 4).toNat).toInt) 25) : ∃ M', lawC D L xs Inv j 432 [.inr 95, .inr 2, .inr 62, .inr 92, .inl (Int.ofNat (5 * j)), u5, u6] [] M = some (some (.inl 1), M') := by
  have h1 : 0 ≤ Int.ofNat (5 * j) + 1 ∧ Int.ofNat (5 * j) + 1 < Int.ofNat L := by simp only [Int.ofNat_eq_natCast]; omega
  have h2 : 0 ≤ Int.ofNat (5 * j) + 2 ∧ Int.ofNat (5 * j) + 2 < Int.ofNat L := by simp only [Int.ofNat_eq_natCast]; omega
  obtain ⟨v, y, M1, M2, e1, e2, e3, e4⟩ := h
  unfold lawC
  rw [LT_25]
  simp only [if_pos h1, if_pos h2, e1, e2, pbI_rI]
  exact ⟨_, lawX1_ok e4 _ _⟩
set_option maxHeartbeats 1000000 in
theorem turn_26 {D L : Nat} {xs : Nat → Int32} {Inv : Nat → pM → Prop} {j : Nat} {M : pM} (u5 u6 : pV) (hj : 5 * j + 5 ≤ L) (h : callOK D (Inv (j + 1)) M ((xs (Int.ofNat (5 * j) + 1).toNat).toInt) ((xs (Int.ofNat (5 * j) + 2).toNat).toInt) ((xs (Int.ofNat (5 * j) + 3).toNat).toInt) ((xs (Int.ofNat (5 * j) + 4).toNat).toInt) 26) : ∃ M', lawC D L xs Inv j 459 [.inr 95, .inr 2, .inr 62, .inr 92, .inl (Int.ofNat (5 * j)), u5, u6] [] M = some (some (.inl 1), M') := by
  obtain ⟨v, y, M1, M2, e1, e2, e3, e4⟩ := h
  unfold lawC
  rw [LT_26]
  simp only [e1, e2, pbI_rI]
  exact ⟨_, lawX1_ok e4 _ _⟩
set_option maxHeartbeats 1000000 in
theorem turn_27 {D L : Nat} {xs : Nat → Int32} {Inv : Nat → pM → Prop} {j : Nat} {M : pM} (u5 u6 : pV) (hj : 5 * j + 5 ≤ L) (h : callOK D (Inv (j + 1)) M ((xs (Int.ofNat (5 * j) + 1).toNat).toInt) ((xs (Int.ofNat (5 * j) + 2).toNat).toInt) ((xs (Int.ofNat (5 * j) + 3).toNat).toInt) ((xs (Int.ofNat (5 * j) + 4).toNat).toInt) 27) : ∃ M', lawC D L xs Inv j 466 [.inr 95, .inr 2, .inr 62, .inr 92, .inl (Int.ofNat (5 * j)), u5, u6] [] M = some (some (.inl 1), M') := by
  have h1 : 0 ≤ Int.ofNat (5 * j) + 1 ∧ Int.ofNat (5 * j) + 1 < Int.ofNat L := by simp only [Int.ofNat_eq_natCast]; omega
  have h2 : 0 ≤ Int.ofNat (5 * j) + 2 ∧ Int.ofNat (5 * j) + 2 < Int.ofNat L := by simp only [Int.ofNat_eq_natCast]; omega
  obtain ⟨v, y, M1, M2, e1, e2, e3, e4⟩ := h
  unfold lawC
  rw [LT_27]
  simp only [if_pos h1, if_pos h2, e1, e2, pbI_rI]
  exact ⟨_, lawX1_ok e4 _ _⟩
set_option maxHeartbeats 1000000 in
theorem turn_28 {D L : Nat} {xs : Nat → Int32} {Inv : Nat → pM → Prop} {j : Nat} {M : pM} (u5 u6 : pV) (hj : 5 * j + 5 ≤ L) (h : callOK D (Inv (j + 1)) M ((xs (Int.ofNat (5 * j) + 1).toNat).toInt) ((xs (Int.ofNat (5 * j) + 2).toNat).toInt) ((xs (Int.ofNat (5 * j) + 3).toNat).toInt) ((xs (Int.ofNat (5 * j) + 4).toNat).toInt) 28) : ∃ M', lawC D L xs Inv j 493 [.inr 95, .inr 2, .inr 62, .inr 92, .inl (Int.ofNat (5 * j)), u5, u6] [] M = some (some (.inl 1), M') := by
  have h1 : 0 ≤ Int.ofNat (5 * j) + 1 ∧ Int.ofNat (5 * j) + 1 < Int.ofNat L := by simp only [Int.ofNat_eq_natCast]; omega
  obtain ⟨v, y, M1, M2, e1, e2, e3, e4⟩ := h
  unfold lawC
  rw [LT_28]
  simp only [if_pos h1, e1, e2, pbI_rI]
  exact ⟨_, lawX1_ok e4 _ _⟩
set_option maxHeartbeats 1000000 in
theorem turn_29 {D L : Nat} {xs : Nat → Int32} {Inv : Nat → pM → Prop} {j : Nat} {M : pM} (u5 u6 : pV) (hj : 5 * j + 5 ≤ L) (h : callOK D (Inv (j + 1)) M ((xs (Int.ofNat (5 * j) + 1).toNat).toInt) ((xs (Int.ofNat (5 * j) + 2).toNat).toInt) ((xs (Int.ofNat (5 * j) + 3).toNat).toInt) ((xs (Int.ofNat (5 * j) + 4).toNat).toInt) 29) : ∃ M', lawC D L xs Inv j 510 [.inr 95, .inr 2, .inr 62, .inr 92, .inl (Int.ofNat (5 * j)), u5, u6] [] M = some (some (.inl 1), M') := by
  have h1 : 0 ≤ Int.ofNat (5 * j) + 1 ∧ Int.ofNat (5 * j) + 1 < Int.ofNat L := by simp only [Int.ofNat_eq_natCast]; omega
  have h2 : 0 ≤ Int.ofNat (5 * j) + 2 ∧ Int.ofNat (5 * j) + 2 < Int.ofNat L := by simp only [Int.ofNat_eq_natCast]; omega
  obtain ⟨v, y, M1, M2, e1, e2, e3, e4⟩ := h
  unfold lawC
  rw [LT_29]
  simp only [if_pos h1, if_pos h2, e1, e2, pbI_rI]
  exact ⟨_, lawX1_ok e4 _ _⟩
set_option maxHeartbeats 1000000 in
theorem turn_30 {D L : Nat} {xs : Nat → Int32} {Inv : Nat → pM → Prop} {j : Nat} {M : pM} (u5 u6 : pV) (hj : 5 * j + 5 ≤ L) (h : callOK D (Inv (j + 1)) M ((xs (Int.ofNat (5 * j) + 1).toNat).toInt) ((xs (Int.ofNat (5 * j) + 2).toNat).toInt) ((xs (Int.ofNat (5 * j) + 3).toNat).toInt) ((xs (Int.ofNat (5 * j) + 4).toNat).toInt) 30) : ∃ M', lawC D L xs Inv j 537 [.inr 95, .inr 2, .inr 62, .inr 92, .inl (Int.ofNat (5 * j)), u5, u6] [] M = some (some (.inl 1), M') := by
  have h1 : 0 ≤ Int.ofNat (5 * j) + 1 ∧ Int.ofNat (5 * j) + 1 < Int.ofNat L := by simp only [Int.ofNat_eq_natCast]; omega
  obtain ⟨v, y, M1, M2, e1, e2, e3, e4⟩ := h
  unfold lawC
  rw [LT_30]
  simp only [if_pos h1, e1, e2, pbI_rI]
  exact ⟨_, lawX1_ok e4 _ _⟩
set_option maxHeartbeats 1000000 in
theorem turn_31 {D L : Nat} {xs : Nat → Int32} {Inv : Nat → pM → Prop} {j : Nat} {M : pM} (u5 u6 : pV) (hj : 5 * j + 5 ≤ L) (h : callOK D (Inv (j + 1)) M ((xs (Int.ofNat (5 * j) + 1).toNat).toInt) ((xs (Int.ofNat (5 * j) + 2).toNat).toInt) ((xs (Int.ofNat (5 * j) + 3).toNat).toInt) ((xs (Int.ofNat (5 * j) + 4).toNat).toInt) 31) : ∃ M', lawC D L xs Inv j 554 [.inr 95, .inr 2, .inr 62, .inr 92, .inl (Int.ofNat (5 * j)), u5, u6] [] M = some (some (.inl 1), M') := by
  have h1 : 0 ≤ Int.ofNat (5 * j) + 1 ∧ Int.ofNat (5 * j) + 1 < Int.ofNat L := by simp only [Int.ofNat_eq_natCast]; omega
  have h2 : 0 ≤ Int.ofNat (5 * j) + 2 ∧ Int.ofNat (5 * j) + 2 < Int.ofNat L := by simp only [Int.ofNat_eq_natCast]; omega
  obtain ⟨v, y, M1, M2, e1, e2, e3, e4⟩ := h
  unfold lawC
  rw [LT_31]
  simp only [if_pos h1, if_pos h2, e1, e2, pbI_rI]
  exact ⟨_, lawX1_ok e4 _ _⟩
set_option maxHeartbeats 1000000 in
theorem turn_32 {D L : Nat} {xs : Nat → Int32} {Inv : Nat → pM → Prop} {j : Nat} {M : pM} (u5 u6 : pV) (hj : 5 * j + 5 ≤ L) (h : callOK D (Inv (j + 1)) M ((xs (Int.ofNat (5 * j) + 1).toNat).toInt) ((xs (Int.ofNat (5 * j) + 2).toNat).toInt) ((xs (Int.ofNat (5 * j) + 3).toNat).toInt) ((xs (Int.ofNat (5 * j) + 4).toNat).toInt) 32) : ∃ M', lawC D L xs Inv j 581 [.inr 95, .inr 2, .inr 62, .inr 92, .inl (Int.ofNat (5 * j)), u5, u6] [] M = some (some (.inl 1), M') := by
  obtain ⟨v, y, M1, M2, e1, e2, e3, e4⟩ := h
  unfold lawC
  rw [LT_32]
  simp only [e1, e2, pbI_rI]
  exact ⟨_, lawX1_ok e4 _ _⟩
set_option maxHeartbeats 1000000 in
theorem turn_33 {D L : Nat} {xs : Nat → Int32} {Inv : Nat → pM → Prop} {j : Nat} {M : pM} (u5 u6 : pV) (hj : 5 * j + 5 ≤ L) (h : callOK D (Inv (j + 1)) M ((xs (Int.ofNat (5 * j) + 1).toNat).toInt) ((xs (Int.ofNat (5 * j) + 2).toNat).toInt) ((xs (Int.ofNat (5 * j) + 3).toNat).toInt) ((xs (Int.ofNat (5 * j) + 4).toNat).toInt) 33) : ∃ M', lawC D L xs Inv j 588 [.inr 95, .inr 2, .inr 62, .inr 92, .inl (Int.ofNat (5 * j)), u5, u6] [] M = some (some (.inl 1), M') := by
  obtain ⟨v, y, M1, M2, e1, e2, e3, e4⟩ := h
  unfold lawC
  rw [LT_33]
  simp only [e1, e2, pbI_rI]
  exact ⟨_, lawX1_ok e4 _ _⟩
set_option maxHeartbeats 1000000 in
theorem turn_34 {D L : Nat} {xs : Nat → Int32} {Inv : Nat → pM → Prop} {j : Nat} {M : pM} (u5 u6 : pV) (hj : 5 * j + 5 ≤ L) (h : callOK D (Inv (j + 1)) M ((xs (Int.ofNat (5 * j) + 1).toNat).toInt) ((xs (Int.ofNat (5 * j) + 2).toNat).toInt) ((xs (Int.ofNat (5 * j) + 3).toNat).toInt) ((xs (Int.ofNat (5 * j) + 4).toNat).toInt) 34) : ∃ M', lawC D L xs Inv j 595 [.inr 95, .inr 2, .inr 62, .inr 92, .inl (Int.ofNat (5 * j)), u5, u6] [] M = some (some (.inl 1), M') := by
  have h1 : 0 ≤ Int.ofNat (5 * j) + 1 ∧ Int.ofNat (5 * j) + 1 < Int.ofNat L := by simp only [Int.ofNat_eq_natCast]; omega
  have h2 : 0 ≤ Int.ofNat (5 * j) + 2 ∧ Int.ofNat (5 * j) + 2 < Int.ofNat L := by simp only [Int.ofNat_eq_natCast]; omega
  obtain ⟨v, y, M1, M2, e1, e2, e3, e4⟩ := h
  unfold lawC
  rw [LT_34]
  simp only [if_pos h1, if_pos h2, e1, e2, pbI_rI]
  exact ⟨_, lawX1_ok e4 _ _⟩
set_option maxHeartbeats 1000000 in
theorem turn_35 {D L : Nat} {xs : Nat → Int32} {Inv : Nat → pM → Prop} {j : Nat} {M : pM} (u5 u6 : pV) (hj : 5 * j + 5 ≤ L) (h : callOK D (Inv (j + 1)) M ((xs (Int.ofNat (5 * j) + 1).toNat).toInt) ((xs (Int.ofNat (5 * j) + 2).toNat).toInt) ((xs (Int.ofNat (5 * j) + 3).toNat).toInt) ((xs (Int.ofNat (5 * j) + 4).toNat).toInt) 35) : ∃ M', lawC D L xs Inv j 622 [.inr 95, .inr 2, .inr 62, .inr 92, .inl (Int.ofNat (5 * j)), u5, u6] [] M = some (some (.inl 1), M') := by
  have h1 : 0 ≤ Int.ofNat (5 * j) + 1 ∧ Int.ofNat (5 * j) + 1 < Int.ofNat L := by simp only [Int.ofNat_eq_natCast]; omega
  have h2 : 0 ≤ Int.ofNat (5 * j) + 2 ∧ Int.ofNat (5 * j) + 2 < Int.ofNat L := by simp only [Int.ofNat_eq_natCast]; omega
  obtain ⟨v, y, M1, M2, e1, e2, e3, e4⟩ := h
  unfold lawC
  rw [LT_35]
  simp only [if_pos h1, if_pos h2, e1, e2, pbI_rI]
  exact ⟨_, lawX1_ok e4 _ _⟩
set_option maxHeartbeats 1000000 in
theorem turn_36 {D L : Nat} {xs : Nat → Int32} {Inv : Nat → pM → Prop} {j : Nat} {M : pM} (u5 u6 : pV) (hj : 5 * j + 5 ≤ L) (h : callOK D (Inv (j + 1)) M ((xs (Int.ofNat (5 * j) + 1).toNat).toInt) ((xs (Int.ofNat (5 * j) + 2).toNat).toInt) ((xs (Int.ofNat (5 * j) + 3).toNat).toInt) ((xs (Int.ofNat (5 * j) + 4).toNat).toInt) 36) : ∃ M', lawC D L xs Inv j 649 [.inr 95, .inr 2, .inr 62, .inr 92, .inl (Int.ofNat (5 * j)), u5, u6] [] M = some (some (.inl 1), M') := by
  obtain ⟨v, y, M1, M2, e1, e2, e3, e4⟩ := h
  unfold lawC
  rw [LT_36]
  simp only [e1, e2, pbI_rI]
  exact ⟨_, lawX1_ok e4 _ _⟩
set_option maxHeartbeats 1000000 in
theorem turn_37 {D L : Nat} {xs : Nat → Int32} {Inv : Nat → pM → Prop} {j : Nat} {M : pM} (u5 u6 : pV) (hj : 5 * j + 5 ≤ L) (h : callOK D (Inv (j + 1)) M ((xs (Int.ofNat (5 * j) + 1).toNat).toInt) ((xs (Int.ofNat (5 * j) + 2).toNat).toInt) ((xs (Int.ofNat (5 * j) + 3).toNat).toInt) ((xs (Int.ofNat (5 * j) + 4).toNat).toInt) 37) : ∃ M', lawC D L xs Inv j 656 [.inr 95, .inr 2, .inr 62, .inr 92, .inl (Int.ofNat (5 * j)), u5, u6] [] M = some (some (.inl 1), M') := by
  have h1 : 0 ≤ Int.ofNat (5 * j) + 1 ∧ Int.ofNat (5 * j) + 1 < Int.ofNat L := by simp only [Int.ofNat_eq_natCast]; omega
  obtain ⟨v, y, M1, M2, e1, e2, e3, e4⟩ := h
  unfold lawC
  rw [LT_37]
  simp only [if_pos h1, e1, e2, pbI_rI]
  exact ⟨_, lawX1_ok e4 _ _⟩
set_option maxHeartbeats 1000000 in
theorem turn_38 {D L : Nat} {xs : Nat → Int32} {Inv : Nat → pM → Prop} {j : Nat} {M : pM} (u5 u6 : pV) (hj : 5 * j + 5 ≤ L) (h : callOK D (Inv (j + 1)) M ((xs (Int.ofNat (5 * j) + 1).toNat).toInt) ((xs (Int.ofNat (5 * j) + 2).toNat).toInt) ((xs (Int.ofNat (5 * j) + 3).toNat).toInt) ((xs (Int.ofNat (5 * j) + 4).toNat).toInt) 38) : ∃ M', lawC D L xs Inv j 673 [.inr 95, .inr 2, .inr 62, .inr 92, .inl (Int.ofNat (5 * j)), u5, u6] [] M = some (some (.inl 1), M') := by
  obtain ⟨v, y, M1, M2, e1, e2, e3, e4⟩ := h
  unfold lawC
  rw [LT_38]
  simp only [e1, e2, pbI_rI]
  exact ⟨_, lawX1_ok e4 _ _⟩
set_option maxHeartbeats 1000000 in
theorem turn_39 {D L : Nat} {xs : Nat → Int32} {Inv : Nat → pM → Prop} {j : Nat} {M : pM} (u5 u6 : pV) (hj : 5 * j + 5 ≤ L) (h : callOK D (Inv (j + 1)) M ((xs (Int.ofNat (5 * j) + 1).toNat).toInt) ((xs (Int.ofNat (5 * j) + 2).toNat).toInt) ((xs (Int.ofNat (5 * j) + 3).toNat).toInt) ((xs (Int.ofNat (5 * j) + 4).toNat).toInt) 39) : ∃ M', lawC D L xs Inv j 680 [.inr 95, .inr 2, .inr 62, .inr 92, .inl (Int.ofNat (5 * j)), u5, u6] [] M = some (some (.inl 1), M') := by
  obtain ⟨v, y, M1, M2, e1, e2, e3, e4⟩ := h
  unfold lawC
  rw [LT_39]
  simp only [e1, e2, pbI_rI]
  exact ⟨_, lawX1_ok e4 _ _⟩
set_option maxHeartbeats 1000000 in
theorem turn_40 {D L : Nat} {xs : Nat → Int32} {Inv : Nat → pM → Prop} {j : Nat} {M : pM} (u5 u6 : pV) (hj : 5 * j + 5 ≤ L) (h : callOK D (Inv (j + 1)) M ((xs (Int.ofNat (5 * j) + 1).toNat).toInt) ((xs (Int.ofNat (5 * j) + 2).toNat).toInt) ((xs (Int.ofNat (5 * j) + 3).toNat).toInt) ((xs (Int.ofNat (5 * j) + 4).toNat).toInt) 40) : ∃ M', lawC D L xs Inv j 687 [.inr 95, .inr 2, .inr 62, .inr 92, .inl (Int.ofNat (5 * j)), u5, u6] [] M = some (some (.inl 1), M') := by
  obtain ⟨v, y, M1, M2, e1, e2, e3, e4⟩ := h
  unfold lawC
  rw [LT_40]
  simp only [e1, e2, pbI_rI]
  exact ⟨_, lawX1_ok e4 _ _⟩
set_option maxHeartbeats 1000000 in
theorem turn_41 {D L : Nat} {xs : Nat → Int32} {Inv : Nat → pM → Prop} {j : Nat} {M : pM} (u5 u6 : pV) (hj : 5 * j + 5 ≤ L) (h : callOK D (Inv (j + 1)) M ((xs (Int.ofNat (5 * j) + 1).toNat).toInt) ((xs (Int.ofNat (5 * j) + 2).toNat).toInt) ((xs (Int.ofNat (5 * j) + 3).toNat).toInt) ((xs (Int.ofNat (5 * j) + 4).toNat).toInt) 41) : ∃ M', lawC D L xs Inv j 694 [.inr 95, .inr 2, .inr 62, .inr 92, .inl (Int.ofNat (5 * j)), u5, u6] [] M = some (some (.inl 1), M') := by
  obtain ⟨v, y, M1, M2, e1, e2, e3, e4⟩ := h
  unfold lawC
  rw [LT_41]
  simp only [e1, e2, pbI_rI]
  exact ⟨_, lawX1_ok e4 _ _⟩
set_option maxHeartbeats 1000000 in
theorem turn_42 {D L : Nat} {xs : Nat → Int32} {Inv : Nat → pM → Prop} {j : Nat} {M : pM} (u5 u6 : pV) (hj : 5 * j + 5 ≤ L) (h : callOK D (Inv (j + 1)) M ((xs (Int.ofNat (5 * j) + 1).toNat).toInt) ((xs (Int.ofNat (5 * j) + 2).toNat).toInt) ((xs (Int.ofNat (5 * j) + 3).toNat).toInt) ((xs (Int.ofNat (5 * j) + 4).toNat).toInt) 42) : ∃ M', lawC D L xs Inv j 701 [.inr 95, .inr 2, .inr 62, .inr 92, .inl (Int.ofNat (5 * j)), u5, u6] [] M = some (some (.inl 1), M') := by
  obtain ⟨v, y, M1, M2, e1, e2, e3, e4⟩ := h
  unfold lawC
  rw [LT_42]
  simp only [e1, e2, pbI_rI]
  exact ⟨_, lawX1_ok e4 _ _⟩
set_option maxHeartbeats 1000000 in
theorem turn_43 {D L : Nat} {xs : Nat → Int32} {Inv : Nat → pM → Prop} {j : Nat} {M : pM} (u5 u6 : pV) (hj : 5 * j + 5 ≤ L) (h : callOK D (Inv (j + 1)) M ((xs (Int.ofNat (5 * j) + 1).toNat).toInt) ((xs (Int.ofNat (5 * j) + 2).toNat).toInt) ((xs (Int.ofNat (5 * j) + 3).toNat).toInt) ((xs (Int.ofNat (5 * j) + 4).toNat).toInt) 43) : ∃ M', lawC D L xs Inv j 708 [.inr 95, .inr 2, .inr 62, .inr 92, .inl (Int.ofNat (5 * j)), u5, u6] [] M = some (some (.inl 1), M') := by
  have h1 : 0 ≤ Int.ofNat (5 * j) + 1 ∧ Int.ofNat (5 * j) + 1 < Int.ofNat L := by simp only [Int.ofNat_eq_natCast]; omega
  obtain ⟨v, y, M1, M2, e1, e2, e3, e4⟩ := h
  unfold lawC
  rw [LT_43]
  simp only [if_pos h1, e1, e2, pbI_rI]
  exact ⟨_, lawX1_ok e4 _ _⟩
set_option maxHeartbeats 1000000 in
theorem turn_44 {D L : Nat} {xs : Nat → Int32} {Inv : Nat → pM → Prop} {j : Nat} {M : pM} (u5 u6 : pV) (hj : 5 * j + 5 ≤ L) (h : callOK D (Inv (j + 1)) M ((xs (Int.ofNat (5 * j) + 1).toNat).toInt) ((xs (Int.ofNat (5 * j) + 2).toNat).toInt) ((xs (Int.ofNat (5 * j) + 3).toNat).toInt) ((xs (Int.ofNat (5 * j) + 4).toNat).toInt) 44) : ∃ M', lawC D L xs Inv j 725 [.inr 95, .inr 2, .inr 62, .inr 92, .inl (Int.ofNat (5 * j)), u5, u6] [] M = some (some (.inl 1), M') := by
  have h1 : 0 ≤ Int.ofNat (5 * j) + 1 ∧ Int.ofNat (5 * j) + 1 < Int.ofNat L := by simp only [Int.ofNat_eq_natCast]; omega
  obtain ⟨v, y, M1, M2, e1, e2, e3, e4⟩ := h
  unfold lawC
  rw [LT_44]
  simp only [if_pos h1, e1, e2, pbI_rI]
  exact ⟨_, lawX1_ok e4 _ _⟩
set_option maxHeartbeats 1000000 in
theorem turn_45 {D L : Nat} {xs : Nat → Int32} {Inv : Nat → pM → Prop} {j : Nat} {M : pM} (u5 u6 : pV) (hj : 5 * j + 5 ≤ L) (h : callOK D (Inv (j + 1)) M ((xs (Int.ofNat (5 * j) + 1).toNat).toInt) ((xs (Int.ofNat (5 * j) + 2).toNat).toInt) ((xs (Int.ofNat (5 * j) + 3).toNat).toInt) ((xs (Int.ofNat (5 * j) + 4).toNat).toInt) 45) : ∃ M', lawC D L xs Inv j 742 [.inr 95, .inr 2, .inr 62, .inr 92, .inl (Int.ofNat (5 * j)), u5, u6] [] M = some (some (.inl 1), M') := by
  have h1 : 0 ≤ Int.ofNat (5 * j) + 1 ∧ Int.ofNat (5 * j) + 1 < Int.ofNat L := by simp only [Int.ofNat_eq_natCast]; omega
  obtain ⟨v, y, M1, M2, e1, e2, e3, e4⟩ := h
  unfold lawC
  rw [LT_45]
  simp only [if_pos h1, e1, e2, pbI_rI]
  exact ⟨_, lawX1_ok e4 _ _⟩
set_option maxHeartbeats 1000000 in
theorem turn_46 {D L : Nat} {xs : Nat → Int32} {Inv : Nat → pM → Prop} {j : Nat} {M : pM} (u5 u6 : pV) (hj : 5 * j + 5 ≤ L) (h : callOK D (Inv (j + 1)) M ((xs (Int.ofNat (5 * j) + 1).toNat).toInt) ((xs (Int.ofNat (5 * j) + 2).toNat).toInt) ((xs (Int.ofNat (5 * j) + 3).toNat).toInt) ((xs (Int.ofNat (5 * j) + 4).toNat).toInt) 46) : ∃ M', lawC D L xs Inv j 759 [.inr 95, .inr 2, .inr 62, .inr 92, .inl (Int.ofNat (5 * j)), u5, u6] [] M = some (some (.inl 1), M') := by
  have h1 : 0 ≤ Int.ofNat (5 * j) + 1 ∧ Int.ofNat (5 * j) + 1 < Int.ofNat L := by simp only [Int.ofNat_eq_natCast]; omega
  obtain ⟨v, y, M1, M2, e1, e2, e6⟩ := h
  unfold lawC
  rw [LT_46]
  simp only [if_pos h1, Nat.beq]
  show ∃ M', (pbI (yL D 46 7 [.inr 2, .inl ((xs (Int.ofNat (5 * j) + 1).toNat).toInt)] M) fun v M1 => lawR D L xs Inv j 767 [.inr 95, .inr 2, .inr 62, .inr 92, .inl (Int.ofNat (5 * j)), u5, u6] [.inl v] M1) = some (some (.inl 1), M')
  rw [e1]
  simp only [pbI_rI]
  unfold lawR
  rw [LT_after_766]
  simp only [if_pos h1, Nat.beq]
  rw [e2]
  simp only [pbI_rI]
  exact ⟨_, lawX_ok e6 _ _⟩
theorem turn_def {D L : Nat} {xs : Nat → Int32} {Inv : Nat → pM → Prop} {j : Nat} {M : pM} (u5 u6 : pV) (hj : 5 * j + 5 ≤ L) (h : Inv (j + 1) M) : ∃ M', lawC D L xs Inv j 777 [.inr 95, .inr 2, .inr 62, .inr 92, .inl (Int.ofNat (5 * j)), u5, u6] [] M = some (some (.inl 1), M') := by
  unfold lawC
  rw [LT_99]
  exact ⟨_, lawX1_ok h _ _⟩
set_option maxRecDepth 100000 in
set_option maxHeartbeats 4000000 in
/-- a turn, whatever the call -/
theorem lawStep_of {D L : Nat} {xs : Nat → Int32} {Inv : Nat → pM → Prop} {j : Nat} {M : pM} (hLN : L ≤ 2560) (hj : 5 * j + 5 ≤ L) (h : ∀ a1 a2 a3 a4 : Int32, ∀ c, callOK D (Inv (j + 1)) M a1.toInt a2.toInt a3.toInt a4.toInt c) (h0 : Inv (j + 1) M) : lawStep D L xs Inv j M := by
  intro u5 u6
  unfold lawT
  rw [LT_top, if_neg (by rw [lt32_iff] <;> (simp only [Int.ofNat_eq_natCast]; omega)), if_pos (by simp only [Int.ofNat_eq_natCast]; omega)]
  have hh := h (xs (Int.ofNat (5 * j) + 1).toNat) (xs (Int.ofNat (5 * j) + 2).toNat) (xs (Int.ofNat (5 * j) + 3).toNat) (xs (Int.ofNat (5 * j) + 4).toNat)
  by_cases q0 : eq32 (jand ((xs (Int.ofNat (5 * j)).toNat).toInt) 63) 0
  · rw [if_pos q0]; exact turn_0 u5 u6 hj (hh 0)
  rw [if_neg q0]
  by_cases q1 : eq32 (jand ((xs (Int.ofNat (5 * j)).toNat).toInt) 63) 1
  · rw [if_pos q1]; exact turn_1 u5 u6 hj (hh 1)
  rw [if_neg q1]
  by_cases q2 : eq32 (jand ((xs (Int.ofNat (5 * j)).toNat).toInt) 63) 2
  · rw [if_pos q2]; exact turn_2 u5 u6 hj (hh 2)
  rw [if_neg q2]
  by_cases q3 : eq32 (jand ((xs (Int.ofNat (5 * j)).toNat).toInt) 63) 3
  · rw [if_pos q3]; exact turn_3 u5 u6 hj (hh 3)
  rw [if_neg q3]
  by_cases q4 : eq32 (jand ((xs (Int.ofNat (5 * j)).toNat).toInt) 63) 4
  · rw [if_pos q4]; exact turn_4 u5 u6 hj (hh 4)
  rw [if_neg q4]
  by_cases q5 : eq32 (jand ((xs (Int.ofNat (5 * j)).toNat).toInt) 63) 5
  · rw [if_pos q5]; exact turn_5 u5 u6 hj (hh 5)
  rw [if_neg q5]
  by_cases q6 : eq32 (jand ((xs (Int.ofNat (5 * j)).toNat).toInt) 63) 6
  · rw [if_pos q6]; exact turn_6 u5 u6 hj (hh 6)
  rw [if_neg q6]
  by_cases q7 : eq32 (jand ((xs (Int.ofNat (5 * j)).toNat).toInt) 63) 7
  · rw [if_pos q7]; exact turn_7 u5 u6 hj (hh 7)
  rw [if_neg q7]
  by_cases q8 : eq32 (jand ((xs (Int.ofNat (5 * j)).toNat).toInt) 63) 8
  · rw [if_pos q8]; exact turn_8 u5 u6 hj (hh 8)
  rw [if_neg q8]
  by_cases q9 : eq32 (jand ((xs (Int.ofNat (5 * j)).toNat).toInt) 63) 9
  · rw [if_pos q9]; exact turn_9 u5 u6 hj (hh 9)
  rw [if_neg q9]
  by_cases q10 : eq32 (jand ((xs (Int.ofNat (5 * j)).toNat).toInt) 63) 10
  · rw [if_pos q10]; exact turn_10 u5 u6 hj (hh 10)
  rw [if_neg q10]
  by_cases q11 : eq32 (jand ((xs (Int.ofNat (5 * j)).toNat).toInt) 63) 11
  · rw [if_pos q11]; exact turn_11 u5 u6 hj (hh 11)
  rw [if_neg q11]
  by_cases q12 : eq32 (jand ((xs (Int.ofNat (5 * j)).toNat).toInt) 63) 12
  · rw [if_pos q12]; exact turn_12 u5 u6 hj (hh 12)
  rw [if_neg q12]
  by_cases q13 : eq32 (jand ((xs (Int.ofNat (5 * j)).toNat).toInt) 63) 13
  · rw [if_pos q13]; exact turn_13 u5 u6 hj (hh 13)
  rw [if_neg q13]
  by_cases q14 : eq32 (jand ((xs (Int.ofNat (5 * j)).toNat).toInt) 63) 14
  · rw [if_pos q14]; exact turn_14 u5 u6 hj (hh 14)
  rw [if_neg q14]
  by_cases q15 : eq32 (jand ((xs (Int.ofNat (5 * j)).toNat).toInt) 63) 15
  · rw [if_pos q15]; exact turn_15 u5 u6 hj (hh 15)
  rw [if_neg q15]
  by_cases q16 : eq32 (jand ((xs (Int.ofNat (5 * j)).toNat).toInt) 63) 16
  · rw [if_pos q16]; exact turn_16 u5 u6 hj (hh 16)
  rw [if_neg q16]
  by_cases q17 : eq32 (jand ((xs (Int.ofNat (5 * j)).toNat).toInt) 63) 17
  · rw [if_pos q17]; exact turn_17 u5 u6 hj (hh 17)
  rw [if_neg q17]
  by_cases q18 : eq32 (jand ((xs (Int.ofNat (5 * j)).toNat).toInt) 63) 18
  · rw [if_pos q18]; exact turn_18 u5 u6 hj (hh 18)
  rw [if_neg q18]
  by_cases q19 : eq32 (jand ((xs (Int.ofNat (5 * j)).toNat).toInt) 63) 19
  · rw [if_pos q19]; exact turn_19 u5 u6 hj (hh 19)
  rw [if_neg q19]
  by_cases q20 : eq32 (jand ((xs (Int.ofNat (5 * j)).toNat).toInt) 63) 20
  · rw [if_pos q20]; exact turn_20 u5 u6 hj (hh 20)
  rw [if_neg q20]
  by_cases q21 : eq32 (jand ((xs (Int.ofNat (5 * j)).toNat).toInt) 63) 21
  · rw [if_pos q21]; exact turn_21 u5 u6 hj (hh 21)
  rw [if_neg q21]
  by_cases q22 : eq32 (jand ((xs (Int.ofNat (5 * j)).toNat).toInt) 63) 22
  · rw [if_pos q22]; exact turn_22 u5 u6 hj (hh 22)
  rw [if_neg q22]
  by_cases q23 : eq32 (jand ((xs (Int.ofNat (5 * j)).toNat).toInt) 63) 23
  · rw [if_pos q23]; exact turn_23 u5 u6 hj (hh 23)
  rw [if_neg q23]
  by_cases q24 : eq32 (jand ((xs (Int.ofNat (5 * j)).toNat).toInt) 63) 24
  · rw [if_pos q24]; exact turn_24 u5 u6 hj (hh 24)
  rw [if_neg q24]
  by_cases q25 : eq32 (jand ((xs (Int.ofNat (5 * j)).toNat).toInt) 63) 25
  · rw [if_pos q25]; exact turn_25 u5 u6 hj (hh 25)
  rw [if_neg q25]
  by_cases q26 : eq32 (jand ((xs (Int.ofNat (5 * j)).toNat).toInt) 63) 26
  · rw [if_pos q26]; exact turn_26 u5 u6 hj (hh 26)
  rw [if_neg q26]
  by_cases q27 : eq32 (jand ((xs (Int.ofNat (5 * j)).toNat).toInt) 63) 27
  · rw [if_pos q27]; exact turn_27 u5 u6 hj (hh 27)
  rw [if_neg q27]
  by_cases q28 : eq32 (jand ((xs (Int.ofNat (5 * j)).toNat).toInt) 63) 28
  · rw [if_pos q28]; exact turn_28 u5 u6 hj (hh 28)
  rw [if_neg q28]
  by_cases q29 : eq32 (jand ((xs (Int.ofNat (5 * j)).toNat).toInt) 63) 29
  · rw [if_pos q29]; exact turn_29 u5 u6 hj (hh 29)
  rw [if_neg q29]
  by_cases q30 : eq32 (jand ((xs (Int.ofNat (5 * j)).toNat).toInt) 63) 30
  · rw [if_pos q30]; exact turn_30 u5 u6 hj (hh 30)
  rw [if_neg q30]
  by_cases q31 : eq32 (jand ((xs (Int.ofNat (5 * j)).toNat).toInt) 63) 31
  · rw [if_pos q31]; exact turn_31 u5 u6 hj (hh 31)
  rw [if_neg q31]
  by_cases q32 : eq32 (jand ((xs (Int.ofNat (5 * j)).toNat).toInt) 63) 32
  · rw [if_pos q32]; exact turn_32 u5 u6 hj (hh 32)
  rw [if_neg q32]
  by_cases q33 : eq32 (jand ((xs (Int.ofNat (5 * j)).toNat).toInt) 63) 33
  · rw [if_pos q33]; exact turn_33 u5 u6 hj (hh 33)
  rw [if_neg q33]
  by_cases q34 : eq32 (jand ((xs (Int.ofNat (5 * j)).toNat).toInt) 63) 34
  · rw [if_pos q34]; exact turn_34 u5 u6 hj (hh 34)
  rw [if_neg q34]
  by_cases q35 : eq32 (jand ((xs (Int.ofNat (5 * j)).toNat).toInt) 63) 35
  · rw [if_pos q35]; exact turn_35 u5 u6 hj (hh 35)
  rw [if_neg q35]
  by_cases q36 : eq32 (jand ((xs (Int.ofNat (5 * j)).toNat).toInt) 63) 36
  · rw [if_pos q36]; exact turn_36 u5 u6 hj (hh 36)
  rw [if_neg q36]
  by_cases q37 : eq32 (jand ((xs (Int.ofNat (5 * j)).toNat).toInt) 63) 37
  · rw [if_pos q37]; exact turn_37 u5 u6 hj (hh 37)
  rw [if_neg q37]
  by_cases q38 : eq32 (jand ((xs (Int.ofNat (5 * j)).toNat).toInt) 63) 38
  · rw [if_pos q38]; exact turn_38 u5 u6 hj (hh 38)
  rw [if_neg q38]
  by_cases q39 : eq32 (jand ((xs (Int.ofNat (5 * j)).toNat).toInt) 63) 39
  · rw [if_pos q39]; exact turn_39 u5 u6 hj (hh 39)
  rw [if_neg q39]
  by_cases q40 : eq32 (jand ((xs (Int.ofNat (5 * j)).toNat).toInt) 63) 40
  · rw [if_pos q40]; exact turn_40 u5 u6 hj (hh 40)
  rw [if_neg q40]
  by_cases q41 : eq32 (jand ((xs (Int.ofNat (5 * j)).toNat).toInt) 63) 41
  · rw [if_pos q41]; exact turn_41 u5 u6 hj (hh 41)
  rw [if_neg q41]
  by_cases q42 : eq32 (jand ((xs (Int.ofNat (5 * j)).toNat).toInt) 63) 42
  · rw [if_pos q42]; exact turn_42 u5 u6 hj (hh 42)
  rw [if_neg q42]
  by_cases q43 : eq32 (jand ((xs (Int.ofNat (5 * j)).toNat).toInt) 63) 43
  · rw [if_pos q43]; exact turn_43 u5 u6 hj (hh 43)
  rw [if_neg q43]
  by_cases q44 : eq32 (jand ((xs (Int.ofNat (5 * j)).toNat).toInt) 63) 44
  · rw [if_pos q44]; exact turn_44 u5 u6 hj (hh 44)
  rw [if_neg q44]
  by_cases q45 : eq32 (jand ((xs (Int.ofNat (5 * j)).toNat).toInt) 63) 45
  · rw [if_pos q45]; exact turn_45 u5 u6 hj (hh 45)
  rw [if_neg q45]
  by_cases q46 : eq32 (jand ((xs (Int.ofNat (5 * j)).toNat).toInt) 63) 46
  · rw [if_pos q46]; exact turn_46 u5 u6 hj (hh 46)
  rw [if_neg q46]
  exact turn_def (D := D) (xs := xs) u5 u6 hj h0
