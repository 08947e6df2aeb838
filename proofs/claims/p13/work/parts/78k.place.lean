/-! what is asked of an arrangement -/
/-- things in a room -/
def inR (h : pM) (p : Nat → Int) (r : Int) : Nat := bitsOf (fun t => decide (p t = r)) (hT h)
/-- bulk of some things -/
def blk (h : pM) (bits : Nat) : Int := sumTo (fun t => if bits.testBit t then h 3 t else 0) (hT h)
/-- rooms that are too full -/
def ovf (h : pM) (p : Nat → Int) : Nat := bitsOf (fun r => decide (h 1 r < blk h (inR h p r))) (hR h)
def oneR (h : pM) (p : Nat → Int) (bits : Nat) : Bool := allTo (fun r => decide (inR h p (r : Int) &&& bits = 0) || decide (inR h p (r : Int) &&& bits = bits)) (hR h)
/-- sets that are parted -/
def ptd (h : pM) (p : Nat → Int) : Nat := bitsOf (fun s => !oneR h p (me h s)) (hS h)
def lwf (h : pM) (p : Nat → Int) : Prop := ptd h p = 0 ∧ ovf h p = 0
def csp (h : pM) (p : Nat → Int) (t : Nat) : Int := cst h t (h 6 t).toNat (p t).toNat
/-- what is carried to an arrangement, -1: some thing does not get there -/
def cto (h : pM) (p : Nat → Int) : Int := if allTo (fun t => decide (0 ≤ csp h p t)) (hT h) then sumTo (csp h p) (hT h) else -1
theorem inR_lt (h : pM) (p : Nat → Int) (r : Int) : inR h p r < 2 ^ hT h := bitsOf_lt _ _
theorem p_T {h : pM} (W : WF h) : 2 ^ hT h ≤ 1024 := pow_le_of W.2.1
theorem p_R {h : pM} (W : WF h) : 2 ^ hR h ≤ 64 := pow_le_of W.1
theorem p_S {h : pM} (W : WF h) : 2 ^ hS h ≤ 256 := pow_le_of W.2.2.1
theorem blk_range {h : pM} (W : WF h) (bits : Nat) : 0 ≤ blk h bits ∧ blk h bits ≤ 990 := by
  have w2 := W.2.1
  have h1 := sumTo_range (f := fun t => if bits.testBit t then h 3 t else 0) (lo := 0) (hi := 99) (n := hT h) (fun t ht => by
    have := (W.2.2.2.2.2.2.2.1 t ht).1
    split <;> omega)
  unfold blk
  omega
theorem or_zero {a b : Nat} : a ||| b = 0 ↔ a = 0 ∧ b = 0 := by
  constructor
  · intro e
    exact ⟨Nat.le_zero.mp (e ▸ Nat.left_le_or), Nat.le_zero.mp (e ▸ Nat.right_le_or)⟩
  · rintro ⟨rfl, rfl⟩; rfl
section BLK
variable {d : Nat} {M h : pM}
theorem c_bulkOf (hd : 2 ≤ d) (W : WF h) (X : XH M h) {bits : Nat} (hb : bits < 2147483648) : xF d 102 [.inr 9, .inl (bits : Int)] M = rI (blk h bits) M := by
  obtain ⟨D, rfl, hD⟩ := dsucc hd
  have w2 := W.2.1
  rw [T_House_bulkOf]
  have key := sum_loop (fun s k => xE D 102 4 [.inr 9, .inl (bits : Int), .inl s, .inl k] [] M) (hT h) (fun t => if bits.testBit t then h 3 t else 0) (fun k s hk => by
    rw [L_House_bulkOf_4, X.2.1, if_neg (by rw [le32_iff] <;> omega), c_has hD hb (by omega), pbI_rI, ite01]
    cases bits.testBit k with
    | false => rfl
    | true =>
      simp only [if_true]
      rw [if_pos (by omega), Int.toNat_natCast, (X.2.2.2.2.2.1 k hk).1])
  rw [key, L_House_bulkOf_4, X.2.1, if_pos (by rw [le32_iff] <;> omega)]
  rfl
end BLK
section PL13
variable {d : Nat} {M h : pM} {p : Nat → Int}
theorem c_thingsIn_13 (hd : 2 ≤ d) (W : WF h) (X : XH M h) (P : PL M h 13 p) {r : Int} (h1 : -2147483648 ≤ r) (h2 : r < 2147483648) : xF d 86 [.inr 9, .inl r, .inr 15] M = rI (inR h p r : Nat) M := by
  obtain ⟨D, rfl, hD⟩ := dsucc hd
  have w1 := W.1
  have w2 := W.2.1
  rw [T_House_thingsIn_13]
  have key := bits_loop (fun b k => xE D 86 4 [.inr 9, .inl r, .inr 15, .inl b, .inl k] [] M) (hT h) (fun t => decide (p t = r)) (fun k b hk hb => by
    have hp := P k hk
    rw [L_House_thingsIn_13_4, X.2.1, if_neg (by rw [le32_iff] <;> omega), c_numberAt_13n hD (by omega), pbI_rI, hp.1]
    simp (disch := omega) only [eq32_iff]
    by_cases e : p k = r
    · rw [if_neg (fun z => z e), if_pos (decide_eq_true e), jor_shl hb (by omega)]
    · rw [if_pos e, if_neg (by simp [e])])
  rw [key, L_House_thingsIn_13_4, X.2.1, if_pos (by rw [le32_iff] <;> omega)]
  rfl
theorem c_load_13 (hd : 3 ≤ d) (W : WF h) (X : XH M h) (P : PL M h 13 p) {r : Int} (h1 : -2147483648 ≤ r) (h2 : r < 2147483648) : xF d 87 [.inr 9, .inl r, .inr 15] M = rI (blk h (inR h p r)) M := by
  obtain ⟨D, rfl, hD⟩ := dsucc hd
  have := inR_lt h p r
  have := p_T W
  rw [T_House_load_13, c_thingsIn_13 hD W X P h1 h2, pbI_rI, c_bulkOf hD W X (by omega), pbI_rI]
theorem c_overfull_13 (hd : 4 ≤ d) (W : WF h) (X : XH M h) (P : PL M h 13 p) : xF d 88 [.inr 9, .inr 15] M = rI (ovf h p : Nat) M := by
  obtain ⟨D, rfl, hD⟩ := dsucc hd
  have w1 := W.1
  rw [T_House_overfull_13]
  have key := bits_loop (fun b k => xE D 88 4 [.inr 9, .inr 15, .inl b, .inl k] [] M) (hR h) (fun r => decide (h 1 r < blk h (inR h p r))) (fun k b hk hb => by
    have hx := X.2.2.2.1 k hk
    have hv := W.2.2.2.1 k hk
    have hb2 := blk_range W (inR h p (k : Int))
    rw [L_House_overfull_13_4, X.1, if_neg (by rw [le32_iff] <;> omega), c_load_13 hD W X P (by omega) (by omega), pbI_rI, if_pos (by omega), Int.toNat_natCast, hx]
    simp (disch := omega) only [le32_iff]
    by_cases e : blk h (inR h p (k : Int)) ≤ h 1 k
    · rw [if_pos e, if_neg (by simp; omega)]
    · rw [if_neg e, if_pos (by simp; omega), jor_shl hb (by omega)])
  rw [key, L_House_overfull_13_4, X.1, if_pos (by rw [le32_iff] <;> omega)]
  rfl
theorem c_oneRoom_13 (hd : 3 ≤ d) (W : WF h) (X : XH M h) (P : PL M h 13 p) {bits : Nat} (hb : bits < 2 ^ hT h) : xF d 90 [.inr 9, .inl (bits : Int), .inr 15] M = rI (if oneR h p bits then 1 else 0) M := by
  obtain ⟨D, rfl, hD⟩ := dsucc hd
  have w1 := W.1
  have hp := p_T W
  rw [T_House_areInOneRoom_13]
  have key : ∀ m k : Nat, k + m = hR h → allTo (fun r => decide (inR h p (r : Int) &&& bits = 0) || decide (inR h p (r : Int) &&& bits = bits)) k = true → ∀ y, xE D 90 2 [.inr 9, .inl (bits : Int), .inr 15, .inl (k : Int), y] [] M = rI (if oneR h p bits then 1 else 0) M := by
    intro m
    induction m with
    | zero =>
      intro k hk ha y
      rw [L_House_areInOneRoom_13_2, X.1, if_pos (by rw [le32_iff] <;> omega)]
      unfold oneR
      rw [show hR h = k by omega, if_pos ha]
    | succ m ih =>
      intro k hk ha y
      have hl := inR_lt h p (k : Int)
      rw [L_House_areInOneRoom_13_2, X.1, if_neg (by rw [le32_iff] <;> omega), c_thingsIn_13 hD W X P (by omega) (by omega), pbI_rI, jand_nat (by omega) (by omega)]
      have hle : inR h p (k : Int) &&& bits ≤ inR h p (k : Int) := Nat.and_le_left
      rw [show (0 : Int) = ((0 : Nat) : Int) from rfl]
      simp (disch := omega) only [eq32_iff, Int.natCast_inj]
      by_cases e1 : inR h p (k : Int) &&& bits = 0
      · rw [if_pos e1]
        exact ih (k + 1) (by omega) (by unfold allTo; rw [ha, e1]; rfl) _
      · rw [if_neg e1]
        by_cases e2 : inR h p (k : Int) &&& bits = bits
        · rw [if_pos e2]
          exact ih (k + 1) (by omega) (by unfold allTo; rw [ha, decide_eq_true e2]; simp) _
        · rw [if_neg e2]
          have : oneR h p bits = false := by
            cases hq : oneR h p bits with
            | false => rfl
            | true =>
              have := allTo_iff.mp hq k (by omega)
              simp [e1, e2] at this
          rw [this]; rfl
  exact key (hR h) 0 (by omega) rfl _
theorem c_parted_13 (hd : 4 ≤ d) (W : WF h) (X : XH M h) (P : PL M h 13 p) : xF d 89 [.inr 9, .inr 15] M = rI (ptd h p : Nat) M := by
  obtain ⟨D, rfl, hD⟩ := dsucc hd
  have w3 := W.2.2.1
  rw [T_House_parted_13]
  have key := bits_loop (fun b k => xE D 89 4 [.inr 9, .inr 15, .inl b, .inl k] [] M) (hS h) (fun s => !oneR h p (me h s)) (fun k b hk hb => by
    rw [L_House_parted_13_4, X.2.2.1, if_neg (by rw [le32_iff] <;> omega), if_pos (by omega), Int.toNat_natCast, X.2.2.2.2.2.2 k hk, c_oneRoom_13 hD W X P (W.2.2.2.2.2.2.2.2 k hk), pbI_rI, ite01n]
    cases oneR h p (me h k) with
    | true => rfl
    | false =>
      simp only [Bool.not_false, if_true]
      rw [jor_shl hb (by omega)]; rfl)
  rw [key, L_House_parted_13_4, X.2.2.1, if_pos (by rw [le32_iff] <;> omega)]
  rfl
theorem c_lawful_13 (hd : 5 ≤ d) (W : WF h) (X : XH M h) (P : PL M h 13 p) [Decidable (lwf h p)] : xF d 91 [.inr 9, .inr 15] M = rI (if lwf h p then 1 else 0) M := by
  obtain ⟨D, rfl, hD⟩ := dsucc hd
  have q1 : ptd h p < 2 ^ hS h := bitsOf_lt _ _
  have q2 : ovf h p < 2 ^ hR h := bitsOf_lt _ _
  have q3 := p_S W
  have q4 := p_R W
  have q5 : ptd h p ||| ovf h p < 2 ^ 8 := Nat.or_lt_two_pow (by omega) (by omega)
  rw [T_House_lawful_13, c_parted_13 hD W X P, pbI_rI, c_overfull_13 hD W X P, pbI_rI, jor_nat (by omega) (by omega)]
  simp (disch := omega) only [eq32_iff]
  by_cases e : ptd h p ||| ovf h p = 0
  · have hl : lwf h p := or_zero.mp e
    rw [e, if_neg (fun z => z rfl), if_pos hl]
  · have hl : ¬ lwf h p := fun z => e (or_zero.mpr z)
    rw [if_pos (by omega), if_neg hl]
end PL13
section PL51
variable {d : Nat} {M h : pM} {p : Nat → Int}
theorem c_thingsIn_51 (hd : 2 ≤ d) (W : WF h) (X : XH M h) (P : PL M h 51 p) {r : Int} (h1 : -2147483648 ≤ r) (h2 : r < 2147483648) : xF d 86 [.inr 9, .inl r, .inr 53] M = rI (inR h p r : Nat) M := by
  obtain ⟨D, rfl, hD⟩ := dsucc hd
  have w1 := W.1
  have w2 := W.2.1
  rw [T_House_thingsIn_51]
  have key := bits_loop (fun b k => xE D 86 4 [.inr 9, .inl r, .inr 53, .inl b, .inl k] [] M) (hT h) (fun t => decide (p t = r)) (fun k b hk hb => by
    have hp := P k hk
    rw [L_House_thingsIn_51_4, X.2.1, if_neg (by rw [le32_iff] <;> omega), c_numberAt_51n hD (by omega), pbI_rI, hp.1]
    simp (disch := omega) only [eq32_iff]
    by_cases e : p k = r
    · rw [if_neg (fun z => z e), if_pos (decide_eq_true e), jor_shl hb (by omega)]
    · rw [if_pos e, if_neg (by simp [e])])
  rw [key, L_House_thingsIn_51_4, X.2.1, if_pos (by rw [le32_iff] <;> omega)]
  rfl
theorem c_load_51 (hd : 3 ≤ d) (W : WF h) (X : XH M h) (P : PL M h 51 p) {r : Int} (h1 : -2147483648 ≤ r) (h2 : r < 2147483648) : xF d 87 [.inr 9, .inl r, .inr 53] M = rI (blk h (inR h p r)) M := by
  obtain ⟨D, rfl, hD⟩ := dsucc hd
  have := inR_lt h p r
  have := p_T W
  rw [T_House_load_51, c_thingsIn_51 hD W X P h1 h2, pbI_rI, c_bulkOf hD W X (by omega), pbI_rI]
theorem c_overfull_51 (hd : 4 ≤ d) (W : WF h) (X : XH M h) (P : PL M h 51 p) : xF d 88 [.inr 9, .inr 53] M = rI (ovf h p : Nat) M := by
  obtain ⟨D, rfl, hD⟩ := dsucc hd
  have w1 := W.1
  rw [T_House_overfull_51]
  have key := bits_loop (fun b k => xE D 88 4 [.inr 9, .inr 53, .inl b, .inl k] [] M) (hR h) (fun r => decide (h 1 r < blk h (inR h p r))) (fun k b hk hb => by
    have hx := X.2.2.2.1 k hk
    have hv := W.2.2.2.1 k hk
    have hb2 := blk_range W (inR h p (k : Int))
    rw [L_House_overfull_51_4, X.1, if_neg (by rw [le32_iff] <;> omega), c_load_51 hD W X P (by omega) (by omega), pbI_rI, if_pos (by omega), Int.toNat_natCast, hx]
    simp (disch := omega) only [le32_iff]
    by_cases e : blk h (inR h p (k : Int)) ≤ h 1 k
    · rw [if_pos e, if_neg (by simp; omega)]
    · rw [if_neg e, if_pos (by simp; omega), jor_shl hb (by omega)])
  rw [key, L_House_overfull_51_4, X.1, if_pos (by rw [le32_iff] <;> omega)]
  rfl
end PL51
section PL58
variable {d : Nat} {M h : pM} {p : Nat → Int}
theorem c_thingsIn_58 (hd : 2 ≤ d) (W : WF h) (X : XH M h) (P : PL M h 58 p) {r : Int} (h1 : -2147483648 ≤ r) (h2 : r < 2147483648) : xF d 86 [.inr 9, .inl r, .inr 60] M = rI (inR h p r : Nat) M := by
  obtain ⟨D, rfl, hD⟩ := dsucc hd
  have w1 := W.1
  have w2 := W.2.1
  rw [T_House_thingsIn_58]
  have key := bits_loop (fun b k => xE D 86 4 [.inr 9, .inl r, .inr 60, .inl b, .inl k] [] M) (hT h) (fun t => decide (p t = r)) (fun k b hk hb => by
    have hp := P k hk
    rw [L_House_thingsIn_58_4, X.2.1, if_neg (by rw [le32_iff] <;> omega), c_numberAt_58n hD (by omega), pbI_rI, hp.1]
    simp (disch := omega) only [eq32_iff]
    by_cases e : p k = r
    · rw [if_neg (fun z => z e), if_pos (decide_eq_true e), jor_shl hb (by omega)]
    · rw [if_pos e, if_neg (by simp [e])])
  rw [key, L_House_thingsIn_58_4, X.2.1, if_pos (by rw [le32_iff] <;> omega)]
  rfl
theorem c_load_58 (hd : 3 ≤ d) (W : WF h) (X : XH M h) (P : PL M h 58 p) {r : Int} (h1 : -2147483648 ≤ r) (h2 : r < 2147483648) : xF d 87 [.inr 9, .inl r, .inr 60] M = rI (blk h (inR h p r)) M := by
  obtain ⟨D, rfl, hD⟩ := dsucc hd
  have := inR_lt h p r
  have := p_T W
  rw [T_House_load_58, c_thingsIn_58 hD W X P h1 h2, pbI_rI, c_bulkOf hD W X (by omega), pbI_rI]
theorem c_overfull_58 (hd : 4 ≤ d) (W : WF h) (X : XH M h) (P : PL M h 58 p) : xF d 88 [.inr 9, .inr 60] M = rI (ovf h p : Nat) M := by
  obtain ⟨D, rfl, hD⟩ := dsucc hd
  have w1 := W.1
  rw [T_House_overfull_58]
  have key := bits_loop (fun b k => xE D 88 4 [.inr 9, .inr 60, .inl b, .inl k] [] M) (hR h) (fun r => decide (h 1 r < blk h (inR h p r))) (fun k b hk hb => by
    have hx := X.2.2.2.1 k hk
    have hv := W.2.2.2.1 k hk
    have hb2 := blk_range W (inR h p (k : Int))
    rw [L_House_overfull_58_4, X.1, if_neg (by rw [le32_iff] <;> omega), c_load_58 hD W X P (by omega) (by omega), pbI_rI, if_pos (by omega), Int.toNat_natCast, hx]
    simp (disch := omega) only [le32_iff]
    by_cases e : blk h (inR h p (k : Int)) ≤ h 1 k
    · rw [if_pos e, if_neg (by simp; omega)]
    · rw [if_neg e, if_pos (by simp; omega), jor_shl hb (by omega)])
  rw [key, L_House_overfull_58_4, X.1, if_pos (by rw [le32_iff] <;> omega)]
  rfl
theorem c_oneRoom_58 (hd : 3 ≤ d) (W : WF h) (X : XH M h) (P : PL M h 58 p) {bits : Nat} (hb : bits < 2 ^ hT h) : xF d 90 [.inr 9, .inl (bits : Int), .inr 60] M = rI (if oneR h p bits then 1 else 0) M := by
  obtain ⟨D, rfl, hD⟩ := dsucc hd
  have w1 := W.1
  have hp := p_T W
  rw [T_House_areInOneRoom_58]
  have key : ∀ m k : Nat, k + m = hR h → allTo (fun r => decide (inR h p (r : Int) &&& bits = 0) || decide (inR h p (r : Int) &&& bits = bits)) k = true → ∀ y, xE D 90 2 [.inr 9, .inl (bits : Int), .inr 60, .inl (k : Int), y] [] M = rI (if oneR h p bits then 1 else 0) M := by
    intro m
    induction m with
    | zero =>
      intro k hk ha y
      rw [L_House_areInOneRoom_58_2, X.1, if_pos (by rw [le32_iff] <;> omega)]
      unfold oneR
      rw [show hR h = k by omega, if_pos ha]
    | succ m ih =>
      intro k hk ha y
      have hl := inR_lt h p (k : Int)
      rw [L_House_areInOneRoom_58_2, X.1, if_neg (by rw [le32_iff] <;> omega), c_thingsIn_58 hD W X P (by omega) (by omega), pbI_rI, jand_nat (by omega) (by omega)]
      have hle : inR h p (k : Int) &&& bits ≤ inR h p (k : Int) := Nat.and_le_left
      rw [show (0 : Int) = ((0 : Nat) : Int) from rfl]
      simp (disch := omega) only [eq32_iff, Int.natCast_inj]
      by_cases e1 : inR h p (k : Int) &&& bits = 0
      · rw [if_pos e1]
        exact ih (k + 1) (by omega) (by unfold allTo; rw [ha, e1]; rfl) _
      · rw [if_neg e1]
        by_cases e2 : inR h p (k : Int) &&& bits = bits
        · rw [if_pos e2]
          exact ih (k + 1) (by omega) (by unfold allTo; rw [ha, decide_eq_true e2]; simp) _
        · rw [if_neg e2]
          have : oneR h p bits = false := by
            cases hq : oneR h p bits with
            | false => rfl
            | true =>
              have := allTo_iff.mp hq k (by omega)
              simp [e1, e2] at this
          rw [this]; rfl
  exact key (hR h) 0 (by omega) rfl _
theorem c_parted_58 (hd : 4 ≤ d) (W : WF h) (X : XH M h) (P : PL M h 58 p) : xF d 89 [.inr 9, .inr 60] M = rI (ptd h p : Nat) M := by
  obtain ⟨D, rfl, hD⟩ := dsucc hd
  have w3 := W.2.2.1
  rw [T_House_parted_58]
  have key := bits_loop (fun b k => xE D 89 4 [.inr 9, .inr 60, .inl b, .inl k] [] M) (hS h) (fun s => !oneR h p (me h s)) (fun k b hk hb => by
    rw [L_House_parted_58_4, X.2.2.1, if_neg (by rw [le32_iff] <;> omega), if_pos (by omega), Int.toNat_natCast, X.2.2.2.2.2.2 k hk, c_oneRoom_58 hD W X P (W.2.2.2.2.2.2.2.2 k hk), pbI_rI, ite01n]
    cases oneR h p (me h k) with
    | true => rfl
    | false =>
      simp only [Bool.not_false, if_true]
      rw [jor_shl hb (by omega)]; rfl)
  rw [key, L_House_parted_58_4, X.2.2.1, if_pos (by rw [le32_iff] <;> omega)]
  rfl
theorem c_lawful_58 (hd : 5 ≤ d) (W : WF h) (X : XH M h) (P : PL M h 58 p) [Decidable (lwf h p)] : xF d 91 [.inr 9, .inr 60] M = rI (if lwf h p then 1 else 0) M := by
  obtain ⟨D, rfl, hD⟩ := dsucc hd
  have q1 : ptd h p < 2 ^ hS h := bitsOf_lt _ _
  have q2 : ovf h p < 2 ^ hR h := bitsOf_lt _ _
  have q3 := p_S W
  have q4 := p_R W
  have q5 : ptd h p ||| ovf h p < 2 ^ 8 := Nat.or_lt_two_pow (by omega) (by omega)
  rw [T_House_lawful_58, c_parted_58 hD W X P, pbI_rI, c_overfull_58 hD W X P, pbI_rI, jor_nat (by omega) (by omega)]
  simp (disch := omega) only [eq32_iff]
  by_cases e : ptd h p ||| ovf h p = 0
  · have hl : lwf h p := or_zero.mp e
    rw [e, if_neg (fun z => z rfl), if_pos hl]
  · have hl : ¬ lwf h p := fun z => e (or_zero.mpr z)
    rw [if_pos (by omega), if_neg hl]
theorem c_carriedTo_58 (hd : 5 ≤ d) (W : WF h) (X : XH M h) (P : PL M h 58 p) : xF d 83 [.inr 9, .inr 60] M = rI (cto h p) M := by
  obtain ⟨D, rfl, hD⟩ := dsucc hd
  have w1 := W.1
  have w2 := W.2.1
  rw [T_House_carriedTo_58]
  have key : ∀ m k : Nat, k + m = hT h → allTo (fun t => decide (0 ≤ csp h p t)) k = true → ∀ y, xE D 83 4 [.inr 9, .inr 60, .inl (sumTo (csp h p) k), .inl (k : Int), y] [] M = rI (cto h p) M := by
    intro m
    induction m with
    | zero =>
      intro k hk ha y
      rw [L_House_carriedTo_58_4, X.2.1, if_pos (by rw [le32_iff] <;> omega)]
      unfold cto
      rw [show hT h = k by omega, if_pos ha]
    | succ m ih =>
      intro k hk ha y
      have hp := P k (by omega)
      have hw := (W.2.2.2.2.2.2.2.1 k (by omega)).2.2.2
      have hx := (X.2.2.2.2.2.1 k (by omega)).2.2.2
      have hc := cst_range W (t := k) (by omega) (h 6 k).toNat (p k).toNat
      rw [L_House_carriedTo_58_4, X.2.1, if_neg (by rw [le32_iff] <;> omega), if_pos (by omega), Int.toNat_natCast, c_numberAt_58n (by omega) (by omega), pbI_rI, hp.1, hx, show h 6 k = (((h 6 k).toNat : Nat) : Int) by omega, show p k = (((p k).toNat : Nat) : Int) by omega, c_cost (by omega) W X (by omega) (by omega) (by omega), pbI_rI]
      try simp only [Int.toNat_natCast]
      simp (disch := omega) only [le32_iff]
      by_cases e : 0 ≤ cst h k (h 6 k).toNat (p k).toNat
      · rw [if_pos e]
        exact ih (k + 1) (by omega) (by unfold allTo; rw [ha]; exact decide_eq_true e) _
      · rw [if_neg e]
        unfold cto
        rw [if_neg (fun z => by
          have := allTo_iff.mp z k (by omega)
          exact e (of_decide_eq_true this))]
  exact key (hT h) 0 (by omega) rfl _
/-- whether the arrangement is the one that is now -/
def isN (h : pM) (p : Nat → Int) : Bool := allTo (fun t => decide (h 6 t = p t)) (hT h)
theorem c_isNow (hd : 2 ≤ d) (W : WF h) (X : XH M h) (P : PL M h 58 p) : xF d 85 [.inr 9, .inr 60] M = rI (if isN h p then 1 else 0) M := by
  obtain ⟨D, rfl, hD⟩ := dsucc hd
  have w1 := W.1
  have w2 := W.2.1
  rw [T_House_isNow]
  have key : ∀ m k : Nat, k + m = hT h → allTo (fun t => decide (h 6 t = p t)) k = true → xE D 85 2 [.inr 9, .inr 60, .inl (k : Int)] [] M = rI (if isN h p then 1 else 0) M := by
    intro m
    induction m with
    | zero =>
      intro k hk ha
      rw [L_House_isNow_2, X.2.1, if_pos (by rw [le32_iff] <;> omega)]
      unfold isN
      rw [show hT h = k by omega, if_pos ha]
    | succ m ih =>
      intro k hk ha
      have hp := P k (by omega)
      have hw := (W.2.2.2.2.2.2.2.1 k (by omega)).2.2.2
      have hx := (X.2.2.2.2.2.1 k (by omega)).2.2.2
      rw [L_House_isNow_2, X.2.1, if_neg (by rw [le32_iff] <;> omega), if_pos (by omega), Int.toNat_natCast, c_numberAt_58n (by omega) (by omega), pbI_rI, hp.1, hx]
      simp (disch := omega) only [eq32_iff]
      by_cases e : h 6 k = p k
      · rw [if_pos e]
        exact ih (k + 1) (by omega) (by unfold allTo; rw [ha]; exact decide_eq_true e)
      · rw [if_neg e]
        have : isN h p = false := by
          cases hq : isN h p with
          | false => rfl
          | true => exact absurd (of_decide_eq_true (allTo_iff.mp hq k (by omega))) e
        rw [this]; rfl
  exact key (hT h) 0 (by omega) rfl
end PL58
section PL59
variable {d : Nat} {M h : pM} {p : Nat → Int}
theorem c_thingsIn_59 (hd : 2 ≤ d) (W : WF h) (X : XH M h) (P : PL M h 59 p) {r : Int} (h1 : -2147483648 ≤ r) (h2 : r < 2147483648) : xF d 86 [.inr 9, .inl r, .inr 61] M = rI (inR h p r : Nat) M := by
  obtain ⟨D, rfl, hD⟩ := dsucc hd
  have w1 := W.1
  have w2 := W.2.1
  rw [T_House_thingsIn_59]
  have key := bits_loop (fun b k => xE D 86 4 [.inr 9, .inl r, .inr 61, .inl b, .inl k] [] M) (hT h) (fun t => decide (p t = r)) (fun k b hk hb => by
    have hp := P k hk
    rw [L_House_thingsIn_59_4, X.2.1, if_neg (by rw [le32_iff] <;> omega), c_numberAt_59n hD (by omega), pbI_rI, hp.1]
    simp (disch := omega) only [eq32_iff]
    by_cases e : p k = r
    · rw [if_neg (fun z => z e), if_pos (decide_eq_true e), jor_shl hb (by omega)]
    · rw [if_pos e, if_neg (by simp [e])])
  rw [key, L_House_thingsIn_59_4, X.2.1, if_pos (by rw [le32_iff] <;> omega)]
  rfl
theorem c_load_59 (hd : 3 ≤ d) (W : WF h) (X : XH M h) (P : PL M h 59 p) {r : Int} (h1 : -2147483648 ≤ r) (h2 : r < 2147483648) : xF d 87 [.inr 9, .inl r, .inr 61] M = rI (blk h (inR h p r)) M := by
  obtain ⟨D, rfl, hD⟩ := dsucc hd
  have := inR_lt h p r
  have := p_T W
  rw [T_House_load_59, c_thingsIn_59 hD W X P h1 h2, pbI_rI, c_bulkOf hD W X (by omega), pbI_rI]
theorem c_overfull_59 (hd : 4 ≤ d) (W : WF h) (X : XH M h) (P : PL M h 59 p) : xF d 88 [.inr 9, .inr 61] M = rI (ovf h p : Nat) M := by
  obtain ⟨D, rfl, hD⟩ := dsucc hd
  have w1 := W.1
  rw [T_House_overfull_59]
  have key := bits_loop (fun b k => xE D 88 4 [.inr 9, .inr 61, .inl b, .inl k] [] M) (hR h) (fun r => decide (h 1 r < blk h (inR h p r))) (fun k b hk hb => by
    have hx := X.2.2.2.1 k hk
    have hv := W.2.2.2.1 k hk
    have hb2 := blk_range W (inR h p (k : Int))
    rw [L_House_overfull_59_4, X.1, if_neg (by rw [le32_iff] <;> omega), c_load_59 hD W X P (by omega) (by omega), pbI_rI, if_pos (by omega), Int.toNat_natCast, hx]
    simp (disch := omega) only [le32_iff]
    by_cases e : blk h (inR h p (k : Int)) ≤ h 1 k
    · rw [if_pos e, if_neg (by simp; omega)]
    · rw [if_neg e, if_pos (by simp; omega), jor_shl hb (by omega)])
  rw [key, L_House_overfull_59_4, X.1, if_pos (by rw [le32_iff] <;> omega)]
  rfl
theorem c_oneRoom_59 (hd : 3 ≤ d) (W : WF h) (X : XH M h) (P : PL M h 59 p) {bits : Nat} (hb : bits < 2 ^ hT h) : xF d 90 [.inr 9, .inl (bits : Int), .inr 61] M = rI (if oneR h p bits then 1 else 0) M := by
  obtain ⟨D, rfl, hD⟩ := dsucc hd
  have w1 := W.1
  have hp := p_T W
  rw [T_House_areInOneRoom_59]
  have key : ∀ m k : Nat, k + m = hR h → allTo (fun r => decide (inR h p (r : Int) &&& bits = 0) || decide (inR h p (r : Int) &&& bits = bits)) k = true → ∀ y, xE D 90 2 [.inr 9, .inl (bits : Int), .inr 61, .inl (k : Int), y] [] M = rI (if oneR h p bits then 1 else 0) M := by
    intro m
    induction m with
    | zero =>
      intro k hk ha y
      rw [L_House_areInOneRoom_59_2, X.1, if_pos (by rw [le32_iff] <;> omega)]
      unfold oneR
      rw [show hR h = k by omega, if_pos ha]
    | succ m ih =>
      intro k hk ha y
      have hl := inR_lt h p (k : Int)
      rw [L_House_areInOneRoom_59_2, X.1, if_neg (by rw [le32_iff] <;> omega), c_thingsIn_59 hD W X P (by omega) (by omega), pbI_rI, jand_nat (by omega) (by omega)]
      have hle : inR h p (k : Int) &&& bits ≤ inR h p (k : Int) := Nat.and_le_left
      rw [show (0 : Int) = ((0 : Nat) : Int) from rfl]
      simp (disch := omega) only [eq32_iff, Int.natCast_inj]
      by_cases e1 : inR h p (k : Int) &&& bits = 0
      · rw [if_pos e1]
        exact ih (k + 1) (by omega) (by unfold allTo; rw [ha, e1]; rfl) _
      · rw [if_neg e1]
        by_cases e2 : inR h p (k : Int) &&& bits = bits
        · rw [if_pos e2]
          exact ih (k + 1) (by omega) (by unfold allTo; rw [ha, decide_eq_true e2]; simp) _
        · rw [if_neg e2]
          have : oneR h p bits = false := by
            cases hq : oneR h p bits with
            | false => rfl
            | true =>
              have := allTo_iff.mp hq k (by omega)
              simp [e1, e2] at this
          rw [this]; rfl
  exact key (hR h) 0 (by omega) rfl _
theorem c_parted_59 (hd : 4 ≤ d) (W : WF h) (X : XH M h) (P : PL M h 59 p) : xF d 89 [.inr 9, .inr 61] M = rI (ptd h p : Nat) M := by
  obtain ⟨D, rfl, hD⟩ := dsucc hd
  have w3 := W.2.2.1
  rw [T_House_parted_59]
  have key := bits_loop (fun b k => xE D 89 4 [.inr 9, .inr 61, .inl b, .inl k] [] M) (hS h) (fun s => !oneR h p (me h s)) (fun k b hk hb => by
    rw [L_House_parted_59_4, X.2.2.1, if_neg (by rw [le32_iff] <;> omega), if_pos (by omega), Int.toNat_natCast, X.2.2.2.2.2.2 k hk, c_oneRoom_59 hD W X P (W.2.2.2.2.2.2.2.2 k hk), pbI_rI, ite01n]
    cases oneR h p (me h k) with
    | true => rfl
    | false =>
      simp only [Bool.not_false, if_true]
      rw [jor_shl hb (by omega)]; rfl)
  rw [key, L_House_parted_59_4, X.2.2.1, if_pos (by rw [le32_iff] <;> omega)]
  rfl
theorem c_lawful_59 (hd : 5 ≤ d) (W : WF h) (X : XH M h) (P : PL M h 59 p) [Decidable (lwf h p)] : xF d 91 [.inr 9, .inr 61] M = rI (if lwf h p then 1 else 0) M := by
  obtain ⟨D, rfl, hD⟩ := dsucc hd
  have q1 : ptd h p < 2 ^ hS h := bitsOf_lt _ _
  have q2 : ovf h p < 2 ^ hR h := bitsOf_lt _ _
  have q3 := p_S W
  have q4 := p_R W
  have q5 : ptd h p ||| ovf h p < 2 ^ 8 := Nat.or_lt_two_pow (by omega) (by omega)
  rw [T_House_lawful_59, c_parted_59 hD W X P, pbI_rI, c_overfull_59 hD W X P, pbI_rI, jor_nat (by omega) (by omega)]
  simp (disch := omega) only [eq32_iff]
  by_cases e : ptd h p ||| ovf h p = 0
  · have hl : lwf h p := or_zero.mp e
    rw [e, if_neg (fun z => z rfl), if_pos hl]
  · have hl : ¬ lwf h p := fun z => e (or_zero.mpr z)
    rw [if_pos (by omega), if_neg hl]
theorem c_carriedTo_59 (hd : 5 ≤ d) (W : WF h) (X : XH M h) (P : PL M h 59 p) : xF d 83 [.inr 9, .inr 61] M = rI (cto h p) M := by
  obtain ⟨D, rfl, hD⟩ := dsucc hd
  have w1 := W.1
  have w2 := W.2.1
  rw [T_House_carriedTo_59]
  have key : ∀ m k : Nat, k + m = hT h → allTo (fun t => decide (0 ≤ csp h p t)) k = true → ∀ y, xE D 83 4 [.inr 9, .inr 61, .inl (sumTo (csp h p) k), .inl (k : Int), y] [] M = rI (cto h p) M := by
    intro m
    induction m with
    | zero =>
      intro k hk ha y
      rw [L_House_carriedTo_59_4, X.2.1, if_pos (by rw [le32_iff] <;> omega)]
      unfold cto
      rw [show hT h = k by omega, if_pos ha]
    | succ m ih =>
      intro k hk ha y
      have hp := P k (by omega)
      have hw := (W.2.2.2.2.2.2.2.1 k (by omega)).2.2.2
      have hx := (X.2.2.2.2.2.1 k (by omega)).2.2.2
      have hc := cst_range W (t := k) (by omega) (h 6 k).toNat (p k).toNat
      rw [L_House_carriedTo_59_4, X.2.1, if_neg (by rw [le32_iff] <;> omega), if_pos (by omega), Int.toNat_natCast, c_numberAt_59n (by omega) (by omega), pbI_rI, hp.1, hx, show h 6 k = (((h 6 k).toNat : Nat) : Int) by omega, show p k = (((p k).toNat : Nat) : Int) by omega, c_cost (by omega) W X (by omega) (by omega) (by omega), pbI_rI]
      try simp only [Int.toNat_natCast]
      simp (disch := omega) only [le32_iff]
      by_cases e : 0 ≤ cst h k (h 6 k).toNat (p k).toNat
      · rw [if_pos e]
        exact ih (k + 1) (by omega) (by unfold allTo; rw [ha]; exact decide_eq_true e) _
      · rw [if_neg e]
        unfold cto
        rw [if_neg (fun z => by
          have := allTo_iff.mp z k (by omega)
          exact e (of_decide_eq_true this))]
  exact key (hT h) 0 (by omega) rfl _
end PL59
