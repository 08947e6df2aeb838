/-! what is asked of the clumps that stand -/
theorem cmk_lt {h : pM} (W : WF h) (i : Nat) : ∀ k, k ≤ 10 → cmk h k i < 1024
  | 0, _ => by show 0 < 1024; decide
  | k + 1, hk => by
    unfold cmk
    split
    · exact hgM_lt W (by omega)
    · exact cmk_lt W i k (by omega)
theorem own_lt {h : pM} (t : Nat) : ∀ k, own h k t ≤ k
  | 0 => Nat.le_refl 0
  | k + 1 => by
    unfold own
    split
    · exact Nat.le_succ_of_le (hgA_le k).1
    · exact Nat.le_succ_of_le (own_lt t k)
/-- the clump i, and the clump of a thing -/
def cOf (h : pM) (i : Nat) : Nat := cmk h (hT h) i
def oOf (h : pM) (t : Nat) : Nat := own h (hT h) t
theorem cOf_lt {h : pM} (W : WF h) (i : Nat) : cOf h i < 1024 := cmk_lt W i _ W.2.1
theorem nC_le {h : pM} (W : WF h) : nC h ≤ 10 := Nat.le_trans (hgA_le _).1 W.2.1
section OC
variable {h M : pM} {d : Nat}
/-- the things of some clumps -/
def orTo (c : Nat → Bool) (f : Nat → Nat) : Nat → Nat
  | 0 => 0
  | n + 1 => if c n then orTo c f n ||| f n else orTo c f n
theorem orTo_lt {c : Nat → Bool} {f : Nat → Nat} (hf : ∀ i, f i < 1024) : ∀ n, orTo c f n < 1024
  | 0 => by show 0 < 1024; decide
  | n + 1 => by
    unfold orTo
    split
    · exact Nat.or_lt_two_pow (n := 10) (orTo_lt hf n) (hf n)
    · exact orTo_lt hf n
def tOf (h : pM) (bits : Nat) : Nat := orTo bits.testBit (cOf h) (nC h)
theorem tOf_lt (W : WF h) (bits : Nat) : tOf h bits < 1024 := orTo_lt (cOf_lt W) _
theorem c_thingsOf (hd : 2 ≤ d) (W : WF h) (C : CL M h) {bits : Nat} (hb : bits < 2147483648) : xF d 104 [.inr 9, .inl (bits : Int)] M = rI (tOf h bits : Nat) M := by
  obtain ⟨D, rfl, hD⟩ := dsucc hd
  have hn := nC_le W
  rw [T_House_thingsOf]
  have key : ∀ k : Nat, k ≤ nC h → xE D 104 4 [.inr 9, .inl (bits : Int), .inl 0, .inl 0] [] M = xE D 104 4 [.inr 9, .inl (bits : Int), .inl (orTo bits.testBit (cOf h) k : Nat), .inl (k : Int)] [] M := by
    intro k
    induction k with
    | zero => intro _; rfl
    | succ k ih =>
      intro hk
      have ho := orTo_lt (c := bits.testBit) (cOf_lt W) k
      have hc := cOf_lt W k
      rw [ih (by omega), L_House_thingsOf_4, C.1, if_neg (by rw [le32_iff] <;> omega), c_has hD hb (by omega), pbI_rI, ite01, orTo]
      cases hq : bits.testBit k with
      | false => rfl
      | true =>
        simp only [if_true]
        rw [if_pos (by omega), Int.toNat_natCast, C.2.1 k (by omega)]
        have e : jor ((orTo bits.testBit (cOf h) k : Nat) : Int) ((cOf h k : Nat) : Int) = ((orTo bits.testBit (cOf h) k ||| cOf h k : Nat) : Int) := jor_nat (by omega) (by omega)
        unfold cOf at e ⊢
        rw [e]
        rfl
  rw [key _ (Nat.le_refl _), L_House_thingsOf_4, C.1, if_pos (by rw [le32_iff] <;> omega)]
  rfl
/-- the clumps that have a thing in one of some sets -/
def cIn (h : pM) (sets : Nat) : Nat := orTo (fun t => decide (sOf h t &&& sets ≠ 0)) (fun t => if t < hT h then 2 ^ oOf h t else 0) (hT h)
theorem c_clumpsIn (hd : 3 ≤ d) (W : WF h) (X : XH M h) (C : CL M h) {sets : Nat} (hb : sets < 2147483648) : xF d 105 [.inr 9, .inl (sets : Int)] M = rI (cIn h sets : Nat) M := by
  obtain ⟨D, rfl, hD⟩ := dsucc hd
  have w2 := W.2.1
  rw [T_House_clumpsIn]
  have hf : ∀ t, (if t < hT h then 2 ^ oOf h t else 0) < 2048 := fun t => by
    split
    · exact Nat.lt_of_le_of_lt (pow_le_of (Nat.le_trans (own_lt t (hT h)) w2)) (by decide)
    · decide
  have hlt : ∀ k, orTo (fun t => decide (sOf h t &&& sets ≠ 0)) (fun t => if t < hT h then 2 ^ oOf h t else 0) k < 2048 := by
    intro k
    induction k with
    | zero => show 0 < 2048; decide
    | succ k ih =>
      unfold orTo
      split
      · exact Nat.or_lt_two_pow (n := 11) ih (hf k)
      · exact ih
  have key : ∀ k : Nat, k ≤ hT h → xE D 105 4 [.inr 9, .inl (sets : Int), .inl 0, .inl 0] [] M = xE D 105 4 [.inr 9, .inl (sets : Int), .inl (orTo (fun t => decide (sOf h t &&& sets ≠ 0)) (fun t => if t < hT h then 2 ^ oOf h t else 0) k : Nat), .inl (k : Int)] [] M := by
    intro k
    induction k with
    | zero => intro _; rfl
    | succ k ih =>
      intro hk
      have hs : sOf h k < 256 := Nat.lt_of_lt_of_le (sOf_lt k) (p_S W)
      have ha : sOf h k &&& sets < 256 := Nat.lt_of_le_of_lt Nat.and_le_left hs
      have ho : own h (hT h) k ≤ 10 := Nat.le_trans (own_lt k (hT h)) w2
      rw [ih (by omega), L_House_clumpsIn_4, X.2.1, if_neg (by rw [le32_iff] <;> omega), c_setsOf hD W X (by omega), pbI_rI, jand_nat (by omega) hb, orTo]
      by_cases q : sOf h k &&& sets = 0
      · rw [if_pos ((eq32_0 (by omega)).mpr q), if_neg (by simp [q])]
        rfl
      · rw [if_neg (fun z => q ((eq32_0 (by omega)).mp z)), if_pos (by omega), Int.toNat_natCast, C.2.2 k (by omega), jshl_one _ (by omega), if_pos (by simpa using q), if_pos (show k < hT h by omega)]
        have h1 := hlt k
        have h2 : 2 ^ own h (hT h) k < 2048 := Nat.lt_of_le_of_lt (pow_le_of ho) (by decide)
        rw [jor_nat (by omega) (by omega)]
        rfl
  rw [key _ (Nat.le_refl _), L_House_clumpsIn_4, X.2.1, if_pos (by rw [le32_iff] <;> omega)]
  rfl
theorem c_leastOf (hd : 2 ≤ d) (W : WF h) (C : CL M h) {i : Nat} (hi : i < nC h) : xF d 100 [.inr 9, .inl (i : Int)] M = rI (ntz (cOf h i)) M := by
  obtain ⟨D, rfl, hD⟩ := dsucc hd
  have hn := nC_le W
  have e : M 15 i = ((cOf h i : Nat) : Int) := C.2.1 i hi
  rw [T_House_leastOf, c_numberAt_15n hD (by omega), pbI_rI, e, j_ntz hD (cOf_lt W i), pbI_rI]
theorem c_clumpBulk (hd : 3 ≤ d) (W : WF h) (X : XH M h) (C : CL M h) {i : Nat} (hi : i < nC h) : xF d 101 [.inr 9, .inl (i : Int)] M = rI (blk h (cOf h i)) M := by
  obtain ⟨D, rfl, hD⟩ := dsucc hd
  have hn := nC_le W
  have hc := cOf_lt W i
  have e : M 15 i = ((cOf h i : Nat) : Int) := C.2.1 i hi
  rw [T_House_clumpBulk, c_numberAt_15n (by omega) (by omega), pbI_rI, e, c_bulkOf hD W X (by omega), pbI_rI]
/-- too many arrangements of the clumps: rooms to the power of clumps, up to 20000 -/
def pwr (r : Nat) : Nat → Nat → Nat
  | 0, a => a
  | n + 1, a => if 20000 < a then a else pwr r n (a * r)
def tmy (h : pM) : Prop := 20000 < pwr (hR h) (nC h) 1
theorem c_tooMany (hd : 1 ≤ d) (W : WF h) (X : XH M h) (C : CL M h) : xF d 92 [.inr 9] M = rI (if 20000 < pwr (hR h) (nC h) 1 then 1 else 0) M := by
  obtain ⟨D, rfl, hD⟩ := dsucc hd
  have w1 := W.1
  have hn := nC_le W
  rw [T_House_tooMany]
  have fin : ∀ a : Nat, a ≤ 120000 → (if le32 (a : Int) 20000 then some (some (Sum.inl 0), M) else (some (some (Sum.inl 1), M) : Option pR)) = rI (if 20000 < a then 1 else 0) M := fun a ha => by
    by_cases q : 20000 < a
    · rw [if_neg (by rw [le32_iff] <;> omega), if_pos q]
    · rw [if_pos (by rw [le32_iff] <;> omega), if_neg q]
  have key : ∀ m k a : Nat, k + m = nC h → a ≤ 120000 → xE D 92 4 [.inr 9, .inl (a : Int), .inl (k : Int)] [] M = rI (if 20000 < pwr (hR h) m a then 1 else 0) M := by
    intro m
    induction m with
    | zero =>
      intro k a hk ha
      rw [L_House_tooMany_4, C.1, if_pos (by rw [le32_iff] <;> omega)]
      exact fin a ha
    | succ m ih =>
      intro k a hk ha
      rw [L_House_tooMany_4, C.1, if_neg (by rw [le32_iff] <;> omega), pwr]
      by_cases q : 20000 < a
      · rw [if_pos (by rw [lt32_iff] <;> omega), if_pos q]
        exact fin a ha
      · rw [if_neg (by rw [lt32_iff] <;> omega), if_neg q, X.1]
        have h2 : a * hR h ≤ 20000 * 6 := Nat.mul_le_mul (by omega) w1
        have := ih (k + 1) (a * hR h) (by omega) (by omega)
        rw [Int.natCast_mul] at this
        exact this
  exact key _ 0 1 (by omega) (by decide)
end OC
