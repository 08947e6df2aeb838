/-! numbers: where the machine's ints are small they are ints; bits of small naturals -/
theorem toI_id {z : Int} (h1 : -2147483648 ≤ z) (h2 : z < 2147483648) : (iI z).toInt = z := by
  show (Int32.ofInt z).toInt = z
  rw [Int32.toInt_ofInt, show Int32.size = 4294967296 from rfl]
  exact Int.bmod_eq_of_le (by omega) (by omega)
theorem lt32_iff {x y : Int} (h1 : -2147483648 ≤ x) (h2 : x < 2147483648) (h3 : -2147483648 ≤ y) (h4 : y < 2147483648) : lt32 x y ↔ x < y := by
  show iI x < iI y ↔ x < y
  rw [Int32.lt_iff_toInt_lt, toI_id h1 h2, toI_id h3 h4]
theorem le32_iff {x y : Int} (h1 : -2147483648 ≤ x) (h2 : x < 2147483648) (h3 : -2147483648 ≤ y) (h4 : y < 2147483648) : le32 x y ↔ x ≤ y := by
  show iI x ≤ iI y ↔ x ≤ y
  rw [Int32.le_iff_toInt_le, toI_id h1 h2, toI_id h3 h4]
theorem eq32_iff {x y : Int} (h1 : -2147483648 ≤ x) (h2 : x < 2147483648) (h3 : -2147483648 ≤ y) (h4 : y < 2147483648) : eq32 x y ↔ x = y := by
  show iI x = iI y ↔ x = y
  rw [← Int32.toInt_inj, toI_id h1 h2, toI_id h3 h4]
theorem r32a (x : Int32) : -2147483648 ≤ x.toInt := x.le_toInt
theorem r32b (x : Int32) : x.toInt < 2147483648 := x.toInt_lt
abbrev rI (v : Int) (M : pM) : Option pR := some (some (.inl v), M)
abbrev rV (M : pM) : Option pR := some (none, M)
theorem pbI_rI (v : Int) (M : pM) (f : Int → pM → Option pR) : pbI (some (some (.inl v), M)) f = f v M := rfl
theorem pbN_rV (M : pM) (f : pM → Option pR) : pbN (some (none, M)) f = f M := rfl
theorem pbR_rR (k : Nat) (M : pM) (f : Nat → pM → Option pR) : pbR (some (some (.inr (k + 1)), M)) f = f k M := rfl
theorem bv_nat {a : Nat} (h : a < 2147483648) : (iI (a : Int)).toBitVec.toNat = a := by
  show (BitVec.ofInt 32 (a : Int)).toNat = a
  rw [BitVec.toNat_ofInt]
  omega
theorem b32_nat {f : Int32 → Int32 → Int32} {a b c : Nat} (h : (f (iI (a : Int)) (iI (b : Int))).toBitVec.toNat = c) (hc : c < 2147483648) : b32 f a b = (c : Int) := by
  unfold b32
  show (f (iI (a : Int)) (iI (b : Int))).toBitVec.toInt = _
  rw [BitVec.toInt_eq_toNat_of_lt (by omega), h]
theorem jor_nat {a b : Nat} (ha : a < 2147483648) (hb : b < 2147483648) : jor (a : Int) (b : Int) = ((a ||| b : Nat) : Int) := by
  refine b32_nat ?_ (Nat.or_lt_two_pow (n := 31) ha hb)
  show ((iI (a : Int)).toBitVec ||| (iI (b : Int)).toBitVec).toNat = _
  rw [BitVec.toNat_or, bv_nat ha, bv_nat hb]
theorem jand_nat {a b : Nat} (ha : a < 2147483648) (hb : b < 2147483648) : jand (a : Int) (b : Int) = ((a &&& b : Nat) : Int) := by
  refine b32_nat ?_ (Nat.lt_of_le_of_lt Nat.and_le_left ha)
  show ((iI (a : Int)).toBitVec &&& (iI (b : Int)).toBitVec).toNat = _
  rw [BitVec.toNat_and, bv_nat ha, bv_nat hb]
theorem jshl_one : ∀ t : Nat, t < 31 → jshl 1 (t : Int) = ((2 ^ t : Nat) : Int) := by decide +kernel
theorem sh_nat : ∀ t : Nat, t < 32 → ((iI (t : Int)) &&& (31 : Int32)).toBitVec.smod 32 = BitVec.ofNat 32 t := by decide +kernel
theorem jshr_nat {a t : Nat} (ha : a < 2147483648) (ht : t < 32) : jshr (a : Int) (t : Int) = ((a >>> t : Nat) : Int) := by
  refine b32_nat ?_ (Nat.lt_of_le_of_lt (Nat.shiftRight_le a t) ha)
  show (BitVec.sshiftRight' (iI (a : Int)).toBitVec (((iI (t : Int)) &&& (31 : Int32)).toBitVec.smod 32)).toNat = _
  rw [sh_nat t ht, BitVec.toNat_sshiftRight'_of_msb_false, bv_nat ha]
  · simp only [BitVec.toNat_ofNat]
    rw [Nat.mod_eq_of_lt (by omega)]
  · rw [BitVec.msb_eq_decide, bv_nat ha]
    simp only [decide_eq_false_iff_not]
    omega
theorem jand_one {a : Nat} (ha : a < 2147483648) : jand (a : Int) 1 = ((a % 2 : Nat) : Int) := by
  have h := jand_nat (b := 1) ha (by decide)
  rw [Nat.and_one_is_mod] at h
  exact h
/-- a without the bits of b -/
def nan (a b : Nat) : Nat := a ^^^ (a &&& b)
theorem nan_bit (a b i : Nat) : (nan a b).testBit i = (a.testBit i && !b.testBit i) := by
  unfold nan
  rw [Nat.testBit_xor, Nat.testBit_and]
  cases a.testBit i <;> cases b.testBit i <;> rfl
theorem nan_le (a b : Nat) : nan a b ≤ a := by
  apply Nat.le_of_testBit
  intro i h
  rw [nan_bit] at h
  exact (Bool.and_eq_true_iff.mp h).1
theorem jxor_m1 {b : Nat} (hb : b < 2147483648) : jxor (b : Int) (-1) = -(b : Int) - 1 := by
  unfold jxor b32
  have e : (iI (b : Int) ^^^ iI (-1)) = iI (-(b : Int) - 1) := by
    apply Int32.toBitVec_inj.mp
    show (iI (b : Int)).toBitVec ^^^ (BitVec.ofInt 32 (-1)) = BitVec.ofInt 32 (-(b : Int) - 1)
    have e1 : BitVec.ofInt 32 (-1) = BitVec.allOnes 32 := by decide
    rw [e1, BitVec.xor_allOnes]
    apply BitVec.eq_of_toNat_eq
    rw [BitVec.toNat_not, bv_nat hb, BitVec.toNat_ofInt]
    omega
  show (iI (b : Int) ^^^ iI (-1)).toInt = _
  rw [e, toI_id (by omega) (by omega)]
theorem jand_not {a b : Nat} (ha : a < 2147483648) (hb : b < 2147483648) : jand (a : Int) (-(b : Int) - 1) = ((nan a b : Nat) : Int) := by
  unfold jand b32
  have e1 : (iI (-(b : Int) - 1)).toBitVec = ~~~ (iI (b : Int)).toBitVec := by
    apply BitVec.eq_of_toNat_eq
    rw [BitVec.toNat_not, bv_nat hb]
    show (BitVec.ofInt 32 (-(b : Int) - 1)).toNat = _
    rw [BitVec.toNat_ofInt]
    omega
  have e2 : ((iI (a : Int)).toBitVec &&& ~~~ (iI (b : Int)).toBitVec).toNat = nan a b := by
    apply Nat.eq_of_testBit_eq
    intro i
    rw [nan_bit, BitVec.toNat_and, Nat.testBit_and, bv_nat ha]
    rcases Nat.lt_or_ge i 32 with h | h
    · congr 1
      rw [BitVec.testBit_toNat, BitVec.getLsbD_not, ← BitVec.testBit_toNat, bv_nat hb]
      simp [h]
    · rw [Nat.testBit_lt_two_pow (x := a) (Nat.lt_of_lt_of_le ha (Nat.pow_le_pow_right (n := 2) (i := 31) (by decide) (by omega)))]
      simp
  show ((iI (a : Int)).toBitVec &&& (iI (-(b : Int) - 1)).toBitVec).toInt = _
  rw [e1, BitVec.toInt_eq_toNat_of_lt (by rw [e2]; have := nan_le a b; omega), e2]
theorem jdiv_nat {a b : Nat} (ha : a < 2147483648) (hb : b < 2147483648) (h0 : b ≠ 0) : jdiv (a : Int) (b : Int) = ((a / b : Nat) : Int) := by
  unfold jdiv b32
  rw [Int32.toInt_div_of_ne_right _ _ (by
    intro h
    have := congrArg Int32.toInt h
    rw [toI_id (by omega) (by omega)] at this
    have h9 : Int32.toInt (-1) = -1 := by decide
    rw [h9] at this
    omega), toI_id (by omega) (by omega), toI_id (by omega) (by omega)]
  exact (Int.ofNat_tdiv a b).symm
theorem jrem_nat {a b : Nat} (ha : a < 2147483648) (hb : b < 2147483648) (h0 : b ≠ 0) : jrem (a : Int) (b : Int) = ((a % b : Nat) : Int) := by
  have h1 := jdiv_nat ha hb h0
  unfold jdiv b32 at h1
  unfold jrem b32
  have e : iI (a : Int) - iI (a : Int) / iI (b : Int) * iI (b : Int) = iI ((a % b : Nat) : Int) := by
    have e2 : iI (a : Int) / iI (b : Int) = iI (((a / b : Nat)) : Int) := by
      have := congrArg Int32.ofInt h1
      rw [Int32.ofInt_toInt] at this
      exact this
    rw [e2]
    show Int32.ofInt _ - Int32.ofInt _ * Int32.ofInt _ = Int32.ofInt _
    rw [← Int32.ofInt_mul, ← Int32.ofInt_sub]
    congr 1
    have := Nat.div_add_mod a b
    have h3 : ((b * (a / b) + a % b : Nat) : Int) = (a : Int) := by rw [this]
    rw [Int.natCast_add, Int.natCast_mul] at h3
    rw [Int.mul_comm]
    omega
  show (iI (a : Int) - iI (a : Int) / iI (b : Int) * iI (b : Int)).toInt = _
  rw [e]
  have : a % b < b := Nat.mod_lt _ (Nat.pos_of_ne_zero h0)
  exact toI_id (by omega) (by omega)
theorem jmax_eq {x y : Int} (h1 : -2147483648 ≤ x) (h2 : x < 2147483648) (h3 : -2147483648 ≤ y) (h4 : y < 2147483648) : jmax x y = max x y := by
  unfold jmax
  simp only [lt32_iff h1 h2 h3 h4, toI_id h1 h2, toI_id h3 h4]
  split <;> omega
theorem jmin_eq {x y : Int} (h1 : -2147483648 ≤ x) (h2 : x < 2147483648) (h3 : -2147483648 ≤ y) (h4 : y < 2147483648) : jmin x y = min x y := by
  unfold jmin
  simp only [lt32_iff h3 h4 h1 h2, toI_id h1 h2, toI_id h3 h4]
  split <;> omega
theorem clamp_range (x : Int) : 1 ≤ jmax 1 (jmin 9 x) ∧ jmax 1 (jmin 9 x) ≤ 9 := by
  have h : -2147483648 ≤ jmin 9 x ∧ jmin 9 x ≤ 9 := by
    unfold jmin
    by_cases q : lt32 x 9
    · rw [if_pos q]
      have q2 : (iI x).toInt < (iI 9).toInt := Int32.lt_iff_toInt_lt.mp q
      have e9 : (iI 9).toInt = 9 := toI_id (by decide) (by decide)
      have := r32a (iI x)
      omega
    · rw [if_neg q]
      have e9 : (iI 9).toInt = 9 := toI_id (by decide) (by decide)
      omega
  rw [jmax_eq (by decide) (by decide) (by omega) (by omega)]
  omega
theorem jb_id {z : Int} (h1 : -128 ≤ z) (h2 : z < 128) : jb z = z := by
  unfold jb
  have e : (iI z).toInt8 = Int8.ofInt z := Int8.toInt_inj.mp (by
    rw [Int32.toInt_toInt8, toI_id (by omega) (by omega), Int8.toInt_ofInt])
  rw [e, Int8.toInt_toInt32, Int8.toInt_ofInt, show Int8.size = 256 from rfl]
  exact Int.bmod_eq_of_le (by omega) (by omega)
/-- iterates -/
def itr {α : Type} (g : Nat → α → α) : Nat → Nat → α → α
  | _, 0, s => s
  | k, n + 1, s => itr g (k + 1) n (g k s)
theorem itr_succ {α : Type} (g : Nat → α → α) : ∀ (n k : Nat) (s : α), itr g k (n + 1) s = g (k + n) (itr g k n s)
  | 0, k, s => rfl
  | n + 1, k, s => by
    show itr g (k + 1) (n + 1) (g k s) = _
    rw [itr_succ g n (k + 1) (g k s)]
    show g (k + 1 + n) (itr g (k + 1) n (g k s)) = g (k + (n + 1)) (itr g k (n + 1) s)
    rw [show k + 1 + n = k + (n + 1) by omega]
    rfl
/-- a loop that goes from k up to n, one at a time -/
theorem loop_up {α β : Type} (F : Nat → α → β) (g : Nat → α → α) (P : Nat → α → Prop) (n : Nat) (h : ∀ j s, j < n → P j s → F j s = F (j + 1) (g j s) ∧ P (j + 1) (g j s)) : ∀ m k s, k + m = n → P k s → F k s = F n (itr g k m s) ∧ P n (itr g k m s)
  | 0, k, s, hk, hP => by
    have : k = n := by omega
    subst this
    exact ⟨rfl, hP⟩
  | m + 1, k, s, hk, hP => by
    obtain ⟨h1, h2⟩ := h k s (by omega) hP
    obtain ⟨h3, h4⟩ := loop_up F g P n h m (k + 1) (g k s) (by omega) h2
    exact ⟨h1.trans h3, h4⟩
/-- bits of a property of 0 .. n - 1 -/
def bitsOf (c : Nat → Bool) : Nat → Nat
  | 0 => 0
  | n + 1 => if c n then bitsOf c n ||| 2 ^ n else bitsOf c n
theorem bitsOf_lt (c : Nat → Bool) : ∀ n, bitsOf c n < 2 ^ n
  | 0 => Nat.lt_succ_self 0
  | n + 1 => by
    have h := bitsOf_lt c n
    have h2 : 2 ^ n < 2 ^ (n + 1) := Nat.pow_lt_pow_right (by decide) (Nat.lt_succ_self n)
    unfold bitsOf
    split
    · exact Nat.or_lt_two_pow (Nat.lt_trans h h2) h2
    · exact Nat.lt_trans h h2
theorem bitsOf_bit (c : Nat → Bool) : ∀ n i, (bitsOf c n).testBit i = (decide (i < n) && c i)
  | 0, i => by simp [bitsOf]
  | n + 1, i => by
    have h := bitsOf_bit c n i
    unfold bitsOf
    by_cases e : i = n
    · subst e
      split
      · rename_i hc
        rw [Nat.testBit_or, h, Nat.testBit_two_pow_self]
        simp [hc]
      · rename_i hc
        rw [h]
        simp [hc]
    · split
      · rw [Nat.testBit_or, h, Nat.testBit_two_pow_of_ne (fun q => e q.symm)]
        by_cases h1 : i < n
        · simp [h1, Nat.lt_succ_of_lt h1]
        · have : ¬ i < n + 1 := by omega
          simp [h1, this]
      · rw [h]
        by_cases h1 : i < n
        · simp [h1, Nat.lt_succ_of_lt h1]
        · have : ¬ i < n + 1 := by omega
          simp [h1, this]
theorem bitsOf_congr {c c' : Nat → Bool} : ∀ {n : Nat}, (∀ i, i < n → c i = c' i) → bitsOf c n = bitsOf c' n
  | 0, _ => rfl
  | n + 1, h => by
    unfold bitsOf
    rw [h n (Nat.lt_succ_self n), bitsOf_congr fun i hi => h i (Nat.lt_succ_of_lt hi)]
