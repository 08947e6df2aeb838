/-! loops of the usual kinds -/
theorem jor_shl {a k : Nat} (ha : a < 2 ^ k) (hk : k < 30) : jor (a : Int) (jshl 1 (k : Int)) = ((a ||| 2 ^ k : Nat) : Int) := by
  have h1 : 2 ^ k < 2147483648 := Nat.lt_of_lt_of_le (Nat.pow_lt_pow_right (by decide) hk) (by decide)
  rw [jshl_one k (by omega), jor_nat (Nat.lt_trans ha h1) h1]
theorem or_pow_lt {a k : Nat} (ha : a < 2 ^ k) : a ||| 2 ^ k < 2 ^ (k + 1) := Nat.or_lt_two_pow (Nat.lt_trans ha (Nat.pow_lt_pow_right (by decide) (Nat.lt_succ_self k))) (Nat.pow_lt_pow_right (by decide) (Nat.lt_succ_self k))
theorem lt_pow_succ {a k : Nat} (ha : a < 2 ^ k) : a < 2 ^ (k + 1) := Nat.lt_trans ha (Nat.pow_lt_pow_right (by decide) (Nat.lt_succ_self k))
theorem pow_le_of {k n : Nat} (h : k ≤ n) : 2 ^ k ≤ 2 ^ n := Nat.pow_le_pow_right (by decide) h
/-- bits gathered: F bits k -/
theorem bits_loop (F : Int → Int → Option pR) (n : Nat) (c : Nat → Bool) (hs : ∀ k b : Nat, k < n → b < 2 ^ k → F (b : Int) (k : Int) = F ((if c k then b ||| 2 ^ k else b : Nat) : Int) ((k : Int) + 1)) : F 0 0 = F (bitsOf c n) n := by
  have key : ∀ k : Nat, k ≤ n → F 0 0 = F (bitsOf c k) k := by
    intro k
    induction k with
    | zero => intro _; rfl
    | succ k ih =>
      intro hk
      rw [ih (by omega), hs k _ (by omega) (bitsOf_lt c k)]
      rfl
  exact key n (Nat.le_refl n)
/-- sums -/
def sumTo (f : Nat → Int) : Nat → Int
  | 0 => 0
  | n + 1 => sumTo f n + f n
theorem sumTo_congr {f g : Nat → Int} : ∀ {n : Nat}, (∀ i, i < n → f i = g i) → sumTo f n = sumTo g n
  | 0, _ => rfl
  | n + 1, h => by unfold sumTo; rw [sumTo_congr fun i hi => h i (Nat.lt_succ_of_lt hi), h n (Nat.lt_succ_self n)]
theorem sumTo_range {f : Nat → Int} {lo hi : Int} : ∀ {n : Nat}, (∀ i, i < n → lo ≤ f i ∧ f i ≤ hi) → (n : Int) * lo ≤ sumTo f n ∧ sumTo f n ≤ (n : Int) * hi
  | 0, _ => by simp [sumTo]
  | n + 1, h => by
    have h1 := sumTo_range fun i hi => h i (Nat.lt_succ_of_lt hi)
    have h2 := h n (Nat.lt_succ_self n)
    unfold sumTo
    rw [Int.natCast_succ, Int.add_mul, Int.add_mul]
    omega
theorem sum_loop (F : Int → Int → Option pR) (n : Nat) (f : Nat → Int) (hs : ∀ (k : Nat) (s : Int), k < n → F s (k : Int) = F (s + f k) ((k : Int) + 1)) : F 0 0 = F (sumTo f n) n := by
  have key : ∀ k : Nat, k ≤ n → F 0 0 = F (sumTo f k) k := by
    intro k
    induction k with
    | zero => intro _; rfl
    | succ k ih =>
      intro hk
      rw [ih (by omega), hs k _ (by omega)]
      rfl
  exact key n (Nat.le_refl n)
/-- the first place with c, or -1 -/
def firstN (c : Nat → Bool) : Nat → Nat → Int
  | _, 0 => -1
  | k, m + 1 => if c k then (k : Int) else firstN c (k + 1) m
theorem firstN_congr {c c' : Nat → Bool} : ∀ {m k : Nat}, (∀ i, k ≤ i → i < k + m → c i = c' i) → firstN c k m = firstN c' k m
  | 0, _, _ => rfl
  | m + 1, k, h => by
    unfold firstN
    rw [h k (Nat.le_refl k) (by omega), firstN_congr fun i h1 h2 => h i (by omega) (by omega)]
theorem firstN_spec (c : Nat → Bool) : ∀ (m k : Nat), (firstN c k m = -1 ∧ ∀ i, k ≤ i → i < k + m → c i = false) ∨ ∃ j : Nat, firstN c k m = (j : Int) ∧ k ≤ j ∧ j < k + m ∧ c j = true ∧ ∀ i, k ≤ i → i < j → c i = false
  | 0, k => Or.inl ⟨rfl, fun i h1 h2 => by omega⟩
  | m + 1, k => by
    unfold firstN
    cases hc : c k with
    | true => exact Or.inr ⟨k, rfl, Nat.le_refl k, by omega, hc, fun i h1 h2 => by omega⟩
    | false =>
      rw [if_neg (by simp)]
      rcases firstN_spec c m (k + 1) with ⟨h1, h2⟩ | ⟨j, h1, h2, h3, h4, h5⟩
      · refine Or.inl ⟨h1, fun i h3 h4 => ?_⟩
        rcases Nat.lt_or_ge k i with q | q
        · exact h2 i q (by omega)
        · have : i = k := by omega
          rw [this]; exact hc
      · refine Or.inr ⟨j, h1, by omega, by omega, h4, fun i h6 h7 => ?_⟩
        rcases Nat.lt_or_ge k i with q | q
        · exact h5 i q h7
        · have : i = k := by omega
          rw [this]; exact hc
theorem firstN_range (c : Nat → Bool) (m : Nat) : -1 ≤ firstN c 0 m ∧ firstN c 0 m < m ∨ firstN c 0 m = -1 := by
  rcases firstN_spec c m 0 with ⟨h1, -⟩ | ⟨j, h1, -, h3, -⟩
  · exact Or.inr h1
  · exact Or.inl (by omega)
/-- all up to n -/
def allTo (c : Nat → Bool) : Nat → Bool
  | 0 => true
  | n + 1 => allTo c n && c n
theorem allTo_iff {c : Nat → Bool} : ∀ {n : Nat}, allTo c n = true ↔ ∀ i, i < n → c i = true
  | 0 => ⟨fun _ i h => by omega, fun _ => rfl⟩
  | n + 1 => by
    unfold allTo
    rw [Bool.and_eq_true, allTo_iff]
    constructor
    · intro ⟨h1, h2⟩ i hi
      rcases Nat.lt_or_ge i n with q | q
      · exact h1 i q
      · have : i = n := by omega
        rw [this]; exact h2
    · intro h
      exact ⟨fun i hi => h i (by omega), h n (Nat.lt_succ_self n)⟩
theorem c_has {d : Nat} (hd : 1 ≤ d) {a b : Nat} {M : pM} (ha : a < 2147483648) (hb : b < 32) : xF d 49 [.inl (a : Int), .inl (b : Int)] M = rI (if a.testBit b then 1 else 0) M := by
  obtain ⟨D, rfl, -⟩ := dsucc hd
  rw [T_X_has, jshr_nat ha hb, jand_one (Nat.lt_of_le_of_lt (Nat.shiftRight_le a b) ha)]
  have e : (a >>> b) % 2 = if a.testBit b then 1 else 0 := by
    rw [Nat.testBit_eq_decide_div_mod_eq, Nat.shiftRight_eq_div_pow]
    have := Nat.mod_lt (a / 2 ^ b) (show 0 < 2 by decide)
    by_cases q : a / 2 ^ b % 2 = 1
    · simp [q]
    · simp [q]; omega
  rw [e]
  cases a.testBit b
  · rw [if_pos (by decide)]; rfl
  · rw [if_neg (by decide)]; rfl
theorem m_has {d : Nat} (hd : 1 ≤ d) {a b : Nat} {M : pM} (ha : a < 2147483648) (hb : b < 32) : xF d 170 [.inl (a : Int), .inl (b : Int)] M = rI (if a.testBit b then 1 else 0) M := by
  obtain ⟨D, rfl, -⟩ := dsucc hd
  rw [T_M_has, jshr_nat ha hb, jand_one (Nat.lt_of_le_of_lt (Nat.shiftRight_le a b) ha)]
  have e : (a >>> b) % 2 = if a.testBit b then 1 else 0 := by
    rw [Nat.testBit_eq_decide_div_mod_eq, Nat.shiftRight_eq_div_pow]
    have := Nat.mod_lt (a / 2 ^ b) (show 0 < 2 by decide)
    by_cases q : a / 2 ^ b % 2 = 1
    · simp [q]
    · simp [q]; omega
  rw [e]
  cases a.testBit b
  · rw [if_pos (by decide)]; rfl
  · rw [if_neg (by decide)]; rfl
/-- a condition asked as 0 or 1 -/
theorem ite01 {b : Bool} {α : Type} (x y : α) : (if eq32 (if b then 1 else 0) 0 then x else y) = if b then y else x := by
  cases b
  · rw [if_pos (by decide)]; rfl
  · rw [if_neg (by decide)]; rfl
theorem ite01n {b : Bool} {α : Type} (x y : α) : (if ¬ eq32 (if b then 1 else 0) 0 then x else y) = if b then x else y := by
  cases b
  · rw [if_neg (by decide)]; rfl
  · rw [if_pos (by decide)]; rfl
theorem ite01p {p : Prop} [Decidable p] {α : Type} (x y : α) : (if eq32 (if p then 1 else 0) 0 then x else y) = if p then y else x := by
  by_cases h : p
  · rw [if_pos h, if_neg (by decide), if_pos h]
  · rw [if_neg h, if_pos (by decide), if_neg h]
theorem ite01pn {p : Prop} [Decidable p] {α : Type} (x y : α) : (if ¬ eq32 (if p then 1 else 0) 0 then x else y) = if p then x else y := by
  by_cases h : p
  · rw [if_pos h, if_pos (by decide), if_pos h]
  · rw [if_neg h, if_neg (by decide), if_neg h]
theorem ret01p {p : Prop} [Decidable p] (M : pM) : (if (if p then (1 : Int) else 0) = 0 ∨ (if p then (1 : Int) else 0) = 1 then some (some (Sum.inl (if p then (1 : Int) else 0)), M) else none) = (rI (if p then 1 else 0) M : Option pR) := by
  by_cases h : p
  · rw [if_pos h, if_pos (Or.inr rfl)]
  · rw [if_neg h, if_pos (Or.inl rfl)]
