/-! the class's sets and clumps -/
theorem me_lt {h : pM} (W : WF h) {s : Nat} (hs : s < hS h) : me h s < 1024 := Nat.lt_of_lt_of_le (W.2.2.2.2.2.2.2.2 s hs) (pow_le_of W.2.1)
/-- sets of a thing; sets that have none of some things -/
def sOf (h : pM) (t : Nat) : Nat := bitsOf (fun s => (me h s).testBit t) (hS h)
def sNo (h : pM) (bits : Nat) : Nat := bitsOf (fun s => decide (me h s &&& bits = 0)) (hS h)
theorem pow10 {t : Nat} (ht : t < 10) : 2 ^ t < 1024 := show 2 ^ t < 2 ^ 10 from Nat.pow_lt_pow_right (by decide) ht
theorem sOf_lt {h : pM} (t : Nat) : sOf h t < 2 ^ hS h := bitsOf_lt _ _
theorem sNo_lt {h : pM} (b : Nat) : sNo h b < 2 ^ hS h := bitsOf_lt _ _
theorem jand_lt {a b : Nat} (ha : a < 1024) : (a &&& b) < 1024 := Nat.lt_of_le_of_lt Nat.and_le_left ha
theorem eq32_0 {a : Nat} (ha : a < 2147483648) : eq32 (a : Int) 0 ↔ a = 0 := by
  rw [eq32_iff] <;> omega
section ST
variable {h M : pM} {d : Nat}
theorem c_setsOf (hd : 2 ≤ d) (W : WF h) (X : XH M h) {t : Nat} (ht : t < 32) : xF d 93 [.inr 9, .inl (t : Int)] M = rI (sOf h t) M := by
  obtain ⟨D, rfl, hD⟩ := dsucc hd
  have w3 := W.2.2.1
  rw [T_House_setsOf]
  have key := bits_loop (fun b k => xE D 93 4 [.inr 9, .inl (t : Int), .inl b, .inl k] [] M) (hS h) (fun s => (me h s).testBit t) (fun k b hk hb => by
    have hm := me_lt W hk
    rw [L_House_setsOf_4, X.2.2.1, if_neg (by rw [le32_iff] <;> omega), if_pos (by omega), Int.toNat_natCast, X.2.2.2.2.2.2 k hk, c_has hD (by omega) ht, pbI_rI, ite01]
    cases (me h k).testBit t with
    | false => rfl
    | true => simp only [if_true]; rw [jor_shl hb (by omega)])
  rw [key, L_House_setsOf_4, X.2.2.1, if_pos (by rw [le32_iff] <;> omega)]
  rfl
theorem c_setsNo (hd : 1 ≤ d) (W : WF h) (X : XH M h) {bits : Nat} (hb : bits < 2147483648) : xF d 94 [.inr 9, .inl (bits : Int)] M = rI (sNo h bits) M := by
  obtain ⟨D, rfl, hD⟩ := dsucc hd
  have w3 := W.2.2.1
  rw [T_House_setsWithNoneOf]
  have key := bits_loop (fun b k => xE D 94 4 [.inr 9, .inl (bits : Int), .inl b, .inl k] [] M) (hS h) (fun s => decide (me h s &&& bits = 0)) (fun k b hk hb2 => by
    have hm := me_lt W hk
    rw [L_House_setsWithNoneOf_4, X.2.2.1, if_neg (by rw [le32_iff] <;> omega), if_pos (by omega), Int.toNat_natCast, X.2.2.2.2.2.2 k hk, jand_nat (by omega) hb]
    by_cases q : me h k &&& bits = 0
    · rw [if_neg (by rw [eq32_0 (Nat.lt_trans (jand_lt hm) (by decide))]; exact fun z => z q), if_pos (by simpa using q), jor_shl hb2 (by omega)]
    · rw [if_pos (by rw [eq32_0 (Nat.lt_trans (jand_lt hm) (by decide))]; exact q), if_neg (by simpa using q)])
  rw [key, L_House_setsWithNoneOf_4, X.2.2.1, if_pos (by rw [le32_iff] <;> omega)]
  rfl
/-- a thing leaves its sets -/
def lvM (M : pM) (t : Nat) (n : Nat) : pM := fun o i => if o = 14 ∧ i < n then jand (M 14 i) (jxor (jshl 1 (t : Int)) (-1)) else M o i
theorem lvM_0 (M : pM) (t : Nat) : lvM M t 0 = M := by
  funext o i
  unfold lvM
  rw [if_neg (by omega)]
theorem lvM_succ (M : pM) (t n : Nat) : pset (lvM M t n) 14 n (jand (lvM M t n 14 n) (jxor (jshl 1 (t : Int)) (-1))) = lvM M t (n + 1) := by
  funext o i
  by_cases q : o = 14 ∧ i = n
  · obtain ⟨rfl, rfl⟩ := q
    rw [pset_eq]
    unfold lvM
    rw [if_neg (by omega), if_pos (by omega)]
  · have e : pset (lvM M t n) 14 n (jand (lvM M t n 14 n) (jxor (jshl 1 (t : Int)) (-1))) o i = lvM M t n o i := by
      by_cases q1 : o = 14
      · subst q1
        exact pset_ne2 (by omega)
      · exact pset_ne q1
    rw [e]
    unfold lvM
    by_cases q2 : o = 14 ∧ i < n
    · rw [if_pos q2, if_pos (by omega)]
    · rw [if_neg q2, if_neg (by omega)]
theorem c_leaveSets (hd : 1 ≤ d) (W : WF h) (X : XH M h) {t : Nat} : xF d 95 [.inr 9, .inl (t : Int)] M = rV (lvM M t (hS h)) := by
  obtain ⟨D, rfl, hD⟩ := dsucc hd
  have w3 := W.2.2.1
  rw [T_House_leaveSets]
  have key : ∀ k : Nat, k ≤ hS h → xE D 95 2 [.inr 9, .inl (t : Int), .inl 0] [] M = xE D 95 2 [.inr 9, .inl (t : Int), .inl (k : Int)] [] (lvM M t k) := by
    intro k
    induction k with
    | zero => intro _; rw [lvM_0]; rfl
    | succ k ih =>
      intro hk
      rw [ih (by omega), L_House_leaveSets_2, show lvM M t k 7 11 = hS h from X.2.2.1, if_neg (by rw [le32_iff] <;> omega), if_pos (by omega), if_pos (by omega), Int.toNat_natCast, lvM_succ]
      rfl
  rw [key _ (Nat.le_refl _), L_House_leaveSets_2, show lvM M t (hS h) 7 11 = hS h from X.2.2.1, if_pos (by rw [le32_iff] <;> omega)]
/-- what hangs on something: one look at the sets, some looks -/
def hngI (h : pM) (amo sets seen : Nat) : Nat → Nat
  | 0 => seen
  | k + 1 => if sets.testBit k = true ∧ me h k &&& hngI h amo sets seen k ≠ 0 then hngI h amo sets seen k ||| (me h k &&& amo) else hngI h amo sets seen k
def hng (h : pM) (amo sets seen : Nat) : Nat → Nat
  | 0 => seen
  | n + 1 => hngI h amo sets (hng h amo sets seen n) (hS h)
theorem hngI_lt (W : WF h) {amo sets seen : Nat} (hs : seen < 1024) : ∀ k, k ≤ hS h → hngI h amo sets seen k < 1024
  | 0, _ => hs
  | k + 1, hk => by
    have ih := hngI_lt W (amo := amo) (sets := sets) hs k (by omega)
    unfold hngI
    split
    · exact Nat.or_lt_two_pow (n := 10) ih (jand_lt (me_lt W (by omega)))
    · exact ih
theorem hng_lt (W : WF h) {amo sets seen : Nat} (hs : seen < 1024) : ∀ n, hng h amo sets seen n < 1024
  | 0 => hs
  | n + 1 => hngI_lt W (hng_lt W hs n) _ (Nat.le_refl _)
theorem c_hangingOn (hd : 2 ≤ d) (W : WF h) (X : XH M h) {t amo sets : Nat} (ht : t < 10) (ha : amo < 2147483648) (hsets : sets < 2147483648) : xF d 96 [.inr 9, .inl (t : Int), .inl (amo : Int), .inl (sets : Int)] M = rI (hng h amo sets (2 ^ t) (hS h)) M := by
  obtain ⟨D, rfl, hD⟩ := dsucc hd
  have w3 := W.2.2.1
  have ht2 := pow10 ht
  rw [T_House_hangingOn, jshl_one t (by omega)]
  have inner : ∀ (seen : Nat) (n : Nat), seen < 1024 → ∀ k : Nat, k ≤ hS h → xE D 96 12 [.inr 9, .inl (t : Int), .inl (amo : Int), .inl (sets : Int), .inl (seen : Int), .inl (n : Int), .inl 0] [] M = xE D 96 12 [.inr 9, .inl (t : Int), .inl (amo : Int), .inl (sets : Int), .inl (hngI h amo sets seen k : Nat), .inl (n : Int), .inl (k : Int)] [] M := by
    intro seen n hs k
    induction k with
    | zero => intro _; rfl
    | succ k ih =>
      intro hk
      have hm := me_lt W (s := k) (by omega)
      have hi := hngI_lt W (amo := amo) (sets := sets) hs k (by omega)
      rw [ih (by omega), L_House_hangingOn_12, X.2.2.1, if_neg (by rw [le32_iff] <;> omega), c_has hD hsets (by omega), pbI_rI, ite01, hngI]
      cases hb : sets.testBit k with
      | false => rw [if_neg (by simp), if_neg (by simp)]; rfl
      | true =>
        simp only [if_true]
        have hk8 : (0 : Int) ≤ (k : Int) ∧ (k : Int) < 8 := by omega
        rw [if_pos hk8, if_pos hk8, Int.toNat_natCast, X.2.2.2.2.2.2 k (by omega), jand_nat (by omega) (by omega), jand_nat (by omega) ha, jor_nat (by omega) (Nat.lt_trans (jand_lt hm) (by decide))]
        by_cases q : me h k &&& hngI h amo sets seen k = 0
        · rw [if_pos ((eq32_0 (Nat.lt_trans (jand_lt hm) (by decide))).mpr q), if_neg (by simp [q])]; rfl
        · rw [if_neg (fun z => q ((eq32_0 (Nat.lt_trans (jand_lt hm) (by decide))).mp z)), if_pos ⟨trivial, q⟩]; rfl
  have outer : ∀ n : Nat, n ≤ hS h → ∀ y : pV, ∃ y' : pV, xE D 96 6 [.inr 9, .inl (t : Int), .inl (amo : Int), .inl (sets : Int), .inl (2 ^ t : Nat), .inl 0, y] [] M = xE D 96 6 [.inr 9, .inl (t : Int), .inl (amo : Int), .inl (sets : Int), .inl (hng h amo sets (2 ^ t) n : Nat), .inl (n : Int), y'] [] M := by
    intro n
    induction n with
    | zero => intro _ y; exact ⟨y, rfl⟩
    | succ n ih =>
      intro hn y
      obtain ⟨y', e⟩ := ih (by omega) y
      refine ⟨.inl (hS h : Int), ?_⟩
      rw [e, L_House_hangingOn_6, X.2.2.1, if_neg (by rw [le32_iff] <;> omega), inner _ n (hng_lt W ht2 n) (hS h) (Nat.le_refl _), L_House_hangingOn_12, X.2.2.1, if_pos (by rw [le32_iff] <;> omega)]
      rfl
  obtain ⟨y', e⟩ := outer (hS h) (Nat.le_refl _) (.inr 0)
  rw [e, L_House_hangingOn_6, X.2.2.1, if_pos (by rw [le32_iff] <;> omega)]
/-- how many clumps some things make by some sets -/
def cbL (h : pM) (amo sets : Nat) : Nat → Nat × Nat
  | 0 => (0, amo)
  | k + 1 => if (cbL h amo sets k).2.testBit k then ((cbL h amo sets k).1 + 1, nan (cbL h amo sets k).2 (hng h amo sets (2 ^ k) (hS h))) else cbL h amo sets k
theorem cbL_le {amo sets : Nat} : ∀ k, (cbL h amo sets k).1 ≤ k ∧ (cbL h amo sets k).2 ≤ amo
  | 0 => ⟨Nat.le_refl 0, Nat.le_refl _⟩
  | k + 1 => by
    have ih := cbL_le (amo := amo) (sets := sets) k
    unfold cbL
    split
    · exact ⟨Nat.succ_le_succ ih.1, Nat.le_trans (nan_le _ _) ih.2⟩
    · exact ⟨Nat.le_succ_of_le ih.1, ih.2⟩
theorem c_clumpsBy (hd : 3 ≤ d) (W : WF h) (X : XH M h) {amo sets : Nat} (ha : amo < 2147483648) (hsets : sets < 2147483648) : xF d 97 [.inr 9, .inl (amo : Int), .inl (sets : Int)] M = rI ((cbL h amo sets (hT h)).1 : Nat) M := by
  obtain ⟨D, rfl, hD⟩ := dsucc hd
  have w2 := W.2.1
  rw [T_House_clumpsBy]
  have key : ∀ k : Nat, k ≤ hT h → xE D 97 6 [.inr 9, .inl (amo : Int), .inl (sets : Int), .inl 0, .inl (amo : Int), .inl 0] [] M = xE D 97 6 [.inr 9, .inl (amo : Int), .inl (sets : Int), .inl ((cbL h amo sets k).1 : Nat), .inl ((cbL h amo sets k).2 : Nat), .inl (k : Int)] [] M := by
    intro k
    induction k with
    | zero => intro _; rfl
    | succ k ih =>
      intro hk
      have hl := cbL_le (h := h) (amo := amo) (sets := sets) k
      have hh := hng_lt W (amo := amo) (sets := sets) (seen := 2 ^ k) (pow10 (by omega)) (hS h)
      rw [ih (by omega), L_House_clumpsBy_6, X.2.1, if_neg (by rw [le32_iff] <;> omega), c_has (by omega) (by omega) (by omega), pbI_rI, ite01, cbL]
      cases hb : (cbL h amo sets k).2.testBit k with
      | false => rw [if_neg (by simp), if_neg (by simp)]; rfl
      | true =>
        simp only [if_true]
        rw [c_hangingOn hD W X (by omega) ha hsets, pbI_rI, jxor_m1 (by omega), jand_not (by omega) (by omega)]
        rfl
  rw [key _ (Nat.le_refl _), L_House_clumpsBy_6, X.2.1, if_pos (by rw [le32_iff] <;> omega)]
end ST
