/-! bit counts, and what is asked of the clumps (by program) -/
def bcE (a : Int) : Int := (jand (((jand (((jand (a - (jand (jushr a 1) 1431655765)) 858993459) + (jand (jushr (a - (jand (jushr a 1) 1431655765)) 2) 858993459)) + (jushr ((jand (a - (jand (jushr a 1) 1431655765)) 858993459) + (jand (jushr (a - (jand (jushr a 1) 1431655765)) 2) 858993459)) 4)) 252645135) + (jushr (jand (((jand (a - (jand (jushr a 1) 1431655765)) 858993459) + (jand (jushr (a - (jand (jushr a 1) 1431655765)) 2) 858993459)) + (jushr ((jand (a - (jand (jushr a 1) 1431655765)) 858993459) + (jand (jushr (a - (jand (jushr a 1) 1431655765)) 2) 858993459)) 4)) 252645135) 8)) + (jushr ((jand (((jand (a - (jand (jushr a 1) 1431655765)) 858993459) + (jand (jushr (a - (jand (jushr a 1) 1431655765)) 2) 858993459)) + (jushr ((jand (a - (jand (jushr a 1) 1431655765)) 858993459) + (jand (jushr (a - (jand (jushr a 1) 1431655765)) 2) 858993459)) 4)) 252645135) + (jushr (jand (((jand (a - (jand (jushr a 1) 1431655765)) 858993459) + (jand (jushr (a - (jand (jushr a 1) 1431655765)) 2) 858993459)) + (jushr ((jand (a - (jand (jushr a 1) 1431655765)) 858993459) + (jand (jushr (a - (jand (jushr a 1) 1431655765)) 2) 858993459)) 4)) 252645135) 8)) 16)) 63)
def ntE (a : Int) : Int := if lt32 0 (jand (jxor a (-1)) (a - 1)) then
 (if le32 (jand (jxor a (-1)) (a - 1)) 65536 then
 (if le32 (jand (jxor a (-1)) (a - 1)) 256 then
 (if le32 (jand (jxor a (-1)) (a - 1)) 16 then
 (if le32 (jand (jxor a (-1)) (a - 1)) 4 then
 (1 + (jushr (jand (jxor a (-1)) (a - 1)) 1))
 else
 ((1 + 2) + (jushr (jushr (jand (jxor a (-1)) (a - 1)) 2) 1)))
 else
 (if le32 (jushr (jand (jxor a (-1)) (a - 1)) 4) 4 then
 ((1 + 4) + (jushr (jushr (jand (jxor a (-1)) (a - 1)) 4) 1))
 else
 (((1 + 4) + 2) + (jushr (jushr (jushr (jand (jxor a (-1)) (a - 1)) 4) 2) 1))))
 else
 (if le32 (jushr (jand (jxor a (-1)) (a - 1)) 8) 16 then
 (if le32 (jushr (jand (jxor a (-1)) (a - 1)) 8) 4 then
 ((1 + 8) + (jushr (jushr (jand (jxor a (-1)) (a - 1)) 8) 1))
 else
 (((1 + 8) + 2) + (jushr (jushr (jushr (jand (jxor a (-1)) (a - 1)) 8) 2) 1)))
 else
 (if le32 (jushr (jushr (jand (jxor a (-1)) (a - 1)) 8) 4) 4 then
 (((1 + 8) + 4) + (jushr (jushr (jushr (jand (jxor a (-1)) (a - 1)) 8) 4) 1))
 else
 ((((1 + 8) + 4) + 2) + (jushr (jushr (jushr (jushr (jand (jxor a (-1)) (a - 1)) 8) 4) 2) 1)))))
 else
 (if le32 (jushr (jand (jxor a (-1)) (a - 1)) 16) 256 then
 (if le32 (jushr (jand (jxor a (-1)) (a - 1)) 16) 16 then
 (if le32 (jushr (jand (jxor a (-1)) (a - 1)) 16) 4 then
 ((1 + 16) + (jushr (jushr (jand (jxor a (-1)) (a - 1)) 16) 1))
 else
 (((1 + 16) + 2) + (jushr (jushr (jushr (jand (jxor a (-1)) (a - 1)) 16) 2) 1)))
 else
 (if le32 (jushr (jushr (jand (jxor a (-1)) (a - 1)) 16) 4) 4 then
 (((1 + 16) + 4) + (jushr (jushr (jushr (jand (jxor a (-1)) (a - 1)) 16) 4) 1))
 else
 ((((1 + 16) + 4) + 2) + (jushr (jushr (jushr (jushr (jand (jxor a (-1)) (a - 1)) 16) 4) 2) 1))))
 else
 (if le32 (jushr (jushr (jand (jxor a (-1)) (a - 1)) 16) 8) 16 then
 (if le32 (jushr (jushr (jand (jxor a (-1)) (a - 1)) 16) 8) 4 then
 (((1 + 16) + 8) + (jushr (jushr (jushr (jand (jxor a (-1)) (a - 1)) 16) 8) 1))
 else
 ((((1 + 16) + 8) + 2) + (jushr (jushr (jushr (jushr (jand (jxor a (-1)) (a - 1)) 16) 8) 2) 1)))
 else
 (if le32 (jushr (jushr (jushr (jand (jxor a (-1)) (a - 1)) 16) 8) 4) 4 then
 ((((1 + 16) + 8) + 4) + (jushr (jushr (jushr (jushr (jand (jxor a (-1)) (a - 1)) 16) 8) 4) 1))
 else
 (((((1 + 16) + 8) + 4) + 2) + (jushr (jushr (jushr (jushr (jushr (jand (jxor a (-1)) (a - 1)) 16) 8) 4) 2) 1))))))
 else
 (jand (jand (jxor a (-1)) (a - 1)) 32)
theorem sI_ite {p : Prop} [Decidable p] {x y : Int} {M : pM} : (if p then (some (some (.inl x), M) : Option pR) else some (some (.inl y), M)) = some (some (.inl (if p then x else y)), M) := by
  by_cases h : p
  · rw [if_pos h, if_pos h]
  · rw [if_neg h, if_neg h]
def cntTo (c : Nat → Bool) : Nat → Nat
  | 0 => 0
  | n + 1 => if c n then cntTo c n + 1 else cntTo c n
theorem cntTo_le {c : Nat → Bool} : ∀ n, cntTo c n ≤ n
  | 0 => Nat.le_refl 0
  | n + 1 => by
    have := cntTo_le (c := c) n
    unfold cntTo
    split <;> omega
/-- how many of ten bits; the lowest -/
def popc (a : Nat) : Nat := cntTo a.testBit 10
def ntz (a : Nat) : Int := if a = 0 then 32 else firstN a.testBit 0 10
set_option maxRecDepth 100000 in
theorem bc_dec : ((List.range 1024).all fun a => bcE (a : Int) == (popc a : Int)) = true := by decide +kernel
set_option maxRecDepth 100000 in
theorem nt_dec : ((List.range 1024).all fun a => ntE (a : Int) == ntz a) = true := by decide +kernel
theorem j_bitCount {d : Nat} (hd : 1 ≤ d) {a : Nat} (ha : a < 1024) {M : pM} : xF d 270 [.inl (a : Int)] M = rI (popc a : Nat) M := by
  obtain ⟨D, rfl, -⟩ := dsucc hd
  have h := beq_iff_eq.mp (List.all_eq_true.mp bc_dec a (List.mem_range.mpr ha))
  rw [T_I_bitCount]
  have e : xF (D + 1) 270 [.inl (a : Int)] M = rI (bcE (a : Int)) M := T_I_bitCount D (a : Int) M
  rw [h] at e
  rw [← e, T_I_bitCount]
theorem j_ntz {d : Nat} (hd : 1 ≤ d) {a : Nat} (ha : a < 1024) {M : pM} : xF d 271 [.inl (a : Int)] M = rI (ntz a) M := by
  obtain ⟨D, rfl, -⟩ := dsucc hd
  have h := beq_iff_eq.mp (List.all_eq_true.mp nt_dec a (List.mem_range.mpr ha))
  rw [T_I_numberOfTrailingZeros]
  simp only [sI_ite]
  unfold ntE at h
  rw [h]
theorem popc_le (a : Nat) : popc a ≤ 10 := cntTo_le 10
theorem ntz_range {a : Nat} (ha : a < 1024) : 0 ≤ ntz a ∧ ntz a ≤ 32 := by
  unfold ntz
  by_cases q : a = 0
  · rw [if_pos q]; exact ⟨by decide, by decide⟩
  · rw [if_neg q]
    rcases firstN_spec a.testBit 10 0 with ⟨-, h2⟩ | ⟨j, h1, -, h3, -⟩
    · refine absurd (Nat.eq_of_testBit_eq fun i => ?_) q
      rw [Nat.zero_testBit]
      rcases Nat.lt_or_ge i 10 with y | y
      · exact h2 i (Nat.zero_le i) (by omega)
      · exact Nat.testBit_lt_two_pow (Nat.lt_of_lt_of_le ha (pow_le_of (k := 10) y))
    · rw [h1]; omega
section CK
variable {h M : pM} {d : Nat}
/-- rooms that are big enough -/
def rFor (h : pM) (v : Int) : Nat := bitsOf (fun r => decide (v ≤ h 1 r)) (hR h)
theorem c_roomsFor (hd : 1 ≤ d) (W : WF h) (X : XH M h) {v : Int} (h1 : -2147483648 ≤ v) (h2 : v < 2147483648) : xF d 103 [.inr 9, .inl v] M = rI (rFor h v : Nat) M := by
  obtain ⟨D, rfl, hD⟩ := dsucc hd
  have w1 := W.1
  rw [T_House_roomsFor]
  have key := bits_loop (fun b k => xE D 103 4 [.inr 9, .inl v, .inl b, .inl k] [] M) (hR h) (fun r => decide (v ≤ h 1 r)) (fun k b hk hb => by
    have hv := W.2.2.2.1 k hk
    rw [L_House_roomsFor_4, X.1, if_neg (by rw [le32_iff] <;> omega), if_pos (by omega), Int.toNat_natCast, X.2.2.2.1 k hk]
    simp (disch := omega) only [lt32_iff]
    by_cases q : h 1 k < v
    · rw [if_pos q, if_neg (by simp; omega)]
    · rw [if_neg q, if_pos (by simp; omega), jor_shl hb (by omega)])
  rw [key, L_House_roomsFor_4, X.1, if_pos (by rw [le32_iff] <;> omega)]
  rfl
theorem nxt_lt6 (W : WF h) (w : Int) (a : Nat) : nxt h w a < 1024 := Nat.lt_of_lt_of_le (bitsOf_lt _ _) (Nat.le_trans (pow_le_of W.1) (by decide))
/-- doors -/
def drs (h : pM) : Int := sumTo (fun a => (popc (nxt h 1 a) : Int)) (hR h)
theorem c_doors (hd : 5 ≤ d) (W : WF h) (X : XH M h) : xF d 75 [.inr 9] M = rI (drs h / 2) M := by
  obtain ⟨D, rfl, hD⟩ := dsucc hd
  have w1 := W.1
  rw [T_House_doors]
  have key := sum_loop (fun s k => xE D 75 4 [.inr 9, .inl s, .inl k] [] M) (hR h) (fun a => (popc (nxt h 1 a) : Int)) (fun k s hk => by
    rw [L_House_doors_4, X.1, if_neg (by rw [le32_iff] <;> omega), c_nextTo hD W X (by omega) (by decide) (by decide), pbI_rI, j_bitCount (by omega) (nxt_lt6 W 1 k), pbI_rI])
  have hs := sumTo_range (f := fun a => (popc (nxt h 1 a) : Int)) (lo := 0) (hi := 10) (n := hR h) (fun i _ => ⟨by omega, by have := popc_le (nxt h 1 i); omega⟩)
  rw [key, L_House_doors_4, X.1, if_pos (by rw [le32_iff] <;> omega)]
  have e : jdiv (sumTo (fun a => (popc (nxt h 1 a) : Int)) (hR h)) 2 = drs h / 2 := by
    obtain ⟨n, hn⟩ := Int.eq_ofNat_of_zero_le (a := sumTo (fun a => (popc (nxt h 1 a) : Int)) (hR h)) (by omega)
    unfold drs
    rw [hn]
    exact jdiv_nat (by omega) (by decide) (by decide)
  rw [e]
/-- the first room next to a from which it is n steps -/
def fNr (h : pM) (w : Int) (a b : Nat) (n : Int) : Int := firstN (fun r => decide (w ≤ h 2 (6 * a + r)) && decide (stp h w r b = n)) 0 (hR h)
theorem c_firstNearer (hd : 4 ≤ d) (W : WF h) (X : XH M h) {a b : Nat} (ha : a < hR h) (hb : b < hR h) {w n : Int} (hw1 : 0 ≤ w) (hw2 : w ≤ 9) (hn1 : -2147483648 ≤ n) (hn2 : n < 2147483648) : xF d 81 [.inr 9, .inl w, .inl (a : Int), .inl (b : Int), .inl n] M = rI (fNr h w a b n) M := by
  obtain ⟨D, rfl, hD⟩ := dsucc hd
  have w1 := W.1
  rw [T_House_firstNearer]
  have key : ∀ m k : Nat, k + m = hR h → xE D 81 2 [.inr 9, .inl w, .inl (a : Int), .inl (b : Int), .inl n, .inl (k : Int)] [] M = rI (firstN (fun r => decide (w ≤ h 2 (6 * a + r)) && decide (stp h w r b = n)) k m) M := by
    intro m
    induction m with
    | zero =>
      intro k hk
      rw [L_House_firstNearer_2, X.1, if_pos (by rw [le32_iff] <;> omega)]
      rfl
    | succ m ih =>
      intro k hk
      have hv := W.2.2.2.2.1 (6 * a + k) (by omega)
      have hst := stp_range W w k b
      rw [L_House_firstNearer_2, X.1, if_neg (by rw [le32_iff] <;> omega), c_doorWidth7n (by omega) W X (by omega) (by omega), pbI_rI, firstN]
      by_cases q : h 2 (6 * a + k) < w
      · rw [if_pos (by rw [lt32_iff] <;> omega), if_neg (by simp; omega)]
        exact ih (k + 1) (by omega)
      · rw [if_neg (by rw [lt32_iff] <;> omega), c_steps (by omega) W X (by omega) hb hw1 hw2, pbI_rI]
        by_cases q2 : stp h w k b = n
        · rw [if_neg (fun z => z (by rw [eq32_iff] <;> omega)), if_pos (by simp; omega)]
        · rw [if_pos (by rw [eq32_iff] <;> omega), if_neg (by simp; omega)]
          exact ih (k + 1) (by omega)
  exact key _ 0 (by omega)
end CK

