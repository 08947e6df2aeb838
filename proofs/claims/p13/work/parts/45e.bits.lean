/-! bit counts, and what is asked of the clumps (by program) -/
def bcE (a : Int) : Int := (jand (((jand (((jand (a - (jand (jushr a 1) 1431655765)) 858993459) + (jand (jushr (a - (jand (jushr a 1) 1431655765)) 2) 858993459)) + (jushr ((jand (a - (jand (jushr a 1) 1431655765)) 858993459) + (jand (jushr (a - (jand (jushr a 1) 1431655765)) 2) 858993459)) 4)) 252645135) + (jushr (jand (((jand (a - (jand (jushr a 1) 1431655765)) 858993459) + (jand (jushr (a - (jand (jushr a 1) 1431655765)) 2) 858993459)) + (jushr ((jand (a - (jand (jushr a 1) 1431655765)) 858993459) + (jand (jushr (a - (jand (jushr a 1) 1431655765)) 2) 858993459)) 4)) 252645135) 8)) + (jushr ((jand (((jand (a - (jand (jushr a 1) 1431655765)) 858993459) + (jand (jushr (a - (jand (jushr a 1) 1431655765)) 2) 858993459)) + (jushr ((jand (a - (jand (jushr a 1) 1431655765)) 858993459) + (jand (jushr (a - (jand (jushr a 1) 1431655765)) 2) 858993459)) 4)) 252645135) + (jushr (jand (((jand (a - (jand (jushr a 1) 1431655765)) 858993459) + (jand (jushr (a - (jand (jushr a 1) 1431655765)) 2) 858993459)) + (jushr ((jand (a - (jand (jushr a 1) 1431655765)) 858993459) + (jand (jushr (a - (jand (jushr a 1) 1431655765)) 2) 858993459)) 4)) 252645135) 8)) 16)) 63)
def ntE (a : Int) : Int := if lt32 0 (jand (jxor a (-1)) (a - 1)) then
 (if le32 (jand (jxor a (-1)) (a - 1)) 65536 then
 (if le32 (jand (jxor a (-1)) (a - 1)) 256 then
 (if le32 (jand (jxor a (-1)) (a - 1)) 16 then
 (if le32 (jand (jxor a (-1)) (a - 1)) 4 then
 (1 + (jushr (jand (jxor a (-1)) (a - 1)) 1))
 else
 ((1 + 2) + (jushr (jushr (jand (jxor a (-1)) (a - 1)) 2) 1)))
 else
 (if le32 (jushr (jand (jxor a (-1)) (a - 1)) 4) 4 then
 ((1 + 4) + (jushr (jushr (jand (jxor a (-1)) (a - 1)) 4) 1))
 else
 (((1 + 4) + 2) + (jushr (jushr (jushr (jand (jxor a (-1)) (a - 1)) 4) 2) 1))))
 else
 (if le32 (jushr (jand (jxor a (-1)) (a - 1)) 8) 16 then
 (if le32 (jushr (jand (jxor a (-1)) (a - 1)) 8) 4 then
 ((1 + 8) + (jushr (jushr (jand (jxor a (-1)) (a - 1)) 8) 1))
 else
 (((1 + 8) + 2) + (jushr (jushr (jushr (jand (jxor a (-1)) (a - 1)) 8) 2) 1)))
 else
 (if le32 (jushr (jushr (jand (jxor a (-1)) (a - 1)) 8) 4) 4 then
 (((1 + 8) + 4) + (jushr (jushr (jushr (jand (jxor a (-1)) (a - 1)) 8) 4) 1))
 else
 ((((1 + 8) + 4) + 2) + (jushr (jushr (jushr (jushr (jand (jxor a (-1)) (a - 1)) 8) 4) 2) 1)))))
 else
 (if le32 (jushr (jand (jxor a (-1)) (a - 1)) 16) 256 then
 (if le32 (jushr (jand (jxor a (-1)) (a - 1)) 16) 16 then
 (if le32 (jushr (jand (jxor a (-1)) (a - 1)) 16) 4 then
 ((1 + 16) + (jushr (jushr (jand (jxor a (-1)) (a - 1)) 16) 1))
 else
 (((1 + 16) + 2) + (jushr (jushr (jushr (jand (jxor a (-1)) (a - 1)) 16) 2) 1)))
 else
 (if le32 (jushr (jushr (jand (jxor a (-1)) (a - 1)) 16) 4) 4 then
 (((1 + 16) + 4) + (jushr (jushr (jushr (jand (jxor a (-1)) (a - 1)) 16) 4) 1))
 else
 ((((1 + 16) + 4) + 2) + (jushr (jushr (jushr (jushr (jand (jxor a (-1)) (a - 1)) 16) 4) 2) 1))))
 else
 (if le32 (jushr (jushr (jand (jxor a (-1)) (a - 1)) 16) 8) 16 then
 (if le32 (jushr (jushr (jand (jxor a (-1)) (a - 1)) 16) 8) 4 then
 (((1 + 16) + 8) + (jushr (jushr (jushr (jand (jxor a (-1)) (a - 1)) 16) 8) 1))
 else
 ((((1 + 16) + 8) + 2) + (jushr (jushr (jushr (jushr (jand (jxor a (-1)) (a - 1)) 16) 8) 2) 1)))
 else
 (if le32 (jushr (jushr (jushr (jand (jxor a (-1)) (a - 1)) 16) 8) 4) 4 then
 ((((1 + 16) + 8) + 4) + (jushr (jushr (jushr (jushr (jand (jxor a (-1)) (a - 1)) 16) 8) 4) 1))
 else
 (((((1 + 16) + 8) + 4) + 2) + (jushr (jushr (jushr (jushr (jushr (jand (jxor a (-1)) (a - 1)) 16) 8) 4) 2) 1))))))
 else
 (jand (jand (jxor a (-1)) (a - 1)) 32)
theorem sI_ite {p : Prop} [Decidable p] {x y : Int} {M : pM} : (if p then (some (some (.inl x), M) : Option pR) else some (some (.inl y), M)) = some (some (.inl (if p then x else y)), M) := by
  by_cases h : p
  · rw [if_pos h, if_pos h]
  · rw [if_neg h, if_neg h]
def cntTo (c : Nat → Bool) : Nat → Nat
  | 0 => 0
  | n + 1 => if c n then cntTo c n + 1 else cntTo c n
theorem cntTo_le {c : Nat → Bool} : ∀ n, cntTo c n ≤ n
  | 0 => Nat.le_refl 0
  | n + 1 => by
    have := cntTo_le (c := c) n
    unfold cntTo
    split <;> omega
/-- how many of ten bits; the lowest -/
def popc (a : Nat) : Nat := cntTo a.testBit 10
def ntz (a : Nat) : Int := if a = 0 then 32 else firstN a.testBit 0 10
set_option maxRecDepth 100000 in
theorem bc_dec : ((List.range 1024).all fun a => bcE (a : Int) == (popc a : Int)) = true := by decide +kernel
set_option maxRecDepth 100000 in
theorem nt_dec : ((List.range 1024).all fun a => ntE (a : Int) == ntz a) = true := by decide +kernel
theorem j_bitCount {d : Nat} (hd : 1 ≤ d) {a : Nat} (ha : a < 1024) {M : pM} : xF d 270 [.inl (a : Int)] M = rI (popc a : Nat) M := by
  obtain ⟨D, rfl, -⟩ := dsucc hd
  have h := beq_iff_eq.mp (List.all_eq_true.mp bc_dec a (List.mem_range.mpr ha))
  rw [T_I_bitCount]
  have e : xF (D + 1) 270 [.inl (a : Int)] M = rI (bcE (a : Int)) M := T_I_bitCount D (a : Int) M
  rw [h] at e
  rw [← e, T_I_bitCount]
theorem j_ntz {d : Nat} (hd : 1 ≤ d) {a : Nat} (ha : a < 1024) {M : pM} : xF d 271 [.inl (a : Int)] M = rI (ntz a) M := by
  obtain ⟨D, rfl, -⟩ := dsucc hd
  have h := beq_iff_eq.mp (List.all_eq_true.mp nt_dec a (List.mem_range.mpr ha))
  rw [T_I_numberOfTrailingZeros]
  simp only [sI_ite]
  unfold ntE at h
  rw [h]
theorem popc_le (a : Nat) : popc a ≤ 10 := cntTo_le 10
theorem ntz_range {a : Nat} (ha : a < 1024) : 0 ≤ ntz a ∧ ntz a ≤ 32 := by
  unfold ntz
  by_cases q : a = 0
  · rw [if_pos q]; exact ⟨by decide, by decide⟩
  · rw [if_neg q]
    rcases firstN_spec a.testBit 10 0 with ⟨-, h2⟩ | ⟨j, h1, -, h3, -⟩
    · refine absurd (Nat.eq_of_testBit_eq fun i => ?_) q
      rw [Nat.zero_testBit]
      rcases Nat.lt_or_ge i 10 with y | y
      · exact h2 i (Nat.zero_le i) (by omega)
      · exact Nat.testBit_lt_two_pow (Nat.lt_of_lt_of_le ha (pow_le_of (k := 10) y))
    · rw [h1]; omega
