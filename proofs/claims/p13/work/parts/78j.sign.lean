/-! a sign is the same on both sides, seen without its sign bit -/
theorem sg_and (v : Int32) : (v &&& 255).toInt = v.toInt % 256 := by
  have h1 : (v &&& 255).toBitVec.toNat = v.toBitVec.toNat % 256 := by
    rw [Int32.toBitVec_and, BitVec.toNat_and]
    show v.toBitVec.toNat &&& 255 = _
    rw [show (255 : Nat) = 2 ^ 8 - 1 from rfl, Nat.and_two_pow_sub_one_eq_mod]
  have h2 : (v &&& 255).toInt = ((v &&& 255).toBitVec.toNat : Int) := by
    show (v &&& 255).toBitVec.toInt = _
    rw [BitVec.toInt_eq_toNat_of_lt (by rw [h1]; omega)]
  have h3 : v.toInt = if 2 * v.toBitVec.toNat < 2 ^ 32 then (v.toBitVec.toNat : Int) else (v.toBitVec.toNat : Int) - (2 ^ 32 : Nat) := BitVec.toInt_eq_toNat_cond v.toBitVec
  rw [h2, h1, h3]
  split <;> omega
theorem sg_8 (v : Int32) : ux v.toInt8.toInt32.toInt = v.toInt % 256 := by
  have h : v.toInt8.toInt32.toInt = v.toInt.bmod 256 := by
    rw [Int8.toInt_toInt32, Int32.toInt_toInt8]
  rw [h]
  unfold ux
  have := Int.bmod_def v.toInt 256
  split <;> omega
theorem sg_n (x : Int32) : x.toInt = if 2 * x.toBitVec.toNat < 2 ^ 32 then (x.toBitVec.toNat : Int) else (x.toBitVec.toNat : Int) - (2 ^ 32 : Nat) := BitVec.toInt_eq_toNat_cond x.toBitVec
theorem sg_shr (x : Int32) (n : Nat) (y : Int32) (hy : y.toBitVec.smod 32 = BitVec.ofNat 32 n) (hn : n < 32) : (x >>> y).toInt = x.toInt / (2 ^ n : Nat) := by
  show (BitVec.sshiftRight' x.toBitVec (y.toBitVec.smod 32)).toInt = _
  rw [hy]
  unfold BitVec.sshiftRight'
  rw [BitVec.toInt_sshiftRight, Int.shiftRight_eq_div_pow, BitVec.toNat_ofNat, Nat.mod_eq_of_lt (by omega)]
  rfl
theorem sg_ush (x : Int32) (n : Nat) (y : UInt32) (hy : y.toNat % 32 = n) : ((x.toUInt32 >>> y).toInt32).toInt % 256 = ((x.toBitVec.toNat / 2 ^ n : Nat) : Int) % 256 := by
  have h1 : ((x.toUInt32 >>> y).toInt32).toBitVec.toNat = x.toBitVec.toNat / 2 ^ n := by
    show (x.toUInt32 >>> y).toNat = _
    rw [UInt32.toNat_shiftRight, hy, Nat.shiftRight_eq_div_pow]
    rfl
  rw [sg_n, h1]
  split <;> omega
theorem sg_jb (z : Int) : ux (jb (jb z)) = (iI z).toInt % 256 := by
  have h1 : ux (jb (jb z)) = (iI (jb z)).toInt % 256 := sg_8 (iI (jb z))
  have h2 : iI (jb z) = (iI z).toInt8.toInt32 := Int32.ofInt_toInt _
  have h3 : (iI z).toInt8.toInt32.toInt = (iI z).toInt.bmod 256 := by
    rw [Int8.toInt_toInt32, Int32.toInt_toInt8]
  rw [h1, h2, h3]
  have := Int.bmod_def (iI z).toInt 256
  split at this <;> omega
theorem sg_one (b : Int) (k n : Nat) (hX : ((iI (24 + -8 * (k : Int))).toUInt32 &&& Int32.toUInt32 31).toNat % 32 = n) (hM : (iI (8 * (3 + -1 * (k : Int))) &&& 31).toBitVec.smod 32 = BitVec.ofNat 32 n) (hn : n = 0 ∨ n = 8 ∨ n = 16 ∨ n = 24) : sgX b k = ux (sgM b k) := by
  have l : sgX b k = ((iI (jushr b (24 + -8 * (k : Int)))) &&& 255).toInt := rfl
  have l2 : iI (jushr b (24 + -8 * (k : Int))) = ((iI b).toUInt32 >>> ((iI (24 + -8 * (k : Int))).toUInt32 &&& Int32.toUInt32 31)).toInt32 := iI_b32 _ _ _
  have r : ux (sgM b k) = (iI (jshr b (8 * (3 + -1 * (k : Int))))).toInt % 256 := sg_jb _
  have r2 : iI (jshr b (8 * (3 + -1 * (k : Int)))) = (iI b) >>> (iI (8 * (3 + -1 * (k : Int))) &&& 31) := iI_b32 _ _ _
  rw [l, l2, sg_and, sg_ush _ n _ hX, r, r2, sg_shr _ n _ hM (by omega), sg_n (iI b)]
  have hN := (iI b).toBitVec.isLt
  rcases hn with rfl | rfl | rfl | rfl <;> split <;> omega
theorem sg_ux (b : Int) (k : Nat) (hk : k < 4) : sgX b k = ux (sgM b k) := by
  match k, hk with
  | 0, _ => exact sg_one b 0 24 (by decide +kernel) (by decide +kernel) (by decide)
  | 1, _ => exact sg_one b 1 16 (by decide +kernel) (by decide +kernel) (by decide)
  | 2, _ => exact sg_one b 2 8 (by decide +kernel) (by decide +kernel) (by decide)
  | 3, _ => exact sg_one b 3 0 (by decide +kernel) (by decide +kernel) (by decide)
