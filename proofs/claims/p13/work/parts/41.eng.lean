/-! numbers of the interval machine -/
theorem iv_id {z : Int} (h1 : -2147483648 ≤ z) (h2 : z ≤ 2147483647) : (iI z).toInt = z := by
  show (Int32.ofInt z).toInt = z
  rw [Int32.toInt_ofInt, show Int32.size = 4294967296 from rfl]
  exact Int.bmod_eq_of_le (by omega) (by omega)
theorem iv_lt {x y : Int} (h1 : -2147483648 ≤ x) (h2 : x ≤ 2147483647) (h3 : -2147483648 ≤ y) (h4 : y ≤ 2147483647) : lt32 x y ↔ x < y := by
  show iI x < iI y ↔ x < y
  rw [Int32.lt_iff_toInt_lt, iv_id h1 h2, iv_id h3 h4]
theorem iv_le {x y : Int} (h1 : -2147483648 ≤ x) (h2 : x ≤ 2147483647) (h3 : -2147483648 ≤ y) (h4 : y ≤ 2147483647) : le32 x y ↔ x ≤ y := by
  show iI x ≤ iI y ↔ x ≤ y
  rw [Int32.le_iff_toInt_le, iv_id h1 h2, iv_id h3 h4]
theorem iv_eq {x y : Int} (h1 : -2147483648 ≤ x) (h2 : x ≤ 2147483647) (h3 : -2147483648 ≤ y) (h4 : y ≤ 2147483647) : eq32 x y ↔ x = y := by
  show iI x = iI y ↔ x = y
  rw [← Int32.toInt_inj, iv_id h1 h2, iv_id h3 h4]
theorem iv_can (x : Int32) : -2147483648 ≤ x.toInt ∧ x.toInt ≤ 2147483647 := ⟨x.le_toInt, by have := x.toInt_lt; omega⟩
theorem iv_b32 (f : Int32 → Int32 → Int32) (x y : Int) : -2147483648 ≤ b32 f x y ∧ b32 f x y ≤ 2147483647 := iv_can _
theorem aT_ok {z : Int} (h : -2147483648 ≤ z ∧ z ≤ 2147483647) : gR eT z := Or.inl ⟨rfl, h⟩
def cmp (c : Nat) (x y : Int) : Prop := match c with
  | 0 => eq32 x y
  | 1 => ¬ eq32 x y
  | 2 => lt32 x y
  | 3 => le32 x y
  | 4 => lt32 y x
  | 5 => le32 y x
  | _ => False
def cng (c : Nat) : Nat := match c with
  | 0 => 1
  | 1 => 0
  | 2 => 5
  | 3 => 4
  | 4 => 3
  | 5 => 2
  | _ => 6
def aR (lo hi : Int) : aV := (0, lo, hi, 0, 0, 0)
def aNz : aV := (2, 0, 0, 0, 0, 0)
def rLt (x y : aV) (d : Int) : Option (aV × aV) :=
  let h := min x.2.2.1 (y.2.2.1 - d); let l := max y.2.1 (x.2.1 + d)
  bif decide (x.2.1 ≤ h) && decide (l ≤ y.2.2.1) then some (aR x.2.1 h, aR l y.2.2.1) else none
def rNe (x y : aV) : Option aV := bif decide (y.2.1 = y.2.2.1) then
  (bif decide (x.2.1 = y.2.1) then (bif decide (x.2.1 + 1 ≤ x.2.2.1) then some (aR (x.2.1 + 1) x.2.2.1) else none)
   else bif decide (x.2.2.1 = y.2.1) then (bif decide (x.2.1 ≤ x.2.2.1 - 1) then some (aR x.2.1 (x.2.2.1 - 1)) else none) else some (aR x.2.1 x.2.2.1)) else some (aR x.2.1 x.2.2.1)
def a0 (y : aV) : Bool := Nat.beq y.1 0 && decide (y.2.1 = 0) && decide (y.2.2.1 = 0)
def rfn (c : Nat) (x y : aV) : Option (aV × aV) := bif aIn x && aIn y then (match c with
    | 0 => let l := max x.2.1 y.2.1; let h := min x.2.2.1 y.2.2.1; bif decide (l ≤ h) then some (aR l h, aR l h) else none
    | 1 => match rNe x y, rNe y x with
      | some x', some y' => some (x', y')
      | _, _ => none
    | 2 => rLt x y 1
    | 3 => rLt x y 0
    | 4 => (rLt y x 1).map fun q => (q.2, q.1)
    | 5 => (rLt y x 0).map fun q => (q.2, q.1)
    | _ => none)
  else (match c with
    | 0 => bif Nat.beq x.1 2 && a0 y then none else some (x, y)
    | 1 => bif a0 y then some (aNz, y) else some (x, y)
    | 6 => none
    | _ => some (x, y))
theorem aR_ok {l h z : Int} (h1 : l ≤ z) (h2 : z ≤ h) : gR (aR l h) z := Or.inl ⟨rfl, h1, h2⟩
theorem rLt_ok {x y : aV} {zx zy d : Int} (hx : x.2.1 ≤ zx ∧ zx ≤ x.2.2.1) (hy : y.2.1 ≤ zy ∧ zy ≤ y.2.2.1) (h : zx + d ≤ zy) : ∃ x' y', rLt x y d = some (x', y') ∧ gR x' zx ∧ gR y' zy := by
  unfold rLt
  have h1 : x.2.1 ≤ min x.2.2.1 (y.2.2.1 - d) := by omega
  have h2 : max y.2.1 (x.2.1 + d) ≤ y.2.2.1 := by omega
  simp only [decide_eq_true h1, decide_eq_true h2, Bool.and_self, cond_true]
  exact ⟨_, _, rfl, aR_ok (by omega) (by omega), aR_ok (by omega) (by omega)⟩
theorem rNe_ok {x y : aV} {zx zy : Int} (hx : x.2.1 ≤ zx ∧ zx ≤ x.2.2.1) (hy : y.2.1 ≤ zy ∧ zy ≤ y.2.2.1) (h : zx ≠ zy) : ∃ x', rNe x y = some x' ∧ gR x' zx := by
  unfold rNe
  by_cases q : y.2.1 = y.2.2.1
  · rw [decide_eq_true q, cond_true]
    by_cases q1 : x.2.1 = y.2.1
    · rw [decide_eq_true q1, cond_true, decide_eq_true (show x.2.1 + 1 ≤ x.2.2.1 by omega), cond_true]
      exact ⟨_, rfl, aR_ok (by omega) (by omega)⟩
    · rw [decide_eq_false q1, cond_false]
      by_cases q2 : x.2.2.1 = y.2.1
      · rw [decide_eq_true q2, cond_true, decide_eq_true (show x.2.1 ≤ x.2.2.1 - 1 by omega), cond_true]
        exact ⟨_, rfl, aR_ok (by omega) (by omega)⟩
      · rw [decide_eq_false q2, cond_false]
        exact ⟨_, rfl, aR_ok (by omega) (by omega)⟩
  · rw [decide_eq_false q, cond_false]
    exact ⟨_, rfl, aR_ok (by omega) (by omega)⟩
theorem a0_ok {y : aV} {z : Int} (h : a0 y = true) (g : gR y z) : z = 0 := by
  unfold a0 at h
  simp only [Bool.and_eq_true, decide_eq_true_eq] at h
  have h0 : y.1 = 0 := Nat.eq_of_beq_eq_true h.1.1
  rcases g with g | g | g <;> omega
theorem rfn_ok {c : Nat} {x y : aV} {zx zy : Int} (hx : gR x zx) (hy : gR y zy) (h : cmp c zx zy) : ∃ x' y', rfn c x y = some (x', y') ∧ gR x' zx ∧ gR y' zy := by
  unfold rfn
  cases hb : (aIn x && aIn y) with
  | true =>
    rw [Bool.and_eq_true] at hb
    have qx := gR_in hb.1 hx
    have qy := gR_in hb.2 hy
    rw [cond_true]
    unfold cmp at h
    split at h
    · rw [iv_eq (by omega) (by omega) (by omega) (by omega)] at h
      have q : max x.2.1 y.2.1 ≤ min x.2.2.1 y.2.2.1 := by omega
      simp only [decide_eq_true q, cond_true]
      exact ⟨_, _, rfl, aR_ok (by omega) (by omega), aR_ok (by omega) (by omega)⟩
    · rw [iv_eq (by omega) (by omega) (by omega) (by omega)] at h
      obtain ⟨x', e1, g1⟩ := rNe_ok qx.2 qy.2 h
      obtain ⟨y', e2, g2⟩ := rNe_ok qy.2 qx.2 (fun e => h e.symm)
      simp only [e1, e2]
      exact ⟨_, _, rfl, g1, g2⟩
    · rw [iv_lt (by omega) (by omega) (by omega) (by omega)] at h
      exact rLt_ok qx.2 qy.2 (by omega)
    · rw [iv_le (by omega) (by omega) (by omega) (by omega)] at h
      exact rLt_ok qx.2 qy.2 (by omega)
    · rw [iv_lt (by omega) (by omega) (by omega) (by omega)] at h
      obtain ⟨x', y', e, g1, g2⟩ := rLt_ok (d := 1) qy.2 qx.2 (by omega)
      exact ⟨y', x', by simp only [e, Option.map_some], g2, g1⟩
    · rw [iv_le (by omega) (by omega) (by omega) (by omega)] at h
      obtain ⟨x', y', e, g1, g2⟩ := rLt_ok (d := 0) qy.2 qx.2 (by omega)
      exact ⟨y', x', by simp only [e, Option.map_some], g2, g1⟩
    · exact h.elim
  | false =>
    rw [cond_false]
    unfold cmp at h
    split at h
    · cases h2 : (Nat.beq x.1 2 && a0 y) with
      | true =>
        exfalso
        rw [Bool.and_eq_true] at h2
        have e := a0_ok h2.2 hy
        have e2 : x.1 = 2 := Nat.eq_of_beq_eq_true h2.1
        subst e
        rcases hx with g | g | g
        · omega
        · omega
        · exact g.2 h
      | false => exact ⟨x, y, rfl, hx, hy⟩
    · cases h2 : a0 y with
      | true =>
        have e := a0_ok h2 hy
        subst e
        exact ⟨_, _, rfl, Or.inr (Or.inr ⟨rfl, h⟩), hy⟩
      | false => exact ⟨x, y, rfl, hx, hy⟩
    · exact ⟨x, y, rfl, hx, hy⟩
    · exact ⟨x, y, rfl, hx, hy⟩
    · exact ⟨x, y, rfl, hx, hy⟩
    · exact ⟨x, y, rfl, hx, hy⟩
    · exact h.elim
theorem cng_ok {c : Nat} (hc : c < 6) {x y : Int} (h : ¬ cmp c x y) : cmp (cng c) x y := by
  have t1 : ∀ a b : Int, ¬ lt32 a b → le32 b a := fun a b q => Int32.le_iff_toInt_le.mpr (by
    have : ¬ (iI a).toInt < (iI b).toInt := fun w => q (Int32.lt_iff_toInt_lt.mpr w)
    omega)
  have t2 : ∀ a b : Int, ¬ le32 a b → lt32 b a := fun a b q => Int32.lt_iff_toInt_lt.mpr (by
    have : ¬ (iI a).toInt ≤ (iI b).toInt := fun w => q (Int32.le_iff_toInt_le.mpr w)
    omega)
  match c, hc with
  | 0, _ => exact h
  | 1, _ => exact Classical.byContradiction fun q => h q
  | 2, _ => exact t1 _ _ h
  | 3, _ => exact t2 _ _ h
  | 4, _ => exact t1 _ _ h
  | 5, _ => exact t2 _ _ h
/-! what two numbers make -/
def aSy (a : aV) (s : Nat) (d : Int) : aV := (a.1, a.2.1, a.2.2.1, s, d, 0)
def aOne : aV := (1, 0, 0, 0, 0, 0)
def k00 (x y : aV) : Bool := Nat.beq x.1 0 && Nat.beq y.1 0
def aAdd (x y : aV) : aV := bif k00 x y then
    (let r := aR (x.2.1 + y.2.1) (x.2.2.1 + y.2.2.1)
     bif decide (y.2.1 = y.2.2.1) then aSy r x.2.2.2.1 (x.2.2.2.2.1 + y.2.1) else r)
  else aOne
def aSub (x y : aV) : aV := bif k00 x y then
    (let r := aR (x.2.1 - y.2.2.1) (x.2.2.1 - y.2.1)
     bif decide (y.2.1 = y.2.2.1) then aSy r x.2.2.2.1 (x.2.2.2.2.1 - y.2.1) else r)
  else aOne
def mulC (x : aV) (c : Int) : aV := bif decide (0 ≤ c) then aR (x.2.1 * c) (x.2.2.1 * c) else aR (x.2.2.1 * c) (x.2.1 * c)
def aMul (x y : aV) : aV := bif k00 x y then
    (bif decide (y.2.1 = y.2.2.1) then mulC x y.2.1 else bif decide (x.2.1 = x.2.2.1) then mulC y x.2.1
     else bif decide (0 ≤ x.2.1) && decide (0 ≤ y.2.1) then aR (x.2.1 * y.2.1) (x.2.2.1 * y.2.2.1) else aOne)
  else aOne
def nnI (a : aV) : Bool := aIn a && decide (0 ≤ a.2.1)
def aAnd (x y : aV) : aV := bif nnI x then (bif nnI y then aR 0 (min x.2.2.1 y.2.2.1) else aR 0 x.2.2.1) else bif nnI y then aR 0 y.2.2.1 else eT
def aOr (x y : aV) : aV := bif nnI x && nnI y then aR 0 ((2 ^ (Nat.log2 (max x.2.2.1 y.2.2.1).toNat + 1) : Nat) - 1 : Int) else eT
def aShl (x y : aV) : aV := bif nnI x && nnI y && decide (y.2.2.1 ≤ 30) && decide (x.2.2.1 * (2 ^ y.2.2.1.toNat : Nat) ≤ 2147483647) then aR x.2.1 (x.2.2.1 * (2 ^ y.2.2.1.toNat : Nat)) else eT
def aShr (x y : aV) : aV := bif nnI x && nnI y && decide (y.2.2.1 ≤ 31) then aR 0 (x.2.2.1.toNat >>> y.2.1.toNat : Nat) else eT
theorem mulC_ok {x : aV} {c z : Int} (h : x.2.1 ≤ z ∧ z ≤ x.2.2.1) : gR (mulC x c) (z * c) := by
  unfold mulC
  by_cases q : 0 ≤ c
  · rw [decide_eq_true q, cond_true]
    exact aR_ok (Int.mul_le_mul_of_nonneg_right h.1 q) (Int.mul_le_mul_of_nonneg_right h.2 q)
  · rw [decide_eq_false q, cond_false]
    exact aR_ok (Int.mul_le_mul_of_nonpos_right h.2 (by omega)) (Int.mul_le_mul_of_nonpos_right h.1 (by omega))
theorem k00_ok {x y : aV} {zx zy : Int} (h : k00 x y = true) (hx : gR x zx) (hy : gR y zy) : (x.2.1 ≤ zx ∧ zx ≤ x.2.2.1) ∧ y.2.1 ≤ zy ∧ zy ≤ y.2.2.1 := by
  unfold k00 at h
  rw [Bool.and_eq_true] at h
  have h1 : x.1 = 0 := Nat.eq_of_beq_eq_true h.1
  have h2 : y.1 = 0 := Nat.eq_of_beq_eq_true h.2
  rcases hx with hx | hx | hx
  · rcases hy with hy | hy | hy
    · exact ⟨hx.2, hy.2⟩
    · omega
    · omega
  · omega
  · omega
theorem one_ok {z : Int} : gR aOne z := Or.inr (Or.inl rfl)
theorem nnI_ok {a : aV} {z : Int} (h : nnI a = true) (g : gR a z) : (0 ≤ a.2.1 ∧ a.2.2.1 ≤ 2147483647) ∧ a.2.1 ≤ z ∧ z ≤ a.2.2.1 := by
  unfold nnI at h
  rw [Bool.and_eq_true, decide_eq_true_eq] at h
  have := gR_in h.1 g
  omega
theorem aAdd_ok {s : Nat → Int} {x y : aV} {zx zy : Int} (hx : gR x zx) (hy : gR y zy) (sx : gY s x (.inl zx)) : gR (aAdd x y) (zx + zy) ∧ gY s (aAdd x y) (.inl (zx + zy)) := by
  unfold aAdd
  cases hk : k00 x y with
  | true =>
    have := k00_ok hk hx hy
    rw [cond_true]
    dsimp only
    by_cases q : y.2.1 = y.2.2.1
    · rw [decide_eq_true q, cond_true]
      refine ⟨Or.inl ⟨rfl, show x.2.1 + y.2.1 ≤ zx + zy by omega, show zx + zy ≤ x.2.2.1 + y.2.2.1 by omega⟩, ?_⟩
      rcases sx with e | ⟨e0, e⟩ | ⟨e0, z, e, e1⟩
      · exact Or.inl e
      · right
        left
        refine ⟨e0, ?_⟩
        have e2 : zx = s x.2.2.2.1 + x.2.2.2.2.1 := Sum.inl.inj e
        show (Sum.inl (zx + zy) : pV) = .inl (s x.2.2.2.1 + (x.2.2.2.2.1 + y.2.1))
        congr 1
        omega
      · right
        right
        refine ⟨e0, _, rfl, ?_⟩
        have e2 : zx = z := Sum.inl.inj e
        show s (x.2.2.2.1 - 1000000) + (x.2.2.2.2.1 + y.2.1) ≤ zx + zy
        omega
    · rw [decide_eq_false q, cond_false]
      exact ⟨aR_ok (by omega) (by omega), Or.inl rfl⟩
  | false => exact ⟨one_ok, Or.inl rfl⟩
theorem aSub_ok {s : Nat → Int} {x y : aV} {zx zy : Int} (hx : gR x zx) (hy : gR y zy) (sx : gY s x (.inl zx)) : gR (aSub x y) (zx - zy) ∧ gY s (aSub x y) (.inl (zx - zy)) := by
  unfold aSub
  cases hk : k00 x y with
  | true =>
    have := k00_ok hk hx hy
    rw [cond_true]
    dsimp only
    by_cases q : y.2.1 = y.2.2.1
    · rw [decide_eq_true q, cond_true]
      refine ⟨Or.inl ⟨rfl, show x.2.1 - y.2.2.1 ≤ zx - zy by omega, show zx - zy ≤ x.2.2.1 - y.2.1 by omega⟩, ?_⟩
      rcases sx with e | ⟨e0, e⟩ | ⟨e0, z, e, e1⟩
      · exact Or.inl e
      · right
        left
        refine ⟨e0, ?_⟩
        have e2 : zx = s x.2.2.2.1 + x.2.2.2.2.1 := Sum.inl.inj e
        show (Sum.inl (zx - zy) : pV) = .inl (s x.2.2.2.1 + (x.2.2.2.2.1 - y.2.1))
        congr 1
        omega
      · right
        right
        refine ⟨e0, _, rfl, ?_⟩
        have e2 : zx = z := Sum.inl.inj e
        show s (x.2.2.2.1 - 1000000) + (x.2.2.2.2.1 - y.2.1) ≤ zx - zy
        omega
    · rw [decide_eq_false q, cond_false]
      exact ⟨aR_ok (by omega) (by omega), Or.inl rfl⟩
  | false => exact ⟨one_ok, Or.inl rfl⟩
theorem aMul_ok {x y : aV} {zx zy : Int} (hx : gR x zx) (hy : gR y zy) : gR (aMul x y) (zx * zy) := by
  unfold aMul
  cases hk : k00 x y with
  | true =>
    have := k00_ok hk hx hy
    rw [cond_true]
    by_cases q : y.2.1 = y.2.2.1
    · rw [decide_eq_true q, cond_true, show zy = y.2.1 by omega]
      exact mulC_ok this.1
    · rw [decide_eq_false q, cond_false]
      by_cases q2 : x.2.1 = x.2.2.1
      · rw [decide_eq_true q2, cond_true, show zx = x.2.1 by omega, Int.mul_comm]
        exact mulC_ok this.2
      · rw [decide_eq_false q2, cond_false]
        by_cases q3 : 0 ≤ x.2.1
        · by_cases q4 : 0 ≤ y.2.1
          · rw [decide_eq_true q3, decide_eq_true q4, Bool.and_self, cond_true]
            exact aR_ok (Int.mul_le_mul this.1.1 this.2.1 q4 (by omega)) (Int.mul_le_mul this.1.2 this.2.2 (by omega) (by omega))
          · rw [decide_eq_false q4, Bool.and_false, cond_false]; exact one_ok
        · rw [decide_eq_false q3, Bool.false_and, cond_false]; exact one_ok
  | false => exact one_ok
theorem iv_bv {z : Int} (h1 : 0 ≤ z) (h2 : z ≤ 2147483647) : (iI z).toBitVec.toNat = z.toNat := by
  show (BitVec.ofInt 32 z).toNat = z.toNat
  rw [BitVec.toNat_ofInt]
  omega
theorem iv_nn {x : Int32} {n : Nat} (h : x.toBitVec.toNat = n) (hn : n ≤ 2147483647) : x.toInt = n := by
  show x.toBitVec.toInt = _
  rw [BitVec.toInt_eq_toNat_of_lt (by omega), h]
theorem aAnd_l {x y : Int} (h1 : 0 ≤ x) (h2 : x ≤ 2147483647) : 0 ≤ jand x y ∧ jand x y ≤ x := by
  show 0 ≤ ((iI x) &&& (iI y)).toInt ∧ ((iI x) &&& (iI y)).toInt ≤ x
  have e : ((iI x) &&& (iI y)).toBitVec.toNat ≤ x.toNat := by
    show ((iI x).toBitVec &&& (iI y).toBitVec).toNat ≤ _
    rw [BitVec.toNat_and, iv_bv h1 h2]
    exact Nat.and_le_left
  rw [iv_nn rfl (by omega)]
  omega
theorem jand_comm (x y : Int) : jand x y = jand y x := by
  show ((iI x) &&& (iI y)).toInt = ((iI y) &&& (iI x)).toInt
  rw [show iI x &&& iI y = iI y &&& iI x from Int32.toBitVec_inj.mp (BitVec.and_comm _ _)]
theorem aAnd_ok {x y : aV} {zx zy : Int} (hx : gR x zx) (hy : gR y zy) : gR (aAnd x y) (jand zx zy) := by
  unfold aAnd
  cases h1 : nnI x with
  | true =>
    have q1 := nnI_ok h1 hx
    have q2 := aAnd_l (x := zx) (y := zy) (by omega) (by omega)
    rw [cond_true]
    cases h2 : nnI y with
    | true =>
      have q3 := nnI_ok h2 hy
      have q4 := aAnd_l (x := zy) (y := zx) (by omega) (by omega)
      rw [jand_comm] at q4
      exact aR_ok (by omega) (by omega)
    | false => exact aR_ok (by omega) (by omega)
  | false =>
    rw [cond_false]
    cases h2 : nnI y with
    | true =>
      have q3 := nnI_ok h2 hy
      have q4 := aAnd_l (x := zy) (y := zx) (by omega) (by omega)
      rw [jand_comm] at q4
      exact aR_ok (by omega) (by omega)
    | false => exact aT_ok (iv_b32 _ _ _)
theorem aOr_ok {x y : aV} {zx zy : Int} (hx : gR x zx) (hy : gR y zy) : gR (aOr x y) (jor zx zy) := by
  unfold aOr
  cases h1 : (nnI x && nnI y) with
  | true =>
    rw [Bool.and_eq_true] at h1
    have q1 := nnI_ok h1.1 hx
    have q2 := nnI_ok h1.2 hy
    rw [cond_true]
    have e : ((iI zx) ||| (iI zy)).toBitVec.toNat = zx.toNat ||| zy.toNat := by
      show ((iI zx).toBitVec ||| (iI zy).toBitVec).toNat = _
      rw [BitVec.toNat_or, iv_bv (by omega) (by omega), iv_bv (by omega) (by omega)]
    have l1 : zx.toNat < 2 ^ (Nat.log2 (max x.2.2.1 y.2.2.1).toNat + 1) := Nat.lt_of_le_of_lt (by omega) Nat.lt_log2_self
    have l2 : zy.toNat < 2 ^ (Nat.log2 (max x.2.2.1 y.2.2.1).toNat + 1) := Nat.lt_of_le_of_lt (by omega) Nat.lt_log2_self
    have l3 := Nat.or_lt_two_pow l1 l2
    have l4 : zx.toNat ||| zy.toNat < 2 ^ 31 := Nat.or_lt_two_pow (by omega) (by omega)
    have e2 : jor zx zy = ((zx.toNat ||| zy.toNat : Nat) : Int) := by
      show ((iI zx) ||| (iI zy)).toInt = _
      rw [iv_nn e (by omega)]
    rw [e2]
    exact aR_ok (by omega) (by omega)
  | false => exact aT_ok (iv_b32 _ _ _)
theorem iv_sm : ∀ t : Nat, t < 32 → ((iI (t : Int)) &&& (31 : Int32)).toBitVec.smod 32 = BitVec.ofNat 32 t := by decide +kernel
theorem aShl_ok {x y : aV} {zx zy : Int} (hx : gR x zx) (hy : gR y zy) : gR (aShl x y) (jshl zx zy) := by
  unfold aShl
  cases h1 : (nnI x && nnI y && decide (y.2.2.1 ≤ 30) && decide (x.2.2.1 * (2 ^ y.2.2.1.toNat : Nat) ≤ 2147483647)) with
  | true =>
    simp only [Bool.and_eq_true, decide_eq_true_eq] at h1
    obtain ⟨⟨⟨n1, n2⟩, n3⟩, n4⟩ := h1
    have q1 := nnI_ok n1 hx
    have q2 := nnI_ok n2 hy
    rw [cond_true]
    obtain ⟨t, rfl⟩ : ∃ t : Nat, zy = (t : Int) := ⟨zy.toNat, by omega⟩
    have p1 : 2 ^ t ≤ 2 ^ y.2.2.1.toNat := Nat.pow_le_pow_right (by decide) (by omega)
    have p2 : zx * (2 ^ t : Nat) ≤ x.2.2.1 * (2 ^ y.2.2.1.toNat : Nat) := Int.mul_le_mul q1.2.2 (Int.ofNat_le.mpr p1) (Int.natCast_nonneg _) (by omega)
    have p0 : 1 ≤ 2 ^ t := Nat.one_le_two_pow
    have p3 : zx * 1 ≤ zx * (2 ^ t : Nat) := Int.mul_le_mul_of_nonneg_left (Int.ofNat_le.mpr p0) (by omega)
    have e : jshl zx t = zx * (2 ^ t : Nat) := by
      show (iI zx <<< (iI (t : Int) &&& (31 : Int32))).toInt = _
      have e1 : (iI zx <<< (iI (t : Int) &&& (31 : Int32))).toBitVec.toNat = zx.toNat * 2 ^ t := by
        show (BitVec.shiftLeft (iI zx).toBitVec ((((iI (t : Int)) &&& (31 : Int32)).toBitVec.smod 32).toNat)).toNat = _
        rw [iv_sm t (by omega), BitVec.toNat_ofNat, Nat.mod_eq_of_lt (by omega), BitVec.shiftLeft_eq, BitVec.toNat_shiftLeft, iv_bv (by omega) (by omega), Nat.shiftLeft_eq, Nat.mod_eq_of_lt]
        have : ((zx.toNat * 2 ^ t : Nat) : Int) = zx * (2 ^ t : Nat) := by rw [Int.natCast_mul]; congr 1; omega
        omega
      have e3 : ((zx.toNat * 2 ^ t : Nat) : Int) = zx * (2 ^ t : Nat) := by rw [Int.natCast_mul]; congr 1; omega
      rw [iv_nn e1 (by omega), e3]
    rw [e]
    exact aR_ok (by omega) p2
  | false => exact aT_ok (iv_b32 _ _ _)
theorem shr_le {a b s t : Nat} (h1 : a ≤ b) (h2 : s ≤ t) : a >>> t ≤ b >>> s := by
  rw [Nat.shiftRight_eq_div_pow, Nat.shiftRight_eq_div_pow]
  exact Nat.div_le_div h1 (Nat.pow_le_pow_right (by decide) h2) (Nat.ne_of_gt (Nat.two_pow_pos s))
theorem aShr_ok {x y : aV} {zx zy : Int} (hx : gR x zx) (hy : gR y zy) : gR (aShr x y) (jshr zx zy) ∧ gR (aShr x y) (jushr zx zy) := by
  unfold aShr
  cases h1 : (nnI x && nnI y && decide (y.2.2.1 ≤ 31)) with
  | true =>
    simp only [Bool.and_eq_true, decide_eq_true_eq] at h1
    obtain ⟨⟨n1, n2⟩, n3⟩ := h1
    have q1 := nnI_ok n1 hx
    have q2 := nnI_ok n2 hy
    rw [cond_true]
    obtain ⟨t, rfl⟩ : ∃ t : Nat, zy = (t : Int) := ⟨zy.toNat, by omega⟩
    have e2 := Nat.shiftRight_le zx.toNat t
    have e3 : zx.toNat >>> t ≤ x.2.2.1.toNat >>> y.2.1.toNat := shr_le (by omega) (by omega)
    have e1 : (iI zx >>> (iI (t : Int) &&& (31 : Int32))).toBitVec.toNat = zx.toNat >>> t := by
      show (BitVec.sshiftRight' (iI zx).toBitVec (((iI (t : Int)) &&& (31 : Int32)).toBitVec.smod 32)).toNat = _
      rw [iv_sm t (by omega), BitVec.toNat_sshiftRight'_of_msb_false, iv_bv (by omega) (by omega)]
      · simp only [BitVec.toNat_ofNat]
        rw [Nat.mod_eq_of_lt (by omega)]
      · rw [BitVec.msb_eq_decide, iv_bv (by omega) (by omega)]
        simp only [decide_eq_false_iff_not]
        omega
    have e : jshr zx t = ((zx.toNat >>> t : Nat) : Int) := by
      show (iI zx >>> (iI (t : Int) &&& (31 : Int32))).toInt = _
      rw [iv_nn e1 (by omega)]
    have e4 : jushr zx t = ((zx.toNat >>> t : Nat) : Int) := by
      have e5 : (((iI zx).toUInt32 >>> ((iI (t : Int)).toUInt32 &&& Int32.toUInt32 31)).toInt32).toBitVec.toNat = zx.toNat >>> t := by
        show (((iI zx).toUInt32 >>> ((iI (t : Int)).toUInt32 &&& Int32.toUInt32 31))).toNat = _
        rw [UInt32.toNat_shiftRight]
        have m : ((iI (t : Int)).toUInt32 &&& Int32.toUInt32 31).toNat % 32 = t := by
          have m1 : ∀ t : Nat, t < 32 → ((iI (t : Int)).toUInt32 &&& Int32.toUInt32 31).toNat % 32 = t := by decide +kernel
          exact m1 t (by omega)
        rw [m]
        show (iI zx).toBitVec.toNat >>> t = _
        rw [iv_bv (by omega) (by omega)]
      show (((iI zx).toUInt32 >>> ((iI (t : Int)).toUInt32 &&& Int32.toUInt32 31)).toInt32).toInt = _
      rw [iv_nn e5 (by omega)]
    rw [e, e4]
    exact ⟨aR_ok (by omega) (by omega), aR_ok (by omega) (by omega)⟩
  | false => exact ⟨aT_ok (iv_b32 _ _ _), aT_ok (iv_b32 _ _ _)⟩
def aBin (c : Nat) (x y : aV) : aV := match c with
  | 0 => aAdd x y
  | 1 => aSub x y
  | 2 => aMul x y
  | 3 => aAnd x y
  | 4 => aOr x y
  | 5 => aShl x y
  | 6 => aShr x y
  | 7 => aShr x y
  | _ => eT
def fBin (c : Nat) : Int → Int → Int := match c with
  | 0 => fun x y => x + y
  | 1 => fun x y => x - y
  | 2 => fun x y => x * y
  | 3 => jand
  | 4 => jor
  | 5 => jshl
  | 6 => jshr
  | 7 => jushr
  | _ => jxor
theorem aR_s {l h : Int} : (aR l h).2.2.2.1 = 0 := rfl
theorem mul_s {x y : aV} : (aMul x y).2.2.2.1 = 0 := by
  unfold aMul mulC
  repeat' (first | rfl | (rw [cond_eq_ite]; split))
theorem aAnd_s {x y : aV} : (aAnd x y).2.2.2.1 = 0 := by
  unfold aAnd
  repeat' (first | rfl | (rw [cond_eq_ite]; split))
theorem aOr_s {x y : aV} : (aOr x y).2.2.2.1 = 0 := by
  unfold aOr
  repeat' (first | rfl | (rw [cond_eq_ite]; split))
theorem aShl_s {x y : aV} : (aShl x y).2.2.2.1 = 0 := by
  unfold aShl
  repeat' (first | rfl | (rw [cond_eq_ite]; split))
theorem aShr_s {x y : aV} : (aShr x y).2.2.2.1 = 0 := by
  unfold aShr
  repeat' (first | rfl | (rw [cond_eq_ite]; split))
theorem aBin_ok {s : Nat → Int} {x y : aV} {zx zy : Int} (c : Nat) (hx : gR x zx) (hy : gR y zy) (sx : gY s x (.inl zx)) : gR (aBin c x y) (fBin c zx zy) ∧ gY s (aBin c x y) (.inl (fBin c zx zy)) := by
  rcases c with _ | _ | _ | _ | _ | _ | _ | _ | c
  · exact aAdd_ok hx hy sx
  · exact aSub_ok hx hy sx
  · exact ⟨aMul_ok hx hy, Or.inl mul_s⟩
  · exact ⟨aAnd_ok hx hy, Or.inl aAnd_s⟩
  · exact ⟨aOr_ok hx hy, Or.inl aOr_s⟩
  · exact ⟨aShl_ok hx hy, Or.inl aShl_s⟩
  · exact ⟨(aShr_ok hx hy).1, Or.inl aShr_s⟩
  · exact ⟨(aShr_ok hx hy).2, Or.inl aShr_s⟩
  · exact ⟨aT_ok (show -2147483648 ≤ jxor zx zy ∧ jxor zx zy ≤ 2147483647 from iv_b32 _ zx zy), Or.inl rfl⟩
/-! division, remainder, the greater, the lesser, narrower ints -/
def nz (y : aV) : Bool := Nat.beq y.1 2 || (aIn y && (decide (0 < y.2.1) || decide (y.2.2.1 < 0)))
theorem nz_ok {y : aV} {z : Int} (h : nz y = true) (g : gR y z) : ¬ eq32 z 0 := by
  have : leR y aNz = true := h
  have := leR_R this g (by decide)
  rcases this with q | q | q
  · cases q.1
  · cases q
  · exact q.2
def aDiv (c : Nat) (x y : aV) : aV := match c with
  | 0 => bif nnI x && nnI y && decide (0 < y.2.1) then aR (bif decide (y.2.1 = y.2.2.1) then x.2.1 / y.2.1 else 0) (bif decide (y.2.1 = y.2.2.1) then x.2.2.1 / y.2.1 else x.2.2.1) else eT
  | _ => bif nnI x && nnI y && decide (0 < y.2.1) then (bif decide (x.2.1 = x.2.2.1) && decide (y.2.1 = y.2.2.1) then aR (x.2.1 % y.2.1) (x.2.1 % y.2.1) else aR 0 (min x.2.2.1 (y.2.2.1 - 1))) else eT
def fDiv (c : Nat) : Int → Int → Int := match c with
  | 0 => jdiv
  | _ => jrem
theorem iv_div {a b : Int} (ha : 0 ≤ a) (ha2 : a ≤ 2147483647) (hb : 0 < b) (hb2 : b ≤ 2147483647) : jdiv a b = a / b := by
  unfold jdiv b32
  rw [Int32.toInt_div_of_ne_right _ _ (by
    intro h
    have := congrArg Int32.toInt h
    rw [iv_id (by omega) (by omega)] at this
    have h9 : Int32.toInt (-1) = -1 := by decide
    rw [h9] at this
    omega), iv_id (by omega) (by omega), iv_id (by omega) (by omega)]
  exact Int.tdiv_eq_ediv_of_nonneg ha
theorem iv_rem {a b : Int} (ha : 0 ≤ a) (ha2 : a ≤ 2147483647) (hb : 0 < b) (hb2 : b ≤ 2147483647) : jrem a b = a % b := by
  have h1 := iv_div ha ha2 hb hb2
  unfold jdiv b32 at h1
  unfold jrem b32
  have e : iI a - iI a / iI b * iI b = iI (a % b) := by
    have e2 : iI a / iI b = iI (a / b) := by
      have := congrArg Int32.ofInt h1
      rw [Int32.ofInt_toInt] at this
      exact this
    rw [e2]
    show Int32.ofInt _ - Int32.ofInt _ * Int32.ofInt _ = Int32.ofInt _
    rw [← Int32.ofInt_mul, ← Int32.ofInt_sub]
    congr 1
    rw [Int.emod_def, Int.mul_comm]
  show (iI a - iI a / iI b * iI b).toInt = _
  rw [e]
  have h2 := Int.emod_nonneg a (show b ≠ 0 by omega)
  have h3 := Int.emod_lt_of_pos a hb
  exact iv_id (by omega) (by omega)
theorem aDiv_ok {x y : aV} {zx zy : Int} (c : Nat) (hx : gR x zx) (hy : gR y zy) : gR (aDiv c x y) (fDiv c zx zy) ∧ (aDiv c x y).2.2.2.1 = 0 := by
  rcases c with _ | c
  · show gR (bif nnI x && nnI y && decide (0 < y.2.1) then aR (bif decide (y.2.1 = y.2.2.1) then x.2.1 / y.2.1 else 0) (bif decide (y.2.1 = y.2.2.1) then x.2.2.1 / y.2.1 else x.2.2.1) else eT) (jdiv zx zy) ∧ (bif nnI x && nnI y && decide (0 < y.2.1) then aR (bif decide (y.2.1 = y.2.2.1) then x.2.1 / y.2.1 else 0) (bif decide (y.2.1 = y.2.2.1) then x.2.2.1 / y.2.1 else x.2.2.1) else eT).2.2.2.1 = 0
    cases h1 : (nnI x && nnI y && decide (0 < y.2.1)) with
    | true =>
      simp only [Bool.and_eq_true, decide_eq_true_eq] at h1
      obtain ⟨⟨n1, n2⟩, n3⟩ := h1
      have q1 := nnI_ok n1 hx
      have q2 := nnI_ok n2 hy
      rw [cond_true, iv_div (by omega) (by omega) (by omega) (by omega)]
      have p1 : 0 ≤ zx / zy := Int.ediv_nonneg (by omega) (by omega)
      have p2 : zx / zy ≤ zx := Int.ediv_le_self _ (by omega)
      refine ⟨?_, rfl⟩
      by_cases q : y.2.1 = y.2.2.1
      · rw [decide_eq_true q, cond_true, cond_true]
        have e : zy = y.2.1 := by omega
        rw [e]
        exact aR_ok (Int.ediv_le_ediv n3 q1.2.1) (Int.ediv_le_ediv n3 q1.2.2)
      · rw [decide_eq_false q, cond_false, cond_false]
        exact aR_ok p1 (by omega)
    | false => exact ⟨aT_ok (iv_b32 _ _ _), rfl⟩
  · show gR (bif nnI x && nnI y && decide (0 < y.2.1) then (bif decide (x.2.1 = x.2.2.1) && decide (y.2.1 = y.2.2.1) then aR (x.2.1 % y.2.1) (x.2.1 % y.2.1) else aR 0 (min x.2.2.1 (y.2.2.1 - 1))) else eT) (jrem zx zy) ∧ (bif nnI x && nnI y && decide (0 < y.2.1) then (bif decide (x.2.1 = x.2.2.1) && decide (y.2.1 = y.2.2.1) then aR (x.2.1 % y.2.1) (x.2.1 % y.2.1) else aR 0 (min x.2.2.1 (y.2.2.1 - 1))) else eT).2.2.2.1 = 0
    cases h1 : (nnI x && nnI y && decide (0 < y.2.1)) with
    | true =>
      simp only [Bool.and_eq_true, decide_eq_true_eq] at h1
      obtain ⟨⟨n1, n2⟩, n3⟩ := h1
      have q1 := nnI_ok n1 hx
      have q2 := nnI_ok n2 hy
      rw [cond_true, iv_rem (by omega) (by omega) (by omega) (by omega)]
      have h2 := Int.emod_nonneg zx (show zy ≠ 0 by omega)
      have h3 := Int.emod_lt_of_pos zx (show 0 < zy by omega)
      have h5 : 0 ≤ zy * (zx / zy) := Int.mul_nonneg (by omega) (Int.ediv_nonneg (by omega) (by omega))
      have h6 := Int.emod_def zx zy
      cases hc : (decide (x.2.1 = x.2.2.1) && decide (y.2.1 = y.2.2.1)) with
      | true =>
        rw [Bool.and_eq_true, decide_eq_true_eq, decide_eq_true_eq] at hc
        have e1 : zx = x.2.1 := by omega
        have e2 : zy = y.2.1 := by omega
        rw [e1, e2]
        exact ⟨aR_ok (Int.le_refl _) (Int.le_refl _), rfl⟩
      | false => exact ⟨aR_ok h2 (by omega), rfl⟩
    | false => exact ⟨aT_ok (iv_b32 _ _ _), rfl⟩
def aFu (a : aV) : aV := bif aIn a then a else eT
theorem aFu_ok {a : aV} {z : Int} (g : gR a z) : (aFu a).2.1 ≤ (iI z).toInt ∧ (iI z).toInt ≤ (aFu a).2.2.1 := by
  unfold aFu
  cases h : aIn a with
  | true =>
    have := gR_in h g
    rw [cond_true, iv_id (by omega) (by omega)]
    exact this.2
  | false => exact iv_can _
def aMm (c : Nat) (x y : aV) : aV := match c with
  | 0 => aR (max (aFu x).2.1 (aFu y).2.1) (max (aFu x).2.2.1 (aFu y).2.2.1)
  | _ => aR (min (aFu x).2.1 (aFu y).2.1) (min (aFu x).2.2.1 (aFu y).2.2.1)
def fMm (c : Nat) : Int → Int → Int := match c with
  | 0 => jmax
  | _ => jmin
theorem aMm_ok {x y : aV} {zx zy : Int} (c : Nat) (hx : gR x zx) (hy : gR y zy) : gR (aMm c x y) (fMm c zx zy) ∧ (aMm c x y).2.2.2.1 = 0 := by
  have q1 := aFu_ok hx
  have q2 := aFu_ok hy
  unfold aMm fMm
  split
  · refine ⟨?_, rfl⟩
    unfold jmax
    by_cases h : lt32 zx zy
    · rw [if_pos h]
      have := Int32.lt_iff_toInt_lt.mp h
      exact aR_ok (by omega) (by omega)
    · rw [if_neg h]
      have : ¬ (iI zx).toInt < (iI zy).toInt := fun w => h (Int32.lt_iff_toInt_lt.mpr w)
      exact aR_ok (by omega) (by omega)
  · refine ⟨?_, rfl⟩
    unfold jmin
    by_cases h : lt32 zy zx
    · rw [if_pos h]
      have := Int32.lt_iff_toInt_lt.mp h
      exact aR_ok (by omega) (by omega)
    · rw [if_neg h]
      have : ¬ (iI zy).toInt < (iI zx).toInt := fun w => h (Int32.lt_iff_toInt_lt.mpr w)
      exact aR_ok (by omega) (by omega)
def aUn (c : Nat) (x : aV) : aV := match c with
  | 0 => bif Nat.beq x.1 0 then aR (-x.2.2.1) (-x.2.1) else aOne
  | 1 => bif Nat.beq x.1 0 && decide (-128 ≤ x.2.1) && decide (x.2.2.1 ≤ 127) then aR x.2.1 x.2.2.1 else aR (-128) 127
  | 2 => aR (-32768) 32767
  | _ => bif Nat.beq x.1 0 && decide (0 ≤ x.2.1) && decide (x.2.2.1 ≤ 65535) then aR x.2.1 x.2.2.1 else aR 0 65535
def fUn (c : Nat) : Int → Int := match c with
  | 0 => fun x => -x
  | 1 => jb
  | 2 => js
  | _ => jc
