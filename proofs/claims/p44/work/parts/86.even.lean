/-! queue: how many clumps are carried, on both sides -/
section QUA
variable {G : pM} {p q : Nat → Int}
theorem bz_iff {c : Nat → Bool} {n : Nat} : bitsOf c n = 0 ↔ ∀ i, i < n → c i = false := by
  constructor
  · intro h i hi
    have e := bitsOf_bit c n i
    rw [h, Nat.zero_testBit, decide_eq_true hi, Bool.true_and] at e
    exact e.symm
  · intro h
    apply Nat.eq_of_testBit_eq
    intro i
    rw [bitsOf_bit, Nat.zero_testBit]
    by_cases y : i < n
    · rw [h i y, Bool.and_false]
    · rw [decide_eq_false y, Bool.false_and]
theorem oneR_iff (W : WF G) (hq : ∀ t, t < hT G → 0 ≤ q t ∧ q t < hR G) {a : Nat} (ha : a < 2 ^ hT G) : oneR G q a = true ↔ ∀ t u, a.testBit t = true → a.testBit u = true → q t = q u := by
  have w1 := W.1
  have a10 : a < 1024 := Nat.lt_of_lt_of_le ha (p_T W)
  have e := pd_one W hq ha
  constructor
  · intro o t u ht hu
    rw [o] at e
    have key : ∀ t, a.testBit t = true → q t = q (fst1 a) := fun t ht => by
      have h0 : a ≠ 0 := fun z => by
        rw [z, Nat.zero_testBit] at ht
        cases ht
      have lt := bit_lt ha ht
      have b1 := hq t lt
      have b2 := hq _ (bit_lt ha (fst1_bit a10 h0))
      apply Classical.byContradiction
      intro z
      have : pdF q a (hT G) = true := pdF_iff.mpr ⟨t, lt, ht, fun y => z ((eq32_iff (by omega) (by omega) (by omega) (by omega)).mp y)⟩
      rw [e] at this
      exact absurd this (by decide)
    exact (key t ht).trans (key u hu).symm
  · intro h
    cases o : oneR G q a with
    | true => rfl
    | false =>
      rw [o] at e
      obtain ⟨t, lt, ht, z⟩ := pdF_iff.mp e
      have h0 : a ≠ 0 := fun z => by
        rw [z, Nat.zero_testBit] at ht
        cases ht
      exact absurd (show eq32 (q t) (q (fst1 a)) by rw [h t _ ht (fst1_bit a10 h0)]) z
theorem set_own (W : WF G) {s t u : Nat} (hs : s < hS G) (ht : (me G s).testBit t = true) (hu : (me G s).testBit u = true) : oOf G u = oOf G t := by
  have lt := bit_lt (W.2.2.2.2.2.2.2.2 s hs) ht
  have lu := bit_lt (W.2.2.2.2.2.2.2.2 s hs) hu
  obtain ⟨o1, o2⟩ := oOf_in W lt
  have c : clo (me G) (hS G) (cOf G (oOf G t)) := (PT_all W (hT G) (Nat.le_refl _)).1 _ o1
  exact (oOf_iff W lu o1).mp (c s hs ⟨t, ht, o2⟩ u hu)
end QUA
section QUM
variable {D d S T R C x1 : Nat} {sv : Nat → Nat} {M M' N G : pM} {p : Nat → Int} {v y : Int}
end QUM
/-! queue: one side's search -/
section QUX
variable {D d : Nat} {M M' M1 N G : pM} {p : Nat → Int} {v y : Int}
end QUX
section QUK
variable {D d : Nat} {M M' M1 M2 N G : pM} {p : Nat → Int} {w1 : List (Nat × Nat)} {v y : Int}
end QUK
/-! the list of the arrangements that are lawful, and what it costs between them -/
section LST
variable {D d : Nat} {M M' N G : pM} {p : Nat → Int} {f g : Nat → Nat} {v y : Int}
theorem cnt_ex {g : Nat → Bool} : ∀ {W i : Nat}, i < cntTo g W → ∃ c, c < W ∧ g c = true ∧ cntTo g c = i
  | 0, i, h => absurd h (Nat.not_lt_zero i)
  | W + 1, i, h => by
    rw [cnt_succ] at h
    by_cases q : i < cntTo g W
    · obtain ⟨c, c1, c2⟩ := cnt_ex q
      exact ⟨c, by omega, c2⟩
    · by_cases z : g W = true
      · rw [if_pos z] at h
        exact ⟨W, Nat.lt_succ_self W, z, by omega⟩
      · rw [if_neg z] at h
        exact absurd h q
theorem cnt_mono {g : Nat → Bool} {a : Nat} : ∀ b, a ≤ b → cntTo g a ≤ cntTo g b
  | 0, h => by rw [show a = 0 by omega]; exact Nat.le_refl _
  | b + 1, h => by
    by_cases q : a = b + 1
    · rw [q]; exact Nat.le_refl _
    · have := cnt_mono (g := g) b (show a ≤ b by omega)
      rw [cnt_succ]
      split <;> omega
theorem cnt_up {g : Nat → Bool} {a b : Nat} (ha : g a = true) (h : a < b) : cntTo g a + 1 ≤ cntTo g b := by
  have := cnt_mono (g := g) (a := a + 1) b h
  rw [cnt_succ, if_pos ha] at this
  exact this
theorem cnt_inj {g : Nat → Bool} {a b : Nat} (ha : g a = true) (hb : g b = true) (e : cntTo g a = cntTo g b) : a = b := by
  rcases Nat.lt_trichotomy a b with h | h | h
  · have := cnt_up ha h; omega
  · exact h
  · have := cnt_up hb h; omega
def nG (G : pM) : Nat := cntTo (fnG G) (hR G ^ nC G)
noncomputable def cdG (G : pM) (i : Nat) : Nat := Classical.epsilon fun c => c < hR G ^ nC G ∧ fnG G c = true ∧ cntTo (fnG G) c = i
theorem cdG_at {i : Nat} (h : i < nG G) : cdG G i < hR G ^ nC G ∧ fnG G (cdG G i) = true ∧ cntTo (fnG G) (cdG G i) = i := Classical.epsilon_spec (p := fun c => c < hR G ^ nC G ∧ fnG G c = true ∧ cntTo (fnG G) c = i) (cnt_ex h)
theorem cdG_of {c : Nat} (hc : c < hR G ^ nC G) (hf : fnG G c = true) : cdG G (cntTo (fnG G) c) = c := by
  obtain ⟨-, a2, a3⟩ := cdG_at (cnt_up hf hc)
  exact cnt_inj a2 hf a3
/-- three bits for each clump -/
def enF (f : Nat → Nat) : Nat → Nat
  | 0 => 0
  | k + 1 => enF f k + f k * 8 ^ k
theorem enF_lt (hf : ∀ k, f k < 8) : ∀ k, enF f k < 8 ^ k
  | 0 => by
    show 0 < 8 ^ 0
    decide
  | k + 1 => by
    have h1 := enF_lt hf k
    have h2 := hf k
    have h3 : f k * 8 ^ k ≤ 7 * 8 ^ k := Nat.mul_le_mul_right _ (by omega)
    show enF f k + f k * 8 ^ k < 8 ^ (k + 1)
    rw [Nat.pow_succ]
    omega
theorem enF_or (hf : ∀ k, f k < 8) (k : Nat) : enF f k ||| f k * 8 ^ k = enF f (k + 1) := by
  have h1 := enF_lt hf k
  have e : (8 : Nat) ^ k = 2 ^ (3 * k) := by rw [Nat.pow_mul]
  rw [e] at h1
  have := Nat.two_pow_add_eq_or_of_lt h1 (f k)
  show enF f k ||| f k * 8 ^ k = enF f k + f k * 8 ^ k
  rw [e, Nat.or_comm, Nat.mul_comm (f k), ← this, Nat.add_comm]
theorem enF_at (hf : ∀ k, f k < 8) {c : Nat} : ∀ n, c < n → enF f n / 8 ^ c % 8 = f c
  | 0, h => absurd h (Nat.not_lt_zero c)
  | n + 1, h => by
    have p8 : 0 < 8 ^ c := Nat.pow_pos (by decide)
    show (enF f n + f n * 8 ^ n) / 8 ^ c % 8 = f c
    by_cases q : c = n
    · rw [← q, Nat.add_mul_div_right _ _ p8, Nat.div_eq_of_lt (enF_lt hf c), Nat.zero_add, Nat.mod_eq_of_lt (hf c)]
    · have ih := enF_at hf n (show c < n by omega)
      have e : f n * 8 ^ n = f n * 8 ^ (n - c - 1) * 8 * 8 ^ c := by
        rw [Nat.mul_assoc (f n * 8 ^ (n - c - 1)), Nat.mul_assoc, ← Nat.pow_succ', ← Nat.pow_add]
        congr 2
        omega
      rw [e, Nat.add_mul_div_right _ _ p8, Nat.add_mul_mod_self_right]
      exact ih
theorem jshl_8 {k a : Nat} (hk : k < 10) (ha : a < 8) : jshl (a : Int) (3 * (k : Int)) = ((a * 8 ^ k : Nat) : Int) := by
  have h : ((List.range 10).all fun k => (List.range 8).all fun a => decide (jshl (a : Int) (3 * (k : Int)) = ((a * 8 ^ k : Nat) : Int))) = true := by decide +kernel
  have h2 := List.all_eq_true.mp h k (List.mem_range.mpr hk)
  exact of_decide_eq_true (List.all_eq_true.mp h2 a (List.mem_range.mpr ha))
theorem p8_10 {k : Nat} (hk : k ≤ 10) : 8 ^ k ≤ 1073741824 := show 8 ^ k ≤ 8 ^ 10 from Nat.pow_le_pow_right (by decide) hk
theorem x_roomAt (hd : 1 ≤ d) {n i c m : Nat} (h5 : M 52 5 = (n : Int)) (hn : n ≤ 300) (hi : i < n) (hf : ∀ k, f k < 8) (h53 : M 53 i = (enF f m : Nat)) (hm : m ≤ 10) (hc : c < m) : xF d 114 [.inr 54, .inl (i : Int), .inl (c : Int)] M = rI (f c : Int) M := by
  obtain ⟨D, rfl, hD⟩ := dsucc hd
  have l := enF_lt hf m
  have l2 := p8_10 hm
  have e : enF f m >>> (3 * c) &&& 7 = f c := by
    rw [Nat.shiftRight_eq_div_pow, Nat.pow_mul, show (7 : Nat) = 2 ^ 3 - 1 from rfl, Nat.and_two_pow_sub_one_eq_mod]
    exact enF_at hf m hc
  have l3 : enF f m >>> (3 * c) ≤ enF f m := by rw [Nat.shiftRight_eq_div_pow]; exact Nat.div_le_self _ _
  rw [T_Journey_roomAt, if_neg (by rw [lt32_iff] <;> omega), h5, if_neg (by rw [le32_iff] <;> omega), if_pos (by omega), Int.toNat_natCast, h53, show (3 * (c : Int)) = ((3 * c : Nat) : Int) by omega, jshr_nat (by omega) (by omega), show (7 : Int) = ((7 : Nat) : Int) from rfl, jand_nat (by omega) (by decide), e]
/-- the first of the list stand -/
def JL (G M : pM) (a : Nat) : Prop := M 52 5 = (cntTo (fnG G) a : Nat) ∧ M 52 6 = (nC G : Nat) ∧ ∀ c, c < a → fnG G c = true → M 53 (cntTo (fnG G) c) = (enF (dg (hR G) (nC G) c) (nC G) : Nat)
theorem x_jl34 {n m : Nat} (hn : n < 300) (hm : m ≤ 10) (hf : ∀ k, f k < 8) (x3 : Int) : ∀ j k (M : pM), k + j = m → M 52 5 = (n : Int) → M 52 6 = (m : Int) → (∀ i, i < m → M 36 i = (f i : Int)) → M 53 n = (enF f k : Nat) → ∃ (y : pV) (M' : pM), xE D 112 34 [.inr 54, .inr 9, .inr 34, .inl x3, .inl (k : Int)] [] M = xE D 112 14 [.inr 54, .inr 9, .inr 34, .inl (x3 + 1), y] [] M' ∧ M' 52 5 = ((n + 1 : Nat) : Int) ∧ M' 53 n = (enF f m : Nat) ∧ ∀ o i, ¬ (o = 53 ∧ i = n) → ¬ (o = 52 ∧ i = 5) → M' o i = M o i
  | 0, k, M, hk, h5, h6, h36, h53 => by
    rw [L_Journey_listLawful_34, h6, if_pos (by rw [le32_iff] <;> omega), h5, show ((n : Int) + 1) = ((n + 1 : Nat) : Int) by omega]
    refine ⟨_, _, rfl, pset_eq, ?_, fun o i _ h => ?_⟩
    · rw [pset_ne (by decide), h53, show k = m by omega]
    · exact if_neg (fun z => h ⟨z.1, z.2⟩)
  | j + 1, k, M, hk, h5, h6, h36, h53 => by
    have l := enF_lt hf k
    have l2 := p8_10 (show k + 1 ≤ 10 by omega)
    have l3 := enF_lt hf (k + 1)
    have s : enF f (k + 1) = enF f k + f k * 8 ^ k := rfl
    obtain ⟨y, M', e, a1, a2, a3⟩ := x_jl34 hn hm hf x3 j (k + 1) (pset M 53 n (enF f (k + 1) : Nat)) (by omega) (by rw [pset_ne (by decide)]; exact h5) (by rw [pset_ne (by decide)]; exact h6) (fun i hi => by rw [pset_ne (by decide)]; exact h36 i hi) pset_eq
    refine ⟨y, M', ?_, a1, a2, fun o i h1 h2 => by rw [a3 o i h1 h2]; exact if_neg h1⟩
    rw [L_Journey_listLawful_34, h6, if_neg (by rw [le32_iff] <;> omega), h5, if_pos (by omega), if_pos (by omega), if_pos (by omega), Int.toNat_natCast, Int.toNat_natCast, h53, h36 k (by omega), jshl_8 (by omega) (hf k), jor_nat (by omega) (by omega), enF_or hf k, show ((k : Int) + 1) = ((k + 1 : Nat) : Int) by omega]
    exact e
theorem dg8 (h1 : 1 ≤ hR G) (W : WF G) (c k : Nat) : dg (hR G) (nC G) c k < 8 := by
  have := dg_lt (C := nC G) (code := c) h1 k
  have := W.1
  omega
def JLf (M M' : pM) : Prop := ∀ o i, ¬ (32 ≤ o ∧ o ≤ 37) → o ≠ 53 → ¬ (o = 52 ∧ (i = 5 ∨ i = 6)) → M' o i = M o i
theorem JLf_tr {M1 : pM} (h1 : JLf M M1) (h2 : JLf M1 M') : JLf M M' := fun o i a b c => (h2 o i a b c).trans (h1 o i a b c)
theorem x_jl14 (hD : 3 ≤ D) (W : WF G) (h1 : 1 ≤ hR G) (B : WB0 (hR G) (nC G) (G 1) (bkG G)) : ∀ m a (x : Nat) (y : pV) (M : pM), hR G ^ nC G - a + 1 ≤ m → x + m ≤ 1000000 → a ≤ hR G ^ nC G → WK M (hR G) (nC G) (G 1) (bkG G) → WS M (hR G) (nC G) (G 1) (bkG G) a → JL G M a → cntTo (fnG G) a ≤ 300 → ∃ M', (nG G ≤ 300 → xE D 112 14 [.inr 54, .inr 9, .inr 34, .inl (x : Int), y] [] M = rI 1 M' ∧ JL G M' (hR G ^ nC G)) ∧ (¬ nG G ≤ 300 → xE D 112 14 [.inr 54, .inr 9, .inr 34, .inl (x : Int), y] [] M = rI 0 M') ∧ JLf M M' := by
  intro m
  induction m with
  | zero => intro a x y M hm; omega
  | succ m ih =>
    intro a x y M hm hx ha K F J hc
    have b6 := B.2.2.2.2.2
    have n10 := nC_le W
    obtain ⟨M1, f1, r1⟩ := x_nextS (d := D) hD K B F
    have f1' : JLf M M1 := fun o i a b c => f1 o i (by omega) (by omega) (by omega)
    have K1 := WK_n f1 K
    obtain ⟨j1, j2, j3⟩ := J
    have k5 : M1 52 5 = (cntTo (fnG G) a : Nat) := by rw [f1 52 5 (by decide) (by decide) (by omega)]; exact j1
    have k6 : M1 52 6 = (nC G : Nat) := by rw [f1 52 6 (by decide) (by decide) (by omega)]; exact j2
    have k53 : ∀ i, M1 53 i = M 53 i := fun i => f1 53 i (by decide) (by decide) (by omega)
    rw [L_Journey_listLawful_14, if_neg (by rw [le32_iff] <;> omega)]
    rcases r1 with ⟨e1, c, c1, c2, c3, c4⟩ | ⟨e1, nf⟩
    · have hcW := c4.2.2.1
      have c2' : fnG G c = true := by rw [← fnG_bk]; exact c2
      have nf' : ∀ c', a ≤ c' → c' < c → fnG G c' = false := fun c' u1 u2 => by rw [← fnG_bk]; exact c3 c' u1 u2
      have ct : cntTo (fnG G) c = cntTo (fnG G) a := cnt_to c1 nf'
      have cs : cntTo (fnG G) (c + 1) = cntTo (fnG G) a + 1 := by rw [cnt_succ, if_pos c2', ct]
      rw [e1, pbI_rI, if_neg (by decide), k5]
      by_cases q : cntTo (fnG G) a < 300
      · rw [if_pos (by rw [lt32_iff] <;> omega), if_pos (by omega), Int.toNat_natCast]
        obtain ⟨w1, w2, w3, w4⟩ := c4.2.2.2
        obtain ⟨y', M2, e2, a5, a53, f2⟩ := x_jl34 (D := D) (f := dg (hR G) (nC G) c) q n10 (dg8 h1 W c) (x : Int) (nC G) 0 (pset M1 53 (cntTo (fnG G) a) 0) (by omega) (by rw [pset_ne (by decide)]; exact k5) (by rw [pset_ne (by decide)]; exact k6) (fun i hi => by rw [pset_ne (by decide)]; exact (w1 i hi).1) pset_eq
        have f3 : ∀ o i, ¬ (o = 53 ∧ i = cntTo (fnG G) a) → ¬ (o = 52 ∧ i = 5) → M2 o i = M1 o i := fun o i h1 h2 => by rw [f2 o i h1 h2]; exact if_neg h1
        have W2 : WS M2 (hR G) (nC G) (G 1) (bkG G) (c + 1) := by
          obtain ⟨c5, c6, c7, -⟩ := c4
          exact Or.inr ⟨c, rfl, ⟨by rw [f3 32 8 (by omega) (by omega)]; exact c5, by rw [f3 32 9 (by omega) (by omega)]; exact c6, c7, fun j hj => by rw [f3 36 j (by omega) (by omega)]; exact w1 j hj, fun z => absurd z (Nat.lt_irrefl _), fun j h1 h2 => by omega, fun r hr => by rw [f3 34 r (by omega) (by omega)]; exact w4 r hr⟩, c2⟩
        have K2 : WK M2 (hR G) (nC G) (G 1) (bkG G) := by
          obtain ⟨k1, k2, k3, k4⟩ := K1
          exact ⟨by rw [f3 32 6 (by omega) (by omega)]; exact k1, by rw [f3 32 7 (by omega) (by omega)]; exact k2, fun r hr => by rw [f3 33 r (by omega) (by omega)]; exact k3 r hr, fun j hj => by rw [f3 35 j (by omega) (by omega)]; exact k4 j hj⟩
        have J2 : JL G M2 (c + 1) := by
          refine ⟨by rw [a5, cs], by rw [f3 52 6 (by omega) (by omega)]; exact k6, fun c' u1 u2 => ?_⟩
          by_cases z : c' = c
          · rw [z, ct, a53]
          · have la : c' < a := by
              rcases Nat.lt_or_ge c' a with w | w
              · exact w
              · rw [nf' c' w (by omega)] at u2; cases u2
            have := cnt_up u2 la
            rw [f3 53 _ (by omega) (by omega), k53]
            exact j3 c' la u2
        obtain ⟨M', r1, r2, r3⟩ := ih (c + 1) (x + 1) y' M2 (by omega) (by omega) (by omega) K2 W2 J2 (by omega)
        have f4 : JLf M M2 := fun o i h1 h2 h3 => by rw [f3 o i (by omega) (by omega), f1' o i h1 h2 h3]
        rw [show (.inl 0 : pV) = .inl ((0 : Nat) : Int) from rfl, e2, show ((x : Int) + 1) = ((x + 1 : Nat) : Int) by omega]
        exact ⟨M', r1, r2, JLf_tr f4 r3⟩
      · have := cnt_mono (g := fnG G) (a := c + 1) (hR G ^ nC G) hcW
        rw [if_neg (by rw [lt32_iff] <;> omega)]
        exact ⟨M1, fun z => by unfold nG at z; omega, fun _ => rfl, f1'⟩
    · have nf' : ∀ c', a ≤ c' → c' < hR G ^ nC G → fnG G c' = false := fun c' u1 u2 => by rw [← fnG_bk]; exact nf c' u1 u2
      have ct : cntTo (fnG G) (hR G ^ nC G) = cntTo (fnG G) a := cnt_to ha nf'
      rw [e1, pbI_rI, if_pos (by decide)]
      refine ⟨M1, fun _ => ⟨rfl, by rw [k5, ct], k6, fun c u1 u2 => ?_⟩, fun z => by unfold nG at z; omega, f1'⟩
      rw [k53]
      refine j3 c ?_ u2
      rcases Nat.lt_or_ge c a with w | w
      · exact w
      · rw [nf' c w u1] at u2; cases u2
end LST
/-! what it costs from one of the list to another, on both sides -/
section CST
variable {D d : Nat} {M M' N G : pM} {p : Nat → Int} {f g : Nat → Nat} {v y : Int}
def rcG (G : pM) (f g : Nat → Nat) : Int := if allTo (fun t => decide (0 ≤ cst G t (f t) (g t))) (hT G) then sumTo (fun t => cst G t (f t) (g t)) (hT G) else 1000000
def c6 (G : pM) (t a b : Nat) : Int := if cst G t a b < 0 then 1000000 else cst G t a b
def xcG (G : pM) (f g : Nat → Nat) : Int := sumTo (fun t => c6 G t (f t) (g t)) (hT G)
theorem sum_one {f : Nat → Int} : ∀ {n : Nat}, (∀ t, t < n → 0 ≤ f t) → ∀ {k}, k < n → f k ≤ sumTo f n ∧ 0 ≤ sumTo f n
  | 0, _, k, hk => absurd hk (Nat.not_lt_zero k)
  | n + 1, h, k, hk => by
    have s : sumTo f (n + 1) = sumTo f n + f n := rfl
    have hn := h n (Nat.lt_succ_self n)
    have p : 0 ≤ sumTo f n := by
      rcases Nat.eq_zero_or_pos n with z | z
      · rw [z]; exact Int.le_refl 0
      · exact (sum_one (fun t ht => h t (by omega)) (show 0 < n from z)).2
    by_cases q : k = n
    · rw [s, q]; omega
    · have := (sum_one (fun t ht => h t (by omega)) (show k < n by omega)).1
      rw [s]; omega
theorem c6_range (W : WF G) {t : Nat} (ht : t < hT G) (a b : Nat) : 0 ≤ c6 G t a b ∧ c6 G t a b ≤ 1000000 := by
  have := cst_range W ht a b
  unfold c6
  split <;> omega
theorem xc_range (W : WF G) (f g : Nat → Nat) : 0 ≤ xcG G f g ∧ xcG G f g ≤ 10000000 := by
  have w2 := W.2.1
  have := sumTo_range (f := fun t => c6 G t (f t) (g t)) (lo := 0) (hi := 1000000) (n := hT G) (fun t ht => c6_range W ht _ _)
  unfold xcG
  omega
theorem rc_range (W : WF G) (f g : Nat → Nat) : 0 ≤ rcG G f g ∧ rcG G f g ≤ 1000000 := by
  have w2 := W.2.1
  unfold rcG
  split
  · rename_i z
    have := sumTo_range (f := fun t => cst G t (f t) (g t)) (lo := 0) (hi := 45) (n := hT G) (fun t ht => ⟨of_decide_eq_true (allTo_iff.mp z t ht), (cst_range W ht _ _).2⟩)
    omega
  · decide
theorem xc_eq (W : WF G) (f g : Nat → Nat) : (rcG G f g < 1000000 ∧ xcG G f g = rcG G f g) ∨ (rcG G f g = 1000000 ∧ 1000000 ≤ xcG G f g) := by
  have w2 := W.2.1
  by_cases z : allTo (fun t => decide (0 ≤ cst G t (f t) (g t))) (hT G) = true
  · have r : rcG G f g = sumTo (fun t => cst G t (f t) (g t)) (hT G) := if_pos z
    have s := sumTo_range (f := fun t => cst G t (f t) (g t)) (lo := 0) (hi := 45) (n := hT G) (fun t ht => ⟨of_decide_eq_true (allTo_iff.mp z t ht), (cst_range W ht _ _).2⟩)
    refine Or.inl ⟨by omega, ?_⟩
    rw [r]
    unfold xcG
    refine sumTo_congr fun t ht => ?_
    have := of_decide_eq_true (allTo_iff.mp z t ht)
    unfold c6
    rw [if_neg (by omega)]
  · have r : rcG G f g = 1000000 := if_neg z
    refine Or.inr ⟨r, ?_⟩
    apply Classical.byContradiction
    intro no
    refine z (allTo_iff.mpr fun t ht => decide_eq_true ?_)
    apply Classical.byContradiction
    intro neg
    have := (sum_one (f := fun t => c6 G t (f t) (g t)) (fun t ht => (c6_range W ht _ _).1) ht).1
    have e : c6 G t (f t) (g t) = 1000000 := if_pos (by omega)
    unfold xcG at no
    rw [e] at this
    omega
/-- the cost of one thing between two numbers under 6, rooms or not -/
theorem x_cost6 (hd : 4 ≤ d) (W : WF G) (X : XH M G) {t a b : Nat} (ht : t < hT G) (ha : a < 6) (hb : b < 6) : xF d 82 [.inr 9, .inl (t : Int), .inl (a : Int), .inl (b : Int)] M = rI (if a < hR G ∧ b < hR G then cst G t a b else -1) M := by
  by_cases q : a < hR G ∧ b < hR G
  · rw [if_pos q]; exact c_cost hd W X ht q.1 q.2
  · obtain ⟨D, rfl, hD⟩ := dsucc hd
    obtain ⟨D', rfl, hD'⟩ := dsucc (show 1 ≤ D by omega)
    have w1 := W.1
    have w2 := W.2.1
    have hx := X.2.2.2.2.2.1 t ht
    rw [if_neg q, T_House_cost, c_isThing7 (by omega) W X (by omega) (by omega), pbI_rI, ite01pn, if_pos (by omega), if_pos (by omega), Int.toNat_natCast, hx.2.1, T_House_steps, c_isRoom7 (by omega) W X (by omega) (by omega), pbI_rI, ite01p]
    by_cases qa : a < hR G
    · rw [if_pos (by omega), c_isRoom7 (by omega) W X (by omega) (by omega), pbI_rI, ite01pn, if_neg (by omega), pbI_rI, if_neg (by decide)]
    · rw [if_neg (by omega), pbI_rI, if_neg (by decide)]
/-- the table of costs: each clump's things, from room to room -/
def tcF (G : pM) (q : Nat) : Nat → Int
  | 0 => 0
  | t + 1 => tcF G q t + if oOf G t = q / 36 then (if q / 6 % 6 < hR G ∧ q % 6 < hR G then c6 G t (q / 6 % 6) (q % 6) else 1000000) else 0
def CTt (G M : pM) (n : Nat) (b : Nat) : Prop := ∀ q, q < 360 → M 54 q = tcF G q n + if b = 0 then 0 else if oOf G n = q / 36 ∧ q % 36 < b then (if q / 6 % 6 < hR G ∧ q % 6 < hR G then c6 G n (q / 6 % 6) (q % 6) else 1000000) else 0
theorem tc_range (W : WF G) (q : Nat) : ∀ n, n ≤ hT G → 0 ≤ tcF G q n ∧ tcF G q n ≤ 1000000 * (n : Int)
  | 0, _ => ⟨Int.le_refl 0, Int.le_refl 0⟩
  | n + 1, hn => by
    have ih := tc_range W q n (by omega)
    have c := c6_range W (show n < hT G by omega) (q / 6 % 6) (q % 6)
    unfold tcF
    split
    · split <;> omega
    · omega
theorem x_fc2 : ∀ m k (M : pM), k + m = 360 → (∀ i, i < k → M 54 i = 0) → ∃ M', xE D 116 2 [.inr 54, .inr 9, .inl (k : Int), .inr 0, .inr 0, .inr 0] [] M = xE D 116 16 [.inr 54, .inr 9, .inl ((0 : Nat) : Int), .inr 0, .inr 0, .inr 0] [] M' ∧ (∀ i, i < 360 → M' 54 i = 0) ∧ ∀ o i, o ≠ 54 → M' o i = M o i
  | 0, k, M, hk, h => by
    rw [L_Journey_fillCosts_2, if_pos (by rw [le32_iff] <;> omega)]
    exact ⟨M, rfl, fun i hi => h i (by omega), fun _ _ _ => rfl⟩
  | m + 1, k, M, hk, h => by
    obtain ⟨M', e, a, f⟩ := x_fc2 m (k + 1) (pset M 54 k 0) (by omega) (fun i hi => by
      by_cases z : i = k
      · rw [z, pset_eq]
      · rw [pset_ne2 z]; exact h i (by omega))
    refine ⟨M', ?_, a, fun o i ho => by rw [f o i ho, pset_ne ho]⟩
    rw [L_Journey_fillCosts_2, if_neg (by rw [le32_iff] <;> omega), if_pos (by omega), Int.toNat_natCast, show ((k : Int) + 1) = ((k + 1 : Nat) : Int) by omega]
    exact e
theorem x_fc31 (hD : 4 ≤ D) (W : WF G) {n : Nat} (hn : n < hT G) : ∀ m b (y : pV) (M : pM), b + m = 36 → XH M G → CTt G M n b → ∃ (y' : pV) (M' : pM), xE D 116 31 [.inr 54, .inr 9, .inl (n : Int), .inl ((oOf G n * 36 : Nat) : Int), .inl (b : Int), y] [] M = xE D 116 16 [.inr 54, .inr 9, .inl ((n + 1 : Nat) : Int), .inl ((oOf G n * 36 : Nat) : Int), .inl 36, y'] [] M' ∧ CTt G M' n 36 ∧ ∀ o i, o ≠ 54 → M' o i = M o i
  | 0, b, y, M, hb, X, C => by
    rw [L_Journey_fillCosts_31, if_pos (by rw [le32_iff] <;> omega), show ((n : Int) + 1) = ((n + 1 : Nat) : Int) by omega, show b = 36 by omega]
    exact ⟨y, M, rfl, by rw [show b = 36 by omega] at C; exact C, fun _ _ _ => rfl⟩
  | m + 1, b, y, M, hb, X, C => by
    have w1 := W.1
    have w2 := W.2.1
    have n10 := nC_le W
    have o := (oOf_in W hn).1
    have cr := cst_range W hn (b / 6) (b % 6)
    have tr := tc_range W (oOf G n * 36 + b) n (by omega)
    have hC := C (oOf G n * 36 + b) (by omega)
    have d36 : (oOf G n * 36 + b) / 36 = oOf G n := by omega
    have m36 : (oOf G n * 36 + b) % 36 = b := by omega
    have d6 : (oOf G n * 36 + b) / 6 % 6 = b / 6 := by omega
    have m6 : (oOf G n * 36 + b) % 6 = b % 6 := by omega
    have old : M 54 (oOf G n * 36 + b) = tcF G (oOf G n * 36 + b) n := by
      rw [hC]
      by_cases z : b = 0
      · rw [if_pos z, Int.add_zero]
      · rw [if_neg z, if_neg (fun w => by rw [m36] at w; omega), Int.add_zero]
    have go : ∀ w : Int, (w = if b / 6 < hR G ∧ b % 6 < hR G then c6 G n (b / 6) (b % 6) else 1000000) → ∀ y : pV, ∃ (y' : pV) (M' : pM), xE D 116 31 [.inr 54, .inr 9, .inl (n : Int), .inl ((oOf G n * 36 : Nat) : Int), .inl ((b + 1 : Nat) : Int), y] [] (pset M 54 (oOf G n * 36 + b) (tcF G (oOf G n * 36 + b) n + w)) = xE D 116 16 [.inr 54, .inr 9, .inl ((n + 1 : Nat) : Int), .inl ((oOf G n * 36 : Nat) : Int), .inl 36, y'] [] M' ∧ CTt G M' n 36 ∧ ∀ o i, o ≠ 54 → M' o i = M o i := fun w hw y => by
      obtain ⟨y', M', e, c, f⟩ := x_fc31 hD W hn m (b + 1) y (pset M 54 (oOf G n * 36 + b) (tcF G (oOf G n * 36 + b) n + w)) (by omega) (XH_eq X (fun o i _ _ _ => pset_ne (by omega))) (fun q hq => by
        rw [if_neg (Nat.succ_ne_zero b)]
        by_cases z : q = oOf G n * 36 + b
        · rw [z, pset_eq, d36, m36, d6, m6, if_pos ⟨rfl, Nat.lt_succ_self b⟩, hw]
        · rw [pset_ne2 z, C q hq]
          by_cases u : oOf G n = q / 36 ∧ q % 36 < b
          · rw [if_neg (show ¬ b = 0 by omega), if_pos u, if_pos (show oOf G n = q / 36 ∧ q % 36 < b + 1 from ⟨u.1, by omega⟩)]
          · rw [if_neg u, if_neg (show ¬ (oOf G n = q / 36 ∧ q % 36 < b + 1) by omega)]
            split <;> rfl)
      exact ⟨y', M', e, c, fun o i h => by rw [f o i h, pset_ne h]⟩
    rw [L_Journey_fillCosts_31, if_neg (by rw [le32_iff] <;> omega), show (6 : Int) = ((6 : Nat) : Int) from rfl, jdiv_nat (by omega) (by decide) (by decide), jrem_nat (by omega) (by decide) (by decide), x_cost6 hD W X hn (by omega) (by omega), pbI_rI, if_neg (by rw [lt32_iff] <;> omega), if_neg (by rw [le32_iff] <;> omega), if_pos (by omega), show (((oOf G n * 36 : Nat) : Int) + (b : Int)).toNat = oOf G n * 36 + b by omega, show ((b : Int) + 1) = ((b + 1 : Nat) : Int) by omega, old]
    by_cases q : b / 6 < hR G ∧ b % 6 < hR G
    · rw [if_pos q]
      by_cases s : 0 ≤ cst G n (b / 6) (b % 6)
      · rw [if_pos (by rw [le32_iff] <;> omega), if_pos (by omega)]
        exact go _ (by rw [if_pos q]; unfold c6; rw [if_neg (by omega)]) _
      · rw [if_neg (by rw [le32_iff] <;> omega), if_pos (by omega)]
        exact go _ (by rw [if_pos q]; unfold c6; rw [if_pos (by omega)]) _
    · rw [if_neg q, if_neg (by decide), if_pos (by omega)]
      exact go _ (by rw [if_neg q]) _
theorem CT_next {n : Nat} (C : CTt G M n 36) : CTt G M (n + 1) 0 := fun q hq => by
  rw [C q hq, if_neg (by decide), if_pos rfl, Int.add_zero]
  show _ = tcF G q n + if oOf G n = q / 36 then (if q / 6 % 6 < hR G ∧ q % 6 < hR G then c6 G n (q / 6 % 6) (q % 6) else 1000000) else 0
  by_cases z : oOf G n = q / 36
  · rw [if_pos z, if_pos ⟨z, Nat.mod_lt _ (by decide)⟩]
  · rw [if_neg z, if_neg (fun w => z w.1)]
theorem x_fc16 (hD : 4 ≤ D) (W : WF G) : ∀ m n (y3 y4 y5 : pV) (M : pM), n + m = hT G → XH M G → CL M G → CTt G M n 0 → ∃ M', xE D 116 16 [.inr 54, .inr 9, .inl (n : Int), y3, y4, y5] [] M = rV M' ∧ CTt G M' (hT G) 0 ∧ ∀ o i, o ≠ 54 → M' o i = M o i
  | 0, n, y3, y4, y5, M, hn, X, L, C => by
    have w2 := W.2.1
    rw [L_Journey_fillCosts_16, X.2.1, if_pos (by rw [le32_iff] <;> omega)]
    exact ⟨M, rfl, by rw [show n = hT G by omega] at C; exact C, fun _ _ _ => rfl⟩
  | m + 1, n, y3, y4, y5, M, hn, X, L, C => by
    have w2 := W.2.1
    have n10 := nC_le W
    have o := (oOf_in W (show n < hT G by omega)).1
    have c16 : M 16 n = (oOf G n : Int) := L.2.2 n (by omega)
    obtain ⟨y', M1, e1, C1, f1⟩ := x_fc31 (D := D) hD W (show n < hT G by omega) 36 0 y5 M (by omega) X C
    obtain ⟨M', e, C', f'⟩ := x_fc16 hD W m (n + 1) (.inl ((oOf G n * 36 : Nat) : Int)) (.inl 36) y' M1 (by omega) (XH_eq X (fun o i _ _ _ => f1 o i (by omega))) ⟨by rw [f1 7 12 (by decide)]; exact L.1, fun i hi => by rw [f1 15 i (by decide)]; exact L.2.1 i hi, fun t ht => by rw [f1 16 t (by decide)]; exact L.2.2 t ht⟩ (CT_next C1)
    refine ⟨M', ?_, C', fun o i h => by rw [f' o i h, f1 o i h]⟩
    rw [L_Journey_fillCosts_16, X.2.1, if_neg (by rw [le32_iff] <;> omega), if_pos (by omega), Int.toNat_natCast, c16, show ((oOf G n : Int) * 6 * 6) = ((oOf G n * 36 : Nat) : Int) by omega, show (.inl 0 : pV) = .inl ((0 : Nat) : Int) from rfl, e1]
    exact e
theorem x_fill (hd : 5 ≤ d) (W : WF G) (X : XH M G) (L : CL M G) : ∃ M', xF d 116 [.inr 54, .inr 9] M = rV M' ∧ CTt G M' (hT G) 0 ∧ ∀ o i, o ≠ 54 → M' o i = M o i := by
  obtain ⟨D, rfl, hD⟩ := dsucc hd
  obtain ⟨M1, e1, a1, f1⟩ := x_fc2 (D := D) 360 0 M (by omega) (fun i hi => absurd hi (Nat.not_lt_zero i))
  obtain ⟨M', e, C', f'⟩ := x_fc16 (D := D) hD W (hT G) 0 (.inr 0) (.inr 0) (.inr 0) M1 (by omega) (XH_eq X (fun o i _ _ _ => f1 o i (by omega))) ⟨by rw [f1 7 12 (by decide)]; exact L.1, fun i hi => by rw [f1 15 i (by decide)]; exact L.2.1 i hi, fun t ht => by rw [f1 16 t (by decide)]; exact L.2.2 t ht⟩ (fun q hq => by rw [a1 q hq]; rfl)
  refine ⟨M', ?_, C', fun o i h => by rw [f' o i h, f1 o i h]⟩
  rw [T_Journey_fillCosts, show (.inl 0 : pV) = .inl ((0 : Nat) : Int) from rfl, e1]
  exact e
/-- what stands when the list is made -/
def LIt (G M : pM) : Prop := M 52 5 = (nG G : Nat) ∧ M 52 6 = (nC G : Nat) ∧ nG G ≤ 300 ∧ ∀ i, i < nG G → M 53 i = (enF (dg (hR G) (nC G) (cdG G i)) (nC G) : Nat)
theorem LI_of (J : JL G M (hR G ^ nC G)) (h : nG G ≤ 300) : LIt G M := ⟨J.1, J.2.1, h, fun i hi => by
  obtain ⟨a1, a2, a3⟩ := cdG_at hi
  have := J.2.2 _ a1 a2
  rw [a3] at this
  exact this⟩
theorem LI_ag (e : ∀ o i, (o = 52 ∧ (i = 5 ∨ i = 6)) ∨ o = 53 → M' o i = M o i) (L : LIt G M) : LIt G M' := ⟨by rw [e 52 5 (by omega)]; exact L.1, by rw [e 52 6 (by omega)]; exact L.2.1, L.2.2.1, fun i hi => by rw [e 53 i (by omega)]; exact L.2.2.2 i hi⟩
theorem x_atL (hd : 1 ≤ d) (W : WF G) (h1 : 1 ≤ hR G) (L : LIt G M) {i c : Nat} (hi : i < nG G) (hc : c < nC G) : xF d 114 [.inr 54, .inl (i : Int), .inl (c : Int)] M = rI (dg (hR G) (nC G) (cdG G i) c : Nat) M := x_roomAt hd L.1 L.2.2.1 hi (dg8 h1 W _) (L.2.2.2 i hi) (nC_le W) hc
/-- the cost between two of the list -/
theorem tc_sum (W : WF G) {f g : Nat → Nat} (hf : ∀ c, f c < hR G) (hg : ∀ c, g c < hR G) : sumTo (fun c => tcF G ((c * 6 + f c) * 6 + g c) (hT G)) (nC G) = xcG G (fun t => f (oOf G t)) (fun t => g (oOf G t)) := by
  have w1 := W.1
  have key : ∀ n, n ≤ hT G → sumTo (fun c => tcF G ((c * 6 + f c) * 6 + g c) n) (nC G) = sumTo (fun t => c6 G t (f (oOf G t)) (g (oOf G t))) n := by
    intro n
    induction n with
    | zero =>
      intro _
      have : ∀ m, sumTo (fun c => tcF G ((c * 6 + f c) * 6 + g c) 0) m = 0 := by
        intro m
        induction m with
        | zero => rfl
        | succ m ih =>
          show sumTo (fun c => tcF G ((c * 6 + f c) * 6 + g c) 0) m + 0 = 0
          rw [ih]; rfl
      exact this _
    | succ n ih =>
      intro hn
      have o := (oOf_in W (show n < hT G by omega)).1
      have st : ∀ c, tcF G ((c * 6 + f c) * 6 + g c) (n + 1) = tcF G ((c * 6 + f c) * 6 + g c) n + if oOf G n = c then c6 G n (f c) (g c) else 0 := fun c => by
        have := hf c
        have := hg c
        show tcF G ((c * 6 + f c) * 6 + g c) n + (if oOf G n = ((c * 6 + f c) * 6 + g c) / 36 then (if ((c * 6 + f c) * 6 + g c) / 6 % 6 < hR G ∧ ((c * 6 + f c) * 6 + g c) % 6 < hR G then c6 G n (((c * 6 + f c) * 6 + g c) / 6 % 6) (((c * 6 + f c) * 6 + g c) % 6) else 1000000) else 0) = _
        rw [show ((c * 6 + f c) * 6 + g c) / 36 = c by omega, show ((c * 6 + f c) * 6 + g c) / 6 % 6 = f c by omega, show ((c * 6 + f c) * 6 + g c) % 6 = g c by omega, if_pos (show f c < hR G ∧ g c < hR G from ⟨hf c, hg c⟩)]
      have add : ∀ m, sumTo (fun c => tcF G ((c * 6 + f c) * 6 + g c) (n + 1)) m = sumTo (fun c => tcF G ((c * 6 + f c) * 6 + g c) n) m + if oOf G n < m then c6 G n (f (oOf G n)) (g (oOf G n)) else 0 := by
        intro m
        induction m with
        | zero => rw [if_neg (Nat.not_lt_zero _)]; rfl
        | succ m im =>
          show sumTo (fun c => tcF G ((c * 6 + f c) * 6 + g c) (n + 1)) m + tcF G ((m * 6 + f m) * 6 + g m) (n + 1) = sumTo (fun c => tcF G ((c * 6 + f c) * 6 + g c) n) m + tcF G ((m * 6 + f m) * 6 + g m) n + _
          rw [im, st m]
          by_cases z : oOf G n = m
          · rw [if_neg (by omega), if_pos z, if_pos (by omega), z]; omega
          · rw [if_neg z]
            by_cases w : oOf G n < m
            · rw [if_pos w, if_pos (by omega)]; omega
            · rw [if_neg w, if_neg (by omega)]; omega
      rw [add, ih (by omega), if_pos o]
      rfl
  exact key (hT G) (Nat.le_refl _)
noncomputable def plN (G : pM) (i : Nat) : Nat → Nat := plG G (cdG G i)
theorem x_between (hd : 2 ≤ d) (W : WF G) (h1 : 1 ≤ hR G) (L : LIt G M) (C : CTt G M (hT G) 0) {i j : Nat} (hi : i < nG G) (hj : j < nG G) : xF d 118 [.inr 54, .inl (i : Int), .inl (j : Int)] M = rI (xcG G (plN G i) (plN G j)) M := by
  obtain ⟨D, rfl, hD⟩ := dsucc hd
  have w1 := W.1
  have w2 := W.2.1
  have n10 := nC_le W
  have df : ∀ c, dg (hR G) (nC G) (cdG G i) c < hR G := fun c => dg_lt h1 c
  have dg' : ∀ c, dg (hR G) (nC G) (cdG G j) c < hR G := fun c => dg_lt h1 c
  have s := tc_sum W df dg'
  have key : ∀ m k, k + m = nC G → xE D 118 4 [.inr 54, .inl (i : Int), .inl (j : Int), .inl (sumTo (fun c => tcF G ((c * 6 + dg (hR G) (nC G) (cdG G i) c) * 6 + dg (hR G) (nC G) (cdG G j) c) (hT G)) k), .inl (k : Int)] [] M = rI (sumTo (fun c => tcF G ((c * 6 + dg (hR G) (nC G) (cdG G i) c) * 6 + dg (hR G) (nC G) (cdG G j) c) (hT G)) (nC G)) M := by
    intro m
    induction m with
    | zero =>
      intro k hk
      rw [L_Journey_between_4, L.2.1, if_pos (by rw [le32_iff] <;> omega), show k = nC G by omega]
    | succ m ih =>
      intro k hk
      have a := df k
      have b := dg' k
      have q := C ((k * 6 + dg (hR G) (nC G) (cdG G i) k) * 6 + dg (hR G) (nC G) (cdG G j) k) (by omega)
      rw [if_pos rfl, Int.add_zero] at q
      rw [L_Journey_between_4, L.2.1, if_neg (by rw [le32_iff] <;> omega), x_atL hD W h1 L hi (by omega), pbI_rI, x_atL hD W h1 L hj (by omega), pbI_rI, show (((k : Int) * 6 + ((dg (hR G) (nC G) (cdG G i) k : Nat) : Int)) * 6 + ((dg (hR G) (nC G) (cdG G j) k : Nat) : Int)) = (((k * 6 + dg (hR G) (nC G) (cdG G i) k) * 6 + dg (hR G) (nC G) (cdG G j) k : Nat) : Int) by omega, c_numberAt_54n hD (by omega), pbI_rI, q, show ((k : Int) + 1) = ((k + 1 : Nat) : Int) by omega]
      exact ih (k + 1) (by omega)
  rw [T_Journey_between, show (.inl 0 : pV) = .inl ((0 : Nat) : Int) from rfl, show (.inl ((0 : Nat) : Int) :: [.inl ((0 : Nat) : Int)] : List pV) = .inl (sumTo (fun c => tcF G ((c * 6 + dg (hR G) (nC G) (cdG G i) c) * 6 + dg (hR G) (nC G) (cdG G j) c) (hT G)) 0) :: [.inl ((0 : Nat) : Int)] from rfl, key (nC G) 0 (by omega), s]
  rfl
theorem x_first (hd : 5 ≤ d) (W : WF G) (h1 : 1 ≤ hR G) (X : XH M G) (K : CL M G) (L : LIt G M) {i : Nat} (hi : i < nG G) : xF d 117 [.inr 54, .inr 9, .inl (i : Int)] M = rI (xcG G (fun t => (G 6 t).toNat) (plN G i)) M := by
  obtain ⟨D, rfl, hD⟩ := dsucc hd
  have w1 := W.1
  have w2 := W.2.1
  have key : ∀ m k (y : pV), k + m = hT G → xE D 117 4 [.inr 54, .inr 9, .inl (i : Int), .inl (sumTo (fun t => c6 G t (G 6 t).toNat (plN G i t)) k), .inl (k : Int), y] [] M = rI (xcG G (fun t => (G 6 t).toNat) (plN G i)) M := by
    intro m
    induction m with
    | zero =>
      intro k y hk
      rw [L_Journey_firstCost_4, X.2.1, if_pos (by rw [le32_iff] <;> omega), show k = hT G by omega]
      rfl
    | succ m ih =>
      intro k y hk
      have wr := (W.2.2.2.2.2.2.2.1 k (by omega)).2.2.2
      obtain ⟨a, ha⟩ : ∃ a : Nat, G 6 k = a := natI wr.1
      have o := (oOf_in W (show k < hT G by omega)).1
      have c16 : M 16 k = (oOf G k : Int) := K.2.2 k (by omega)
      have c13 : M 13 k = (a : Int) := by rw [(X.2.2.2.2.2.1 k (by omega)).2.2.2]; exact ha
      have b : plN G i k < hR G := dg_lt h1 _
      have cr := cst_range W (show k < hT G by omega) a (plN G i k)
      have st : sumTo (fun t => c6 G t (G 6 t).toNat (plN G i t)) (k + 1) = sumTo (fun t => c6 G t (G 6 t).toNat (plN G i t)) k + c6 G k a (plN G i k) := by
        show sumTo (fun t => c6 G t (G 6 t).toNat (plN G i t)) k + c6 G k (G 6 k).toNat (plN G i k) = _
        rw [ha, Int.toNat_natCast]
      have e14 : xF D 114 [.inr 54, .inl (i : Int), .inl (oOf G k : Int)] M = rI (plN G i k : Nat) M := x_atL (by omega) W h1 L hi o
      rw [L_Journey_firstCost_4, X.2.1, if_neg (by rw [le32_iff] <;> omega), if_pos (by omega), if_pos (by omega), Int.toNat_natCast, c16, e14, pbI_rI, c13, c_cost hD W X (by omega) (by omega) b, pbI_rI, show ((k : Int) + 1) = ((k + 1 : Nat) : Int) by omega]
      by_cases q : 0 ≤ cst G k a (plN G i k)
      · rw [show c6 G k a (plN G i k) = cst G k a (plN G i k) from if_neg (by omega)] at st
        rw [if_pos (by rw [le32_iff] <;> omega), ← st]
        exact ih (k + 1) _ (by omega)
      · rw [show c6 G k a (plN G i k) = 1000000 from if_pos (by omega)] at st
        rw [if_neg (by rw [le32_iff] <;> omega), ← st]
        exact ih (k + 1) _ (by omega)
  rw [T_Journey_firstCost, show (.inl 0 : pV) = .inl ((0 : Nat) : Int) from rfl]
  exact key (hT G) 0 (.inr 0) (by omega)
end CST
/-! the fewest evenings, on one side -/
/-- reached within so many steps -/
def lD (E : Nat → Nat → Prop) (n τ : Nat) : Nat → Nat → Prop
  | 0, i => i = τ
  | k + 1, i => lD E n τ k i ∨ ∃ j, j < n ∧ lD E n τ k j ∧ E i j
theorem lD_mono {E : Nat → Nat → Prop} {n τ i k : Nat} (h : lD E n τ k i) : ∀ m, lD E n τ (k + m) i
  | 0 => h
  | m + 1 => Or.inl (lD_mono h m)
theorem lD_le {E : Nat → Nat → Prop} {n τ i k k' : Nat} (h : lD E n τ k i) (hk : k ≤ k') : lD E n τ k' i := by
  have := lD_mono h (k' - k)
  rw [show k + (k' - k) = k' by omega] at this
  exact this
theorem lD_stop {E : Nat → Nat → Prop} {n τ k : Nat} (hτ : τ < n) (h : ∀ i, i < n → lD E n τ (k + 1) i → lD E n τ k i) : ∀ m i, i < n → lD E n τ (k + m) i → lD E n τ k i
  | 0, _, _, h2 => h2
  | m + 1, i, hi, h2 => by
    rcases h2 with h2 | ⟨j, j1, j2, j3⟩
    · exact lD_stop hτ h m i hi h2
    · exact h i hi (Or.inr ⟨j, j1, lD_stop hτ h m j j1 j2, j3⟩)
/-- the level at which one stands -/
def lvE (E : Nat → Nat → Prop) (n τ i e : Nat) : Prop := lD E n τ e i ∧ ∀ e', e' < e → ¬ lD E n τ e' i
theorem lv_new {E : Nat → Nat → Prop} {n τ i k : Nat} (h : ¬ lD E n τ k i) : lD E n τ (k + 1) i ↔ ∃ j, j < n ∧ lvE E n τ j k ∧ E i j := by
  constructor
  · intro z
    rcases z with z | ⟨j, j1, j2, j3⟩
    · exact absurd z h
    · refine ⟨j, j1, ⟨j2, fun e' he' w => h ?_⟩, j3⟩
      exact lD_le (k := e' + 1) (Or.inr ⟨j, j1, w, j3⟩) (by omega)
  · intro ⟨j, j1, j2, j3⟩
    exact Or.inr ⟨j, j1, j2.1, j3⟩
def cnN (p : Nat → Int) : Nat → Nat
  | 0 => 0
  | a + 1 => cnN p a + if p a = -1 then 1 else 0
theorem cnN_cg {p q : Nat → Int} : ∀ n, (∀ i, i < n → (q i = -1 ↔ p i = -1)) → cnN q n = cnN p n
  | 0, _ => rfl
  | n + 1, h => by
    unfold cnN
    rw [cnN_cg n (fun i hi => h i (by omega))]
    have := h n (by omega)
    by_cases e : p n = -1
    · rw [if_pos e, if_pos (this.mpr e)]
    · rw [if_neg e, if_neg (fun z => e (this.mp z))]
theorem cnN_set {p q : Nat → Int} {a : Nat} (h : ∀ i, i ≠ a → q i = p i) (h1 : p a = -1) (h2 : q a ≠ -1) : ∀ n, a < n → cnN q n + 1 = cnN p n
  | 0, ha => absurd ha (Nat.not_lt_zero a)
  | n + 1, ha => by
    unfold cnN
    by_cases e : a = n
    · subst e
      rw [if_pos h1, if_neg h2, cnN_cg a (fun i hi => by rw [h i (by omega)])]
    · have := cnN_set h h1 h2 n (by omega)
      rw [h n (fun z => e z.symm)]
      omega
section FEW
variable {D d : Nat} {M M' M1 N G : pM} {p : Nat → Int} {v y w : Int}
def tgP (G : pM) (p : Nat → Int) (i : Nat) : Prop := ∀ t, t < hT G → (plN G i t : Int) = p t
theorem tg_ptd (W : WF G) (hp : ∀ t, t < hT G → 0 ≤ p t ∧ p t < hR G) {i : Nat} (h : tgP G p i) : ptd G p = 0 := by
  refine bz_iff.mpr fun k hk => ?_
  show (!oneR G p (me G k)) = false
  have m := W.2.2.2.2.2.2.2.2 k hk
  have o : oneR G p (me G k) = true := (oneR_iff W hp m).mpr fun t u ht hu => by
    rw [← h t (bit_lt m ht), ← h u (bit_lt m hu)]
    unfold plN plG
    rw [set_own W hk ht hu]
  rw [o]; rfl
theorem x_find (hd : 2 ≤ d) (W : WF G) (h1 : 1 ≤ hR G) (X : XH M G) (K : CL M G) (P : PL M G 58 p) (L : LIt G M) : (∃ i, i < nG G ∧ tgP G p i ∧ xF d 115 [.inr 54, .inr 9, .inr 60] M = rI (i : Int) M) ∨ ((∀ i, i < nG G → ¬ tgP G p i) ∧ xF d 115 [.inr 54, .inr 9, .inr 60] M = rI (-1) M) := by
  obtain ⟨D, rfl, hD⟩ := dsucc hd
  have w1 := W.1
  have w2 := W.2.1
  have n3 := L.2.2.1
  have inner : ∀ i, i < nG G → ∀ m k x, k + m = hT G → x ≤ k → (x = k ↔ ∀ t, t < k → (plN G i t : Int) = p t) → (tgP G p i ∧ xE D 115 10 [.inr 54, .inr 9, .inr 60, .inl (i : Int), .inl (x : Nat), .inl (k : Int)] [] M = rI (i : Int) M) ∨ (¬ tgP G p i ∧ ∃ y4 y5 : pV, xE D 115 10 [.inr 54, .inr 9, .inr 60, .inl (i : Int), .inl (x : Nat), .inl (k : Int)] [] M = xE D 115 2 [.inr 54, .inr 9, .inr 60, .inl ((i + 1 : Nat) : Int), y4, y5] [] M) := by
    intro i hi m
    induction m with
    | zero =>
      intro k x hk hx h
      have e : k = hT G := by omega
      rw [L_Journey_find_10, X.2.1, if_pos (by rw [le32_iff] <;> omega)]
      by_cases q : x = hT G
      · rw [if_neg (fun z => z (by rw [q]))]
        exact Or.inl ⟨fun t ht => h.mp (by omega) t (by omega), rfl⟩
      · rw [if_pos (by rw [eq32_iff] <;> omega), show ((i : Int) + 1) = ((i + 1 : Nat) : Int) by omega]
        exact Or.inr ⟨fun z => q (by rw [← e]; exact h.mpr fun t ht => z t (by omega)), _, _, rfl⟩
    | succ m ih =>
      intro k x hk hx h
      have o := (oOf_in W (show k < hT G by omega)).1
      have c16 : M 16 k = (oOf G k : Int) := K.2.2 k (by omega)
      have e14 : xF D 114 [.inr 54, .inl (i : Int), .inl (oOf G k : Int)] M = rI (plN G i k : Nat) M := x_atL (by omega) W h1 L hi o
      have b : plN G i k < hR G := dg_lt h1 _
      have pk := (P k (by omega)).2
      rw [L_Journey_find_10, X.2.1, if_neg (by rw [le32_iff] <;> omega), if_pos (by omega), Int.toNat_natCast, c16, e14, pbI_rI, c_numberAt_58n (by omega) (by omega), pbI_rI, (P k (by omega)).1, show ((k : Int) + 1) = ((k + 1 : Nat) : Int) by omega]
      by_cases q : (plN G i k : Int) = p k
      · rw [if_neg (fun z => z (by rw [q])), show (((x : Nat) : Int) + 1) = ((x + 1 : Nat) : Int) by omega]
        refine ih (k + 1) (x + 1) (by omega) (by omega) ⟨fun z t ht => ?_, fun z => ?_⟩
        · by_cases u : t = k
          · rw [u]; exact q
          · exact h.mp (by omega) t (by omega)
        · have := h.mpr fun t ht => z t (by omega)
          omega
      · rw [if_pos (by rw [eq32_iff] <;> omega), Int.add_zero]
        refine ih (k + 1) x (by omega) (by omega) ⟨fun z => by omega, fun z => absurd (z k (Nat.lt_succ_self k)) q⟩
  have outer : ∀ m i (y4 y5 : pV), i + m = nG G → (∃ j, j < nG G ∧ tgP G p j ∧ xE D 115 2 [.inr 54, .inr 9, .inr 60, .inl (i : Int), y4, y5] [] M = rI (j : Int) M) ∨ ((∀ j, i ≤ j → j < nG G → ¬ tgP G p j) ∧ xE D 115 2 [.inr 54, .inr 9, .inr 60, .inl (i : Int), y4, y5] [] M = rI (-1) M) := by
    intro m
    induction m with
    | zero =>
      intro i y4 y5 hi
      rw [L_Journey_find_2, L.1, if_pos (by rw [le32_iff] <;> omega)]
      exact Or.inr ⟨fun j h1 h2 => by omega, rfl⟩
    | succ m ih =>
      intro i y4 y5 hi
      rw [L_Journey_find_2, L.1, if_neg (by rw [le32_iff] <;> omega)]
      rcases inner i (by omega) (hT G) 0 0 (by omega) (Nat.le_refl 0) ⟨fun _ t ht => absurd ht (Nat.not_lt_zero t), fun _ => rfl⟩ with ⟨a1, a2⟩ | ⟨a1, y4', y5', a2⟩
      · exact Or.inl ⟨i, by omega, a1, a2⟩
      · have a2 : xE D 115 10 [.inr 54, .inr 9, .inr 60, .inl (i : Int), .inl 0, .inl 0] [] M = xE D 115 2 [.inr 54, .inr 9, .inr 60, .inl ((i + 1 : Nat) : Int), y4', y5'] [] M := a2
        rw [a2]
        rcases ih (i + 1) y4' y5' (by omega) with b | ⟨b1, b2⟩
        · exact Or.inl b
        · refine Or.inr ⟨fun j g1 g2 => ?_, b2⟩
          by_cases u : j = i
          · rw [u]; exact a1
          · exact b1 j (by omega) g2
  rw [T_Journey_find, show (.inl 0 : pV) = .inl ((0 : Nat) : Int) from rfl]
  rcases outer (nG G) 0 (.inr 0) (.inr 0) (by omega) with b | ⟨b1, b2⟩
  · exact Or.inl b
  · exact Or.inr ⟨fun j hj => b1 j (Nat.zero_le j) hj, b2⟩
def nowN (G : pM) (t : Nat) : Nat := (G 6 t).toNat
/-- what stands when a journey is prepared -/
def PR (G M : pM) (τ : Nat) : Prop := LIt G M ∧ CTt G M (hT G) 0 ∧ M 52 7 = (τ : Int) ∧ τ < nG G ∧ ∀ i, i < nG G → M 55 i = xcG G (nowN G) (plN G i)
theorem CT_ag {n b : Nat} (e : ∀ i, M' 54 i = M 54 i) (C : CTt G M n b) : CTt G M' n b := fun q hq => by rw [e]; exact C q hq
theorem x_p23 (hD : 5 ≤ D) (W : WF G) (h1 : 1 ≤ hR G) {τ : Nat} (hτ : τ < nG G) : ∀ m k (M : pM), k + m = nG G → XH M G → CL M G → LIt G M → CTt G M (hT G) 0 → M 52 7 = (τ : Int) → (∀ i, i < k → M 55 i = xcG G (nowN G) (plN G i)) → ∃ M', xE D 113 23 [.inr 54, .inr 9, .inr 60, .inl (k : Int)] [] M = rI 1 M' ∧ PR G M' τ ∧ ∀ o i, o ≠ 55 → M' o i = M o i
  | 0, k, M, hk, X, K, L, C, h7, h => by
    have n3 := L.2.2.1
    rw [L_Journey_prepare_23, L.1, if_pos (by rw [le32_iff] <;> omega)]
    exact ⟨M, rfl, ⟨L, C, h7, hτ, fun i hi => h i (by omega)⟩, fun _ _ _ => rfl⟩
  | m + 1, k, M, hk, X, K, L, C, h7, h => by
    have n3 := L.2.2.1
    have e := x_first (d := D) (by omega) W h1 X K L (show k < nG G by omega)
    obtain ⟨M', e', r, f⟩ := x_p23 hD W h1 hτ m (k + 1) (pset M 55 k (xcG G (nowN G) (plN G k))) (by omega) (XH_eq X (fun o i _ _ _ => pset_ne (by omega))) ⟨by rw [pset_ne (by decide)]; exact K.1, fun i hi => by rw [pset_ne (by decide)]; exact K.2.1 i hi, fun t ht => by rw [pset_ne (by decide)]; exact K.2.2 t ht⟩ (LI_ag (fun o i ho => pset_ne (by omega)) L) (CT_ag (fun i => pset_ne (by decide)) C) (by rw [pset_ne (by decide)]; exact h7) (fun i hi => by
      by_cases z : i = k
      · rw [z, pset_eq]
      · rw [pset_ne2 z]; exact h i (by omega))
    refine ⟨M', ?_, r, fun o i ho => by rw [f o i ho, pset_ne ho]⟩
    rw [L_Journey_prepare_23, L.1, if_neg (by rw [le32_iff] <;> omega), e, pbI_rI, if_pos (by omega), Int.toNat_natCast, show ((k : Int) + 1) = ((k + 1 : Nat) : Int) by omega]
    exact e'
theorem x_prep (hd : 7 ≤ d) (W : WF G) (h1 : 1 ≤ hR G) (X : XH M G) (K : CL M G) (P : PL M G 58 p) (L : LIt G M) : ((∃ i, i < nG G ∧ tgP G p i) → ∃ τ M', τ < nG G ∧ tgP G p τ ∧ xF d 113 [.inr 54, .inr 9, .inr 60] M = rI 1 M' ∧ PR G M' τ ∧ ∀ o i, o ≠ 54 → o ≠ 55 → ¬ (o = 52 ∧ i = 7) → M' o i = M o i) ∧ ((∀ i, i < nG G → ¬ tgP G p i) → ∃ M', xF d 113 [.inr 54, .inr 9, .inr 60] M = rI 0 M') := by
  obtain ⟨D, rfl, hD⟩ := dsucc hd
  have w3 := W.2.2.1
  have n3 := L.2.2.1
  have hp : ∀ t, t < hT G → 0 ≤ p t ∧ p t < hR G := fun t ht => (P t ht).2
  rw [T_Journey_prepare, c_parted_58 (by omega) W X P, pbI_rI]
  constructor
  · intro ⟨i0, i1, i2⟩
    have z := tg_ptd W hp i2
    rw [if_neg (fun y => y (by rw [z]; decide))]
    rcases x_find (d := D) (by omega) W h1 X K P L with ⟨τ, t1, t2, t3⟩ | ⟨no, -⟩
    · have f1 : ∀ o i, ¬ (o = 52 ∧ i = 7) → pset M 52 7 (τ : Int) o i = M o i := fun o i h => if_neg h
      have X1 : XH (pset M 52 7 (τ : Int)) G := XH_eq X (fun o i _ _ _ => f1 o i (by omega))
      have K1 : CL (pset M 52 7 (τ : Int)) G := ⟨by rw [f1 7 12 (by omega)]; exact K.1, fun i hi => by rw [f1 15 i (by omega)]; exact K.2.1 i hi, fun t ht => by rw [f1 16 t (by omega)]; exact K.2.2 t ht⟩
      obtain ⟨M2, e2, C2, f2⟩ := x_fill (d := D) (by omega) W X1 K1
      have f3 : ∀ o i, o ≠ 54 → ¬ (o = 52 ∧ i = 7) → M2 o i = M o i := fun o i a b => by rw [f2 o i a, f1 o i b]
      obtain ⟨M3, e3, r3, f4⟩ := x_p23 (D := D) (by omega) W h1 t1 (nG G) 0 M2 (by omega) (XH_eq X (fun o i _ _ _ => f3 o i (by omega) (by omega))) ⟨by rw [f3 7 12 (by omega) (by omega)]; exact K.1, fun i hi => by rw [f3 15 i (by omega) (by omega)]; exact K.2.1 i hi, fun t ht => by rw [f3 16 t (by omega) (by omega)]; exact K.2.2 t ht⟩ (LI_ag (fun o i ho => f3 o i (by omega) (by omega)) L) C2 (by rw [f2 52 7 (by decide), pset_eq]) (fun i hi => absurd hi (Nat.not_lt_zero i))
      refine ⟨τ, M3, t1, t2, ?_, r3, fun o i a b c => by rw [f4 o i b, f3 o i a c]⟩
      rw [t3, pbI_rI, pset_eq, if_pos (by rw [eq32_iff] <;> omega), e2, pbN_rV]
      exact e3
    · exact absurd i2 (no i0 i1)
  · intro no
    by_cases z : ptd G p = 0
    · rw [if_neg (fun y => y (by rw [z]; decide))]
      rcases x_find (d := D) (by omega) W h1 X K P L with ⟨τ, t1, t2, t3⟩ | ⟨-, t3⟩
      · exact absurd t2 (no τ t1)
      · rw [t3, pbI_rI, pset_eq, if_neg (fun y => y (by decide))]
        exact ⟨_, rfl⟩
    · have z' : ¬ eq32 ((ptd G p : Nat) : Int) 0 := (bits_ne (by omega)).mpr z
      rw [if_pos z', pset_eq, if_neg (fun y => y (by decide))]
      exact ⟨_, rfl⟩
/-- who can come to whom, and from now -/
def EE (G : pM) (w : Int) (i j : Nat) : Prop := xcG G (plN G i) (plN G j) ≤ w
def E0 (G : pM) (w : Int) (j : Nat) : Prop := xcG G (nowN G) (plN G j) ≤ w
def Lv (G : pM) (w : Int) (τ k i : Nat) : Prop := lD (EE G w) (nG G) τ k i
/-- what is asked: from now on to some that can be come from within k evenings -/
def AtN (G : pM) (w : Int) (τ k : Nat) : Prop := ∃ j, j < nG G ∧ Lv G w τ k j ∧ E0 G w j
end FEW
/-! the list and its costs on the other side -/
section AIF
variable {D d : Nat} {M M' M1 N G : pM} {p : Nat → Int} {f g : Nat → Nat} {v y w : Int}
theorem m_cl83 (hD : 4 ≤ D) (W : WF G) (X : MH M G) {a b : Nat} (ha : a ≤ 300) (hb : b ≤ 300) (hf : ∀ t, t < hT G → M 83 (10 * a + t) = (f t : Int) ∧ f t < hR G) (hg : ∀ t, t < hT G → M 83 (10 * b + t) = (g t : Int) ∧ g t < hR G) : ∀ (m k : Nat) (y : pV) (N : pM), k + m = hT G → (∀ o i, o ≠ 74 → N o i = M o i) → (∀ t, t < k → 0 ≤ cst G t (f t) (g t)) → ∃ M', xE D 209 4 [.inr 62, .inr 85, .inl (10 * (a : Int)), .inr 85, .inl (10 * (b : Int)), .inl (sumTo (fun t => cst G t (f t) (g t)) k), .inl (k : Int), y] [] N = rI (rcG G f g) M' ∧ ∀ o i, o ≠ 74 → M' o i = M o i := by
  have w1 := W.1
  have w2 := W.2.1
  intro m
  induction m with
  | zero =>
    intro k y N hk F C
    have e : k = hT G := by omega
    rw [L_M_costOf_83_83_4, F 60 3 (by decide), X.2.1, if_pos (by rw [le32_iff] <;> omega)]
    have c : rcG G f g = sumTo (fun t => cst G t (f t) (g t)) (hT G) := if_pos (allTo_iff.mpr fun t ht => decide_eq_true (C t (by omega)))
    rw [c, e]
    exact ⟨N, rfl, F⟩
  | succ m ih =>
    intro k y N hk F C
    have hkT : k < hT G := by omega
    have hw := W.2.2.2.2.2.2.2.1 k hkT
    obtain ⟨f1, f2⟩ := hf k hkT
    obtain ⟨g1, g2⟩ := hg k hkT
    obtain ⟨y1, y2, y3, y4⟩ := X.2.2.2.2.2.1 k hkT
    have sr := stp_range W (G 4 k) (f k) (g k)
    have st : sumTo (fun t => cst G t (f t) (g t)) (k + 1) = sumTo (fun t => cst G t (f t) (g t)) k + cst G k (f k) (g k) := rfl
    rw [L_M_costOf_83_83_4, F 60 3 (by decide), X.2.1, if_neg (by rw [le32_iff] <;> omega), if_pos (by omega), if_pos (by omega), Int.toNat_natCast, show (10 * (a : Int) + (k : Int)).toNat = 10 * a + k by omega, show (10 * (b : Int) + (k : Int)).toNat = 10 * b + k by omega, F 83 _ (by decide), F 83 _ (by decide), f1, g1, show ((k : Int) + 1) = ((k + 1 : Nat) : Int) by omega]
    by_cases q : f k = g k
    · have z : cst G k (f k) (g k) = 0 := by
        rw [q]
        unfold cst
        rw [stp_self (by omega), if_neg (by decide), Int.zero_mul]
      rw [if_neg (fun z => z (by rw [q])), if_pos (by decide), if_pos (by omega), Int.zero_mul, show sumTo (fun t => cst G t (f t) (g t)) k + 0 = sumTo (fun t => cst G t (f t) (g t)) (k + 1) by rw [st, z]]
      exact ih (k + 1) _ N (by omega) F (fun t ht => by
        rcases Nat.lt_or_ge t k with u | u
        · exact C t u
        · have : t = k := by omega
          rw [this, z]; exact Int.le_refl 0)
    · obtain ⟨M1, u1, u2⟩ := m_stepsF (d := D) (M := N) (by omega) W hkT (a := f k) (b := g k) f2 g2 (by rw [F 64 k (by decide)]; exact y2) (fun i hi => by rw [F 62 i (by decide)]; exact X.2.2.2.2.1 i hi) (by rw [F 60 0 (by decide)]; exact X.1)
      have F1 : ∀ o i, o ≠ 74 → M1 o i = M o i := fun o i z => by rw [u2 o i z, F o i z]
      rw [if_pos (by rw [eq32_iff] <;> omega), if_pos (by omega), if_pos (by omega), u1, pbI_rI]
      unfold fv
      by_cases s : stp G (G 4 k) (f k) (g k) < 0
      · rw [if_pos s, if_neg (by decide)]
        have c : rcG G f g = 1000000 := by
          unfold rcG
          rw [if_neg]
          intro z
          have := of_decide_eq_true (allTo_iff.mp z k hkT)
          unfold cst at this
          rw [if_pos s] at this
          exact absurd this (by decide)
        rw [c]
        exact ⟨M1, rfl, F1⟩
      · have z : cst G k (f k) (g k) = stp G (G 4 k) (f k) (g k) * G 5 k := if_neg s
        rw [if_neg s, if_pos (by rw [lt32_iff] <;> omega), if_pos (by omega), F1 65 k (by decide), y3, ← z, ← st]
        exact ih (k + 1) _ M1 (by omega) F1 (fun t ht => by
          rcases Nat.lt_or_ge t k with u | u
          · exact C t u
          · have : t = k := by omega
            rw [this, z]
            exact Int.mul_nonneg (by omega) (by omega))
theorem m_cost83 (hd : 5 ≤ d) (W : WF G) (X : MH M G) {a b : Nat} (ha : a ≤ 300) (hb : b ≤ 300) (hf : ∀ t, t < hT G → M 83 (10 * a + t) = (f t : Int) ∧ f t < hR G) (hg : ∀ t, t < hT G → M 83 (10 * b + t) = (g t : Int) ∧ g t < hR G) : ∃ M', xF d 209 [.inr 62, .inr 85, .inl (10 * (a : Int)), .inr 85, .inl (10 * (b : Int))] M = rI (rcG G f g) M' ∧ ∀ o i, o ≠ 74 → M' o i = M o i := by
  obtain ⟨D, rfl, hD⟩ := dsucc hd
  obtain ⟨M', e, h⟩ := m_cl83 (D := D) hD W X ha hb hf hg (hT G) 0 (.inr 0) M (by omega) (fun _ _ _ => rfl) (fun t ht => absurd ht (Nat.not_lt_zero t))
  exact ⟨M', (T_M_costOf_83_83 D _ _ M).trans e, h⟩
theorem SR_ag {a : Nat} (e : ∀ o i, o ≠ 74 → o ≠ 83 → o ≠ 84 → ¬ (o = 60 ∧ (i = 48 ∨ i = 49)) → M' o i = M o i) (g : gM gAll M') (S : SR M G a) : SR M' G a := by
  obtain ⟨-, s2, s3, s4, s5, s6, s7, s8⟩ := S
  exact ⟨g, MH_c (fun o i h1 h2 => e o i (by omega) (by omega) (by omega) (by omega)) s2, by rw [e 60 38 (by decide) (by decide) (by decide) (by omega)]; exact s3, by rw [e 60 30 (by decide) (by decide) (by decide) (by omega)]; exact s4, by rw [e 60 39 (by decide) (by decide) (by decide) (by omega)]; exact s5, by rw [e 60 40 (by decide) (by decide) (by decide) (by omega)]; exact s6, fun t ht => by rw [e 72 t (by decide) (by decide) (by decide) (by omega)]; exact s7 t ht, fun i hi => by rw [e 73 i (by decide) (by decide) (by decide) (by omega)]; exact s8 i hi⟩
/-- row i of the list: 0 is what is now -/
noncomputable def rowN (G : pM) (i : Nat) : Nat → Nat := if i = 0 then nowN G else plN G (i - 1)
theorem rowN_0 : rowN G 0 = nowN G := if_pos rfl
theorem rowN_s (i : Nat) : rowN G (i + 1) = plN G i := if_neg (Nat.succ_ne_zero i)
theorem rowN_lt (W : WF G) (h1 : 1 ≤ hR G) (i : Nat) {t : Nat} (ht : t < hT G) : rowN G i t < hR G := by
  have := (W.2.2.2.2.2.2.2.1 t ht).2.2.2
  unfold rowN
  split
  · show (G 6 t).toNat < hR G
    omega
  · exact dg_lt h1 _
/-- what is left as it was -/
def AFr (M M' : pM) : Prop := ∀ o i, o ≠ 74 → o ≠ 78 → o ≠ 79 → o ≠ 83 → o ≠ 84 → ¬ (o = 60 ∧ (i = 40 ∨ i = 48 ∨ i = 49)) → M' o i = M o i
theorem AFr_tr (h1 : AFr M M1) (h2 : AFr M1 M') : AFr M M' := fun o i a b c e f g => (h2 o i a b c e f g).trans (h1 o i a b c e f g)
/-- the rows that are found up to a code -/
def AR (G : pM) (p : Nat → Int) (M : pM) (a : Nat) : Prop := M 60 48 = ((cntTo (fnG G) a + 1 : Nat) : Int) ∧ (∀ t, t < hT G → M 83 t = (nowN G t : Int)) ∧ (∀ c, c < a → fnG G c = true → ∀ t, t < hT G → M 83 (10 * (cntTo (fnG G) c + 1) + t) = (plG G c t : Int)) ∧ ((M 60 49 = -1 ∧ ∀ c, c < a → fnG G c = true → ¬ ∀ t, t < hT G → (plG G c t : Int) = p t) ∨ ∃ c, c < a ∧ fnG G c = true ∧ (∀ t, t < hT G → (plG G c t : Int) = p t) ∧ M 60 49 = ((cntTo (fnG G) c + 1 : Nat) : Int))
theorem m_fa42F (W : WF G) (h1 : 1 ≤ hR G) {n c : Nat} (hn : n ≤ 300) : ∀ m t (x1 : Int) (M : pM), t + m = hT G → gM gAll M → M 60 3 = (hT G : Int) → M 60 48 = (n : Int) → PL M G 81 p → (∀ t, t < hT G → M 78 t = (plG G c t : Int)) → ((x1 = 1 ∧ ∀ s, s < t → (plG G c s : Int) = p s) ∨ (x1 = 0 ∧ ¬ ∀ s, s < hT G → (plG G c s : Int) = p s)) → (∀ s, s < t → M 83 (10 * n + s) = (plG G c s : Int)) → ∃ (z v : Int) (M2 : pM), xE D 260 42 [.inr 62, .inl x1, .inl (t : Int)] [] M = xE D 260 29 [.inr 62, .inl z, .inl (hT G : Int)] [] (pset (pset M2 60 49 v) 60 48 ((n : Int) + 1)) ∧ gM gAll M2 ∧ (∀ o i, ¬ (o = 83 ∧ 10 * n ≤ i ∧ i < 10 * n + hT G) → M2 o i = M o i) ∧ (∀ s, s < hT G → M2 83 (10 * n + s) = (plG G c s : Int)) ∧ ((v = (n : Int) ∧ ∀ s, s < hT G → (plG G c s : Int) = p s) ∨ (v = M 60 49 ∧ ¬ ∀ s, s < hT G → (plG G c s : Int) = p s)) := by
  have w1 := W.1
  have w2 := W.2.1
  intro m
  induction m with
  | zero =>
    intro t x1 M ht hM h3 h48 P h78 hx h83
    rw [L_M_findAims_42, h3, if_pos (by rw [le32_iff] <;> omega), show t = hT G by omega]
    rcases hx with ⟨rfl, hx⟩ | ⟨rfl, hx⟩
    · rw [if_neg (by decide), pset_ne2 (by decide), h48]
      exact ⟨1, n, M, rfl, hM, fun _ _ _ => rfl, fun s hs => h83 s (by omega), Or.inl ⟨rfl, fun s hs => hx s (by omega)⟩⟩
    · rw [if_pos (by decide), pset_ne2 (by decide), h48]
      exact ⟨0, M 60 49, M, rfl, hM, fun _ _ _ => rfl, fun s hs => h83 s (by omega), Or.inr ⟨rfl, hx⟩⟩
  | succ m ih =>
    intro t x1 M ht hM h3 h48 P h78 hx h83
    have hp := (P t (by omega)).2
    have b : plG G c t < hR G := dg_lt h1 _
    have e2 : ((10 * (n : Int) + (t : Int)).toNat) = 10 * n + t := by omega
    have s1 : pset M 83 (10 * n + t) ((plG G c t : Nat) : Int) 78 t = (plG G c t : Int) := by rw [pset_ne (by decide)]; exact h78 t (by omega)
    have s2 : pset M 83 (10 * n + t) ((plG G c t : Nat) : Int) 81 t = p t := by rw [pset_ne (by decide)]; exact (P t (by omega)).1
    have go : ∀ z1 : Int, ((z1 = 1 ∧ ∀ s, s < t + 1 → (plG G c s : Int) = p s) ∨ (z1 = 0 ∧ ¬ ∀ s, s < hT G → (plG G c s : Int) = p s)) → ∃ (z v : Int) (M2 : pM), xE D 260 42 [.inr 62, .inl z1, .inl ((t + 1 : Nat) : Int)] [] (pset M 83 (10 * n + t) ((plG G c t : Nat) : Int)) = xE D 260 29 [.inr 62, .inl z, .inl (hT G : Int)] [] (pset (pset M2 60 49 v) 60 48 ((n : Int) + 1)) ∧ gM gAll M2 ∧ (∀ o i, ¬ (o = 83 ∧ 10 * n ≤ i ∧ i < 10 * n + hT G) → M2 o i = M o i) ∧ (∀ s, s < hT G → M2 83 (10 * n + s) = (plG G c s : Int)) ∧ ((v = (n : Int) ∧ ∀ s, s < hT G → (plG G c s : Int) = p s) ∨ (v = M 60 49 ∧ ¬ ∀ s, s < hT G → (plG G c s : Int) = p s)) := fun z1 hz => by
      obtain ⟨z, v, M2, e, g, f, r, hv⟩ := ih (t + 1) z1 (pset M 83 (10 * n + t) ((plG G c t : Nat) : Int)) (by omega) (gM_83 hM (by omega) (by omega)) (by rw [pset_ne (by decide)]; exact h3) (by rw [pset_ne (by decide)]; exact h48) (fun u hu => by rw [pset_ne (by decide)]; exact P u hu) (fun u hu => by rw [pset_ne (by decide)]; exact h78 u hu) hz (fun s hs => by
        by_cases u : s = t
        · rw [u, pset_eq]
        · rw [pset_ne2 (by omega)]; exact h83 s (by omega))
      rw [pset_ne (by decide)] at hv
      refine ⟨z, v, M2, e, g, fun o i ho => ?_, r, hv⟩
      rw [f o i ho]
      exact if_neg (fun u => ho ⟨u.1, by omega, by omega⟩)
    rw [L_M_findAims_42, h3, if_neg (by rw [le32_iff] <;> omega), if_pos (by omega), h48, if_pos (by omega), Int.toNat_natCast, e2, h78 t (by omega), show ((t : Int) + 1) = ((t + 1 : Nat) : Int) by omega]
    rcases hx with ⟨rfl, hx⟩ | ⟨rfl, hx⟩
    · rw [if_neg (by decide), if_pos (by omega), if_pos (by omega), s1, s2]
      by_cases q : (plG G c t : Int) = p t
      · rw [if_neg (fun z => z (by rw [q]))]
        refine go 1 (Or.inl ⟨rfl, fun s hs => ?_⟩)
        by_cases u : s = t
        · rw [u]; exact q
        · exact hx s (by omega)
      · rw [if_pos (by rw [eq32_iff] <;> omega)]
        exact go 0 (Or.inr ⟨rfl, fun z => q (z t (by omega))⟩)
    · rw [if_pos (by decide)]
      exact go 0 (Or.inr ⟨rfl, hx⟩)
/-- the matrix -/
theorem m_fa100F (hD : 5 ≤ D) (W : WF G) (h1 : 1 ≤ hR G) {n a : Nat} (hn : n ≤ 301) (ha : a < n) : ∀ m b (M : pM), b + m = n → MH M G → M 60 48 = (n : Int) → (∀ i, i < n → ∀ t, t < hT G → M 83 (10 * i + t) = (rowN G i t : Int)) → ∃ M2, xE D 260 100 [.inr 62, .inl (a : Int), .inl (b : Int)] [] M = xE D 260 94 [.inr 62, .inl ((a + 1 : Nat) : Int), .inl (n : Int)] [] M2 ∧ (∀ j, b ≤ j → j < n → M2 84 (301 * a + j) = rcG G (rowN G a) (rowN G j)) ∧ ∀ o i, o ≠ 74 → ¬ (o = 84 ∧ 301 * a + b ≤ i ∧ i < 301 * a + n) → M2 o i = M o i
  | 0, b, M, hb, X, h48, h83 => by
    rw [L_M_findAims_100, h48, if_pos (by rw [le32_iff] <;> omega), show ((a : Int) + 1) = ((a + 1 : Nat) : Int) by omega, show b = n by omega]
    exact ⟨M, rfl, fun j j1 j2 => by omega, fun _ _ _ _ => rfl⟩
  | m + 1, b, M, hb, X, h48, h83 => by
    obtain ⟨M1, e1, f1⟩ := m_cost83 (d := D) (f := rowN G a) (g := rowN G b) hD W X (a := a) (b := b) (by omega) (by omega) (fun t ht => ⟨h83 a (by omega) t ht, rowN_lt W h1 a ht⟩) (fun t ht => ⟨h83 b (by omega) t ht, rowN_lt W h1 b ht⟩)
    have f2 : ∀ o i, o ≠ 74 → ¬ (o = 84 ∧ i = 301 * a + b) → pset M1 84 (301 * a + b) (rcG G (rowN G a) (rowN G b)) o i = M o i := fun o i u1 u2 => by
      rw [← f1 o i u1]; exact if_neg u2
    obtain ⟨M2, e, r, f⟩ := m_fa100F hD W h1 hn ha m (b + 1) (pset M1 84 (301 * a + b) (rcG G (rowN G a) (rowN G b))) (by omega) (MH_c (fun o i u1 u2 => f2 o i (by omega) (by omega)) X) (by rw [f2 60 48 (by decide) (by omega)]; exact h48) (fun i hi t ht => by rw [f2 83 _ (by decide) (by omega)]; exact h83 i hi t ht)
    refine ⟨M2, ?_, fun j j1 j2 => ?_, fun o i u1 u2 => by rw [f o i u1 (by omega), f2 o i u1 (by omega)]⟩
    · rw [L_M_findAims_100, h48, if_neg (by rw [le32_iff] <;> omega), e1, pbI_rI, if_pos (by omega), show (301 * (a : Int) + (b : Int)).toNat = 301 * a + b by omega, show ((b : Int) + 1) = ((b + 1 : Nat) : Int) by omega]
      exact e
    · by_cases u : j = b
      · rw [u, f 84 _ (by decide) (by omega), pset_eq]
      · exact r j (by omega) j2
theorem m_fa94F (hD : 5 ≤ D) (W : WF G) (h1 : 1 ≤ hR G) {n : Nat} (hn : n ≤ 301) : ∀ m a (y : pV) (M : pM), a + m = n → MH M G → M 60 48 = (n : Int) → (∀ i, i < n → ∀ t, t < hT G → M 83 (10 * i + t) = (rowN G i t : Int)) → (∀ i, i < a → ∀ j, 1 ≤ j → j < n → M 84 (301 * i + j) = rcG G (rowN G i) (rowN G j)) → ∃ M2, xE D 260 94 [.inr 62, .inl (a : Int), y] [] M = rI 1 M2 ∧ (∀ i, i < n → ∀ j, 1 ≤ j → j < n → M2 84 (301 * i + j) = rcG G (rowN G i) (rowN G j)) ∧ ∀ o i, o ≠ 74 → o ≠ 84 → M2 o i = M o i
  | 0, a, y, M, ha, X, h48, h83, h84 => by
    rw [L_M_findAims_94, h48, if_pos (by rw [le32_iff] <;> omega)]
    exact ⟨M, rfl, fun i hi => h84 i (by omega), fun _ _ _ _ => rfl⟩
  | m + 1, a, y, M, ha, X, h48, h83, h84 => by
    obtain ⟨M1, e1, r1, f1⟩ := m_fa100F (D := D) hD W h1 hn (show a < n by omega) (n - 1) 1 M (by omega) X h48 h83
    obtain ⟨M2, e, r, f⟩ := m_fa94F hD W h1 hn m (a + 1) (.inl (n : Int)) M1 (by omega) (MH_c (fun o i u1 u2 => f1 o i (by omega) (by omega)) X) (by rw [f1 60 48 (by decide) (by omega)]; exact h48) (fun i hi t ht => by rw [f1 83 _ (by decide) (by omega)]; exact h83 i hi t ht) (fun i hi j j1 j2 => by
      by_cases u : i = a
      · rw [u]; exact r1 j j1 j2
      · rw [f1 84 _ (by decide) (by omega)]; exact h84 i (by omega) j j1 j2)
    refine ⟨M2, ?_, r, fun o i u1 u2 => by rw [f o i u1 u2, f1 o i u1 (fun z => u2 z.1)]⟩
    rw [L_M_findAims_94, h48, if_neg (by rw [le32_iff] <;> omega), show (.inl 1 : pV) = .inl ((1 : Nat) : Int) from rfl, e1]
    exact e
/-- what is found -/
def AK (G : pM) (p : Nat → Int) (M : pM) : Prop := M 60 48 = ((nG G + 1 : Nat) : Int) ∧ ((M 60 49 = -1 ∧ ∀ i, i < nG G → ¬ tgP G p i) ∨ ∃ τ, τ < nG G ∧ tgP G p τ ∧ M 60 49 = ((τ + 1 : Nat) : Int)) ∧ ∀ i, i < nG G + 1 → ∀ j, 1 ≤ j → j < nG G + 1 → M 84 (301 * i + j) = rcG G (rowN G i) (rowN G j)
theorem AR_end (A : AR G p M (hR G ^ nC G)) : (∀ i, i < nG G + 1 → ∀ t, t < hT G → M 83 (10 * i + t) = (rowN G i t : Int)) ∧ ((M 60 49 = -1 ∧ ∀ i, i < nG G → ¬ tgP G p i) ∨ ∃ τ, τ < nG G ∧ tgP G p τ ∧ M 60 49 = ((τ + 1 : Nat) : Int)) := by
  obtain ⟨a1, a2, a3, a4⟩ := A
  refine ⟨fun i hi t ht => ?_, ?_⟩
  · cases i with
    | zero => rw [rowN_0, Nat.mul_zero, Nat.zero_add]; exact a2 t ht
    | succ i =>
      obtain ⟨b1, b2, b3⟩ := cdG_at (show i < nG G by omega)
      have := a3 _ b1 b2 t ht
      rw [b3] at this
      rw [rowN_s]; exact this
  · rcases a4 with ⟨u1, u2⟩ | ⟨c, c1, c2, c3, c4⟩
    · refine Or.inl ⟨u1, fun i hi => ?_⟩
      obtain ⟨b1, b2, -⟩ := cdG_at hi
      exact u2 _ b1 b2
    · refine Or.inr ⟨cntTo (fnG G) c, cnt_up c2 c1, fun t ht => ?_, c4⟩
      unfold plN
      rw [cdG_of c1 c2]
      exact c3 t ht
theorem m_fa29F (hD : 5 ≤ D) (W : WF G) (hW : hR G ^ nC G ≤ 20000) (h1 : 1 ≤ hR G) : ∀ m a (x1 : Int) (y2 : pV) (M : pM), hR G ^ nC G - a + 1 ≤ m → a ≤ hR G ^ nC G → SR M G a → PL M G 81 p → AR G p M a → cntTo (fnG G) a ≤ 300 → ∃ z M', xE D 260 29 [.inr 62, .inl x1, y2] [] M = rI z M' ∧ ((nG G ≤ 300 ∧ z = 1 ∧ AK G p M') ∨ (¬ nG G ≤ 300 ∧ z = 0)) ∧ AFr M M' := by
  have w2 := W.2.1
  intro m
  induction m with
  | zero => intro a x1 y2 M hm; omega
  | succ m ih =>
    intro a x1 y2 M hm ha S P A hc
    obtain ⟨N, n1, g1, r⟩ := m_nextG (d := D) (by omega) W hW ha S
    have A0 := A
    obtain ⟨a1, a2, a3, a4⟩ := A
    have k48 : N 60 48 = ((cntTo (fnG G) a + 1 : Nat) : Int) := by rw [n1 60 48 (by decide) (by decide) (by omega)]; exact a1
    have k49 : N 60 49 = M 60 49 := n1 60 49 (by decide) (by decide) (by omega)
    have k83 : ∀ i, N 83 i = M 83 i := fun i => n1 83 i (by decide) (by decide) (by omega)
    have PN : PL N G 81 p := fun t ht => by rw [n1 81 t (by decide) (by decide) (by omega)]; exact P t ht
    have f1 : AFr M N := fun o i _ b c _ _ e => n1 o i b c (fun z => e ⟨z.1, Or.inl z.2⟩)
    rw [L_M_findAims_29]
    rcases r with ⟨r1, c, c1, c2, c3, c4, c5, c6⟩ | ⟨r1, nf⟩
    · have ct : cntTo (fnG G) c = cntTo (fnG G) a := cnt_to c1 c4
      have cs : cntTo (fnG G) (c + 1) = cntTo (fnG G) a + 1 := by rw [cnt_succ, if_pos c3, ct]
      rw [r1, pbI_rI, if_neg (by decide), k48]
      by_cases q : cntTo (fnG G) a + 1 ≤ 300
      · obtain ⟨z, v, M2, e2, g2, f2, r2, hv⟩ := m_fa42F (D := D) (p := p) W h1 (n := cntTo (fnG G) a + 1) (c := c) q (hT G) 0 1 N (by omega) g1 c5.2.1.2.1 k48 PN c6 (Or.inl ⟨rfl, fun s hs => absurd hs (Nat.not_lt_zero s)⟩) (fun s hs => absurd hs (Nat.not_lt_zero s))
        have f3 : ∀ o i, o ≠ 83 → ¬ (o = 60 ∧ (i = 48 ∨ i = 49)) → pset (pset M2 60 49 v) 60 48 (((cntTo (fnG G) a + 1 : Nat) : Int) + 1) o i = N o i := fun o i u1 u2 => by
          unfold pset
          rw [if_neg (fun z => u2 ⟨z.1, by omega⟩), if_neg (fun z => u2 ⟨z.1, by omega⟩), f2 o i (fun z => u1 z.1)]
        have f83 : ∀ i, pset (pset M2 60 49 v) 60 48 (((cntTo (fnG G) a + 1 : Nat) : Int) + 1) 83 i = M2 83 i := fun i => by rw [pset_ne (by decide), pset_ne (by decide)]
        have hv2 : -1 ≤ v ∧ v ≤ 300 := by
          rcases hv with ⟨u, -⟩ | ⟨u, -⟩
          · omega
          · rw [u, k49]
            rcases a4 with ⟨u2, -⟩ | ⟨c', u1, u2, u3, u4⟩
            · omega
            · have := cnt_mono (g := fnG G) a (show c' ≤ a by omega)
              omega
        have g3 : gM gAll (pset (pset M2 60 49 v) 60 48 (((cntTo (fnG G) a + 1 : Nat) : Int) + 1)) := gM_f (gM_f g2 (lo := -1) (hi := 300) (by decide +kernel) hv2.1 hv2.2) (lo := 0) (hi := 301) (by decide +kernel) (by omega) (by omega)
        have S3 := SR_ag (fun o i _ u1 _ u2 => f3 o i u1 u2) g3 c5
        have A3 : AR G p (pset (pset M2 60 49 v) 60 48 (((cntTo (fnG G) a + 1 : Nat) : Int) + 1)) (c + 1) := by
          refine ⟨by rw [pset_eq, cs]; omega, fun t ht => ?_, fun c' u1 u2 t ht => ?_, ?_⟩
          · rw [f83, f2 83 t (by omega), k83]; exact a2 t ht
          · rw [f83]
            by_cases z : c' = c
            · rw [z, ct]; exact r2 t ht
            · have la : c' < a := by
                rcases Nat.lt_or_ge c' a with u | u
                · exact u
                · rw [c4 c' u (by omega)] at u2; cases u2
              have := cnt_up u2 la
              rw [f2 83 _ (by omega), k83]
              exact a3 c' la u2 t ht
          · have e49 : pset (pset M2 60 49 v) 60 48 (((cntTo (fnG G) a + 1 : Nat) : Int) + 1) 60 49 = v := by rw [pset_ne2 (by decide), pset_eq]
            rw [e49]
            rcases hv with ⟨u1, u2⟩ | ⟨u1, u2⟩
            · exact Or.inr ⟨c, Nat.lt_succ_self c, c3, u2, by rw [u1, ct]⟩
            · rw [u1, k49]
              rcases a4 with ⟨b1, b2⟩ | ⟨c', b1, b2⟩
              · refine Or.inl ⟨b1, fun c' d1 d2 => ?_⟩
                by_cases z : c' = c
                · rw [z]; exact u2
                · have la : c' < a := by
                    rcases Nat.lt_or_ge c' a with u | u
                    · exact u
                    · rw [c4 c' u (by omega)] at d2; cases d2
                  exact b2 c' la d2
              · exact Or.inr ⟨c', by omega, b2⟩
        obtain ⟨z', M', e, r, f⟩ := ih (c + 1) z (.inl (hT G : Int)) _ (by clear a4; omega) (by clear a4; omega) S3 (fun t ht => by rw [f3 81 t (by decide) (by omega)]; exact PN t ht) A3 (by omega)
        rw [if_pos (by rw [le32_iff] <;> omega), show (.inl 0 : pV) = .inl ((0 : Nat) : Int) from rfl, e2]
        exact ⟨z', M', e, r, AFr_tr f1 (AFr_tr (fun o i _ _ _ b _ e => f3 o i b (fun z => e ⟨z.1, Or.inr z.2⟩)) f)⟩
      · have := cnt_mono (g := fnG G) (a := c + 1) (hR G ^ nC G) c2
        rw [if_neg (by rw [le32_iff] <;> omega)]
        exact ⟨0, N, rfl, Or.inr ⟨by unfold nG; omega, rfl⟩, f1⟩
    · have ct : cntTo (fnG G) (hR G ^ nC G) = cntTo (fnG G) a := cnt_to ha nf
      have nn : nG G = cntTo (fnG G) a := ct
      have AN : AR G p N (hR G ^ nC G) := by
        refine ⟨by rw [ct]; exact k48, fun t ht => by rw [k83]; exact a2 t ht, fun c u1 u2 t ht => ?_, ?_⟩
        · have la : c < a := by
            rcases Nat.lt_or_ge c a with u | u
            · exact u
            · rw [nf c u u1] at u2; cases u2
          rw [k83]; exact a3 c la u2 t ht
        · rw [k49]
          rcases a4 with ⟨b1, b2⟩ | ⟨c', b1, b2⟩
          · refine Or.inl ⟨b1, fun c d1 d2 => ?_⟩
            have la : c < a := by
              rcases Nat.lt_or_ge c a with u | u
              · exact u
              · rw [nf c u d1] at d2; cases d2
            exact b2 c la d2
          · exact Or.inr ⟨c', by omega, b2⟩
      obtain ⟨b83, b49⟩ := AR_end AN
      have XN : MH N G := MH_c (fun o i u1 u2 => n1 o i (by omega) (by omega) (by omega)) S.2.1
      obtain ⟨M2, e, r, f⟩ := m_fa94F (D := D) hD W h1 (n := nG G + 1) (by omega) (nG G + 1) 0 y2 N (by omega) XN (by rw [k48, nn]) b83 (fun i hi => absurd hi (Nat.not_lt_zero i))
      rw [r1, pbI_rI, if_pos (by decide), show (.inl 0 : pV) = .inl ((0 : Nat) : Int) from rfl, e]
      refine ⟨1, M2, rfl, Or.inl ⟨by omega, rfl, by rw [f 60 48 (by decide) (by decide), k48, nn], by rw [f 60 49 (by decide) (by decide)]; exact b49, r⟩, AFr_tr f1 (fun o i u1 _ _ _ u2 _ => f o i u1 u2)⟩
theorem m_fa7F (hD : 1 ≤ D) (W : WF G) : ∀ m t (M : pM), t + m = hT G → gM gAll M → MH M G → (∀ s, s < t → M 83 s = (nowN G s : Int)) → ∃ M2, xE D 260 7 [.inr 62, .inl (t : Int), .inr 0] [] M = xE D 260 29 [.inr 62, .inl (hT G : Int), .inr 0] [] (pset (pset (pset M2 60 48 1) 60 49 (-1)) 60 40 (-1)) ∧ gM gAll M2 ∧ (∀ s, s < hT G → M2 83 s = (nowN G s : Int)) ∧ ∀ o i, o ≠ 83 → M2 o i = M o i
  | 0, t, M, ht, hM, X, h => by
    have w2 := W.2.1
    rw [L_M_findAims_7, X.2.1, if_pos (by rw [le32_iff] <;> omega), m_begin hD, pbN_rV, show t = hT G by omega]
    exact ⟨M, rfl, hM, fun s hs => h s (by omega), fun _ _ _ => rfl⟩
  | m + 1, t, M, ht, hM, X, h => by
    have w1 := W.1
    have w2 := W.2.1
    have b := (W.2.2.2.2.2.2.2.1 t (by omega)).2.2.2
    have e66 := (X.2.2.2.2.2.1 t (by omega)).2.2.2
    have en : G 6 t = (nowN G t : Int) := (Int.toNat_of_nonneg b.1).symm
    obtain ⟨M2, e, g, r, f⟩ := m_fa7F hD W m (t + 1) (pset M 83 t (nowN G t : Int)) (by omega) (gM_83 hM (by omega) (by omega)) (MH_c (fun o i u1 u2 => pset_ne (by omega)) X) (fun s hs => by
      by_cases u : s = t
      · rw [u, pset_eq]
      · rw [pset_ne2 u]; exact h s (by omega))
    refine ⟨M2, ?_, g, r, fun o i ho => by rw [f o i ho, pset_ne ho]⟩
    rw [L_M_findAims_7, X.2.1, if_neg (by rw [le32_iff] <;> omega), if_pos (by omega), if_pos (by omega), Int.toNat_natCast, e66, en, show ((t : Int) + 1) = ((t + 1 : Nat) : Int) by omega]
    exact e
theorem m_aims (hd : 6 ≤ d) (W : WF G) (h1 : 1 ≤ hR G) (hM : gM gAll M) (X : MH M G) (h38 : M 60 38 = 0) (P : PL M G 81 p) : ∃ z M', xF d 260 [.inr 62] M = rI z M' ∧ ((¬ tmG G ∧ nG G ≤ 300 ∧ z = 1 ∧ AK G p M') ∨ ((tmG G ∨ ¬ nG G ≤ 300) ∧ z = 0)) ∧ M' 60 3 = M 60 3 ∧ M' 60 12 = M 60 12 := by
  obtain ⟨D, rfl, hD⟩ := dsucc hd
  obtain ⟨N, g2, fN, p1, p2⟩ := m_tooMG (d := D) (by omega) hM W X h38
  rw [T_M_findAims]
  rcases Classical.em (tmG G) with q | q
  · rw [p1 q, pbI_rI, if_neg (by decide)]
    exact ⟨0, N, rfl, Or.inr ⟨Or.inl q, rfl⟩, fN 60 3 (by decide), fN 60 12 (by decide)⟩
  · obtain ⟨p3, p4⟩ := p2 q
    have hW : hR G ^ nC G ≤ 20000 := by unfold tmG at q; omega
    have XN : MH N G := MH_c (M := pset N 60 40 (-1)) (fun o i u1 u2 => by
      unfold pset
      rw [if_neg (fun z => u2 ⟨z.1, by omega, by omega, by omega⟩)]) p4.2.1
    obtain ⟨M2, e2, g3, r2, f2⟩ := m_fa7F (D := D) (by omega) W (hT G) 0 N (by omega) g2 XN (fun s hs => absurd hs (Nat.not_lt_zero s))
    have gg : gM gAll (pset (pset (pset M2 60 48 1) 60 49 (-1)) 60 40 (-1)) := gM_f (gM_f (gM_f g3 (lo := 0) (hi := 301) (by decide +kernel) (by omega) (by omega)) (lo := -1) (hi := 300) (by decide +kernel) (by omega) (by omega)) (lo := -1) (hi := 1000000) (by decide +kernel) (by omega) (by omega)
    have f3 : ∀ o i, o ≠ 83 → ¬ (o = 60 ∧ (i = 48 ∨ i = 49)) → pset (pset (pset M2 60 48 1) 60 49 (-1)) 60 40 (-1) o i = pset N 60 40 (-1) o i := fun o i u1 u2 => by
      unfold pset
      rw [if_neg (show ¬ (o = 60 ∧ i = 49) from fun z => u2 ⟨z.1, Or.inr z.2⟩), if_neg (show ¬ (o = 60 ∧ i = 48) from fun z => u2 ⟨z.1, Or.inl z.2⟩), f2 o i u1]
    have S := SR_ag (fun o i _ u1 _ u2 => f3 o i u1 u2) gg p4
    have c0 : cntTo (fnG G) 0 = 0 := rfl
    have PN : PL (pset (pset (pset M2 60 48 1) 60 49 (-1)) 60 40 (-1)) G 81 p := fun t ht => by rw [f3 81 t (by decide) (by omega), pset_ne (by decide), fN 81 t (by rfl)]; exact P t ht
    obtain ⟨z, M', e, r, f⟩ := m_fa29F (D := D) (p := p) (by omega) W hW h1 (hR G ^ nC G + 1) 0 (hT G : Int) (.inr 0) _ (by omega) (Nat.zero_le _) S PN ⟨by rw [pset_ne2 (by decide), pset_ne2 (by decide), pset_eq]; rfl, fun t ht => by rw [pset_ne (by decide), pset_ne (by decide), pset_ne (by decide)]; exact r2 t ht, fun c hc => absurd hc (Nat.not_lt_zero c), Or.inl ⟨by rw [pset_ne2 (by decide), pset_eq], fun c hc => absurd hc (Nat.not_lt_zero c)⟩⟩ (by omega)
    rw [p3, pbI_rI, if_pos (by decide), show (.inl 0 : pV) = .inl ((0 : Nat) : Int) from rfl, e2]
    refine ⟨z, M', e, ?_, ?_, ?_⟩
    · rcases r with ⟨b1, b2, b3⟩ | ⟨b1, b2⟩
      · exact Or.inl ⟨q, b1, b2, b3⟩
      · exact Or.inr ⟨Or.inr b1, b2⟩
    · rw [f 60 3 (by decide) (by decide) (by decide) (by decide) (by decide) (by omega), f3 60 3 (by decide) (by omega), pset_ne2 (by decide)]; exact fN 60 3 (by decide)
    · rw [f 60 12 (by decide) (by decide) (by decide) (by decide) (by decide) (by omega), f3 60 12 (by decide) (by omega), pset_ne2 (by decide)]; exact fN 60 12 (by decide)
end AIF
/-! the fewest evenings on the other side; evenings joined -/
section EVF
variable {D d : Nat} {M M' M1 M2 N G : pM} {p : Nat → Int} {w1 : List (Nat × Nat)} {v y w : Int}
theorem xr_le (W : WF G) (f g : Nat → Nat) (hw : w ≤ 999) : rcG G f g ≤ w ↔ xcG G f g ≤ w := by
  rcases xc_eq W f g with ⟨-, h⟩ | ⟨h1, h2⟩
  · rw [h]
  · exact ⟨fun z => by omega, fun z => by omega⟩
def rE (G : pM) (w : Int) (a b : Nat) : Prop := 1 ≤ b ∧ rcG G (rowN G a) (rowN G b) ≤ w
def rL (G : pM) (w : Int) (τ k a : Nat) : Prop := lD (rE G w) (nG G + 1) (τ + 1) k a
def rV2 (G : pM) (w : Int) (τ a e : Nat) : Prop := lvE (rE G w) (nG G + 1) (τ + 1) a e
theorem rL_in (W : WF G) (hw : w ≤ 999) {τ : Nat} : ∀ k i, i < nG G → (rL G w τ k (i + 1) ↔ Lv G w τ k i)
  | 0, i, hi => by
    show i + 1 = τ + 1 ↔ i = τ
    omega
  | k + 1, i, hi => by
    have ih := rL_in W hw (τ := τ) k
    constructor
    · intro h
      rcases h with h | ⟨b, b1, b2, b3, b4⟩
      · exact Or.inl ((ih i hi).mp h)
      · obtain ⟨j, rfl⟩ : ∃ j, b = j + 1 := ⟨b - 1, by omega⟩
        rw [rowN_s, rowN_s, xr_le W _ _ hw] at b4
        exact Or.inr ⟨j, by omega, (ih j (by omega)).mp b2, b4⟩
    · intro h
      rcases h with h | ⟨j, j1, j2, j3⟩
      · exact Or.inl ((ih i hi).mpr h)
      · refine Or.inr ⟨j + 1, by omega, (ih j j1).mpr j2, by omega, ?_⟩
        rw [rowN_s, rowN_s, xr_le W _ _ hw]
        exact j3
theorem rL_0 (W : WF G) (hw : w ≤ 999) {τ : Nat} (k : Nat) : rL G w τ (k + 1) 0 ↔ rL G w τ k 0 ∨ AtN G w τ k := by
  have ih := rL_in W hw (τ := τ) k
  constructor
  · intro h
    rcases h with h | ⟨b, b1, b2, b3, b4⟩
    · exact Or.inl h
    · obtain ⟨j, rfl⟩ : ∃ j, b = j + 1 := ⟨b - 1, by omega⟩
      rw [rowN_s, rowN_0, xr_le W _ _ hw] at b4
      exact Or.inr ⟨j, by omega, (ih j (by omega)).mp b2, b4⟩
  · intro h
    rcases h with h | ⟨j, j1, j2, j3⟩
    · exact Or.inl h
    · refine Or.inr ⟨j + 1, by omega, (ih j j1).mpr j2, by omega, ?_⟩
      rw [rowN_s, rowN_0, xr_le W _ _ hw]
      exact j3
theorem rL_no {τ : Nat} : ¬ rL G w τ 0 0 := fun h => by
  have : (0 : Nat) = τ + 1 := h
  omega
/-- the levels up to k are found -/
def EV (G : pM) (w : Int) (τ k : Nat) (M : pM) : Prop := ∀ a, a < nG G + 1 → (M 85 a = 1000000 ∧ ¬ rL G w τ k a) ∨ ∃ e : Nat, e ≤ k ∧ M 85 a = (e : Int) ∧ rV2 G w τ a e
def EJ (G : pM) (w : Int) (τ k x : Nat) (M : pM) : Prop := ∀ a, a < nG G + 1 → if a < x then ((M 85 a = 1000000 ∧ ¬ rL G w τ (k + 1) a) ∨ ∃ e : Nat, e ≤ k + 1 ∧ M 85 a = (e : Int) ∧ rV2 G w τ a e) else ((M 85 a = 1000000 ∧ ¬ rL G w τ k a) ∨ ∃ e : Nat, e ≤ k ∧ M 85 a = (e : Int) ∧ rV2 G w τ a e)
theorem EJ_lv {τ k x a : Nat} (hk : k ≤ 300) (h : EJ G w τ k x M) (ha : a < nG G + 1) : 0 ≤ M 85 a ∧ M 85 a ≤ 1000000 ∧ (M 85 a = (k : Int) ↔ rV2 G w τ a k) := by
  have g := h a ha
  have u : ∀ e : Nat, rV2 G w τ a e → rV2 G w τ a k → e = k := fun e x y => by
    rcases Nat.lt_trichotomy e k with z | z | z
    · exact absurd x.1 (y.2 e z)
    · exact z
    · exact absurd y.1 (x.2 k z)
  by_cases q : a < x
  · rw [if_pos q] at g
    rcases g with ⟨g1, g2⟩ | ⟨e, g1, g2, g3⟩
    · exact ⟨by omega, by omega, ⟨fun z => by omega, fun z => absurd (Or.inl z.1) g2⟩⟩
    · exact ⟨by omega, by omega, ⟨fun z => by rw [show k = e by omega]; exact g3, fun z => by rw [g2, u e g3 z]⟩⟩
  · rw [if_neg q] at g
    rcases g with ⟨g1, g2⟩ | ⟨e, g1, g2, g3⟩
    · exact ⟨by omega, by omega, ⟨fun z => by omega, fun z => absurd z.1 g2⟩⟩
    · exact ⟨by omega, by omega, ⟨fun z => by rw [show k = e by omega]; exact g3, fun z => by rw [g2, u e g3 z]⟩⟩
/-- how many, and the costs -/
def AM (G M : pM) : Prop := M 60 48 = ((nG G + 1 : Nat) : Int) ∧ nG G ≤ 300 ∧ ∀ i, i < nG G + 1 → ∀ j, 1 ≤ j → j < nG G + 1 → M 84 (301 * i + j) = rcG G (rowN G i) (rowN G j)
def NF5 (M M' : pM) : Prop := ∀ o i, o ≠ 85 → o ≠ 86 → M' o i = M o i
theorem AM_n (f : NF5 M M') (A : AM G M) : AM G M' := ⟨by rw [f 60 48 (by decide) (by decide)]; exact A.1, A.2.1, fun i hi j j1 j2 => by rw [f 84 _ (by decide) (by decide)]; exact A.2.2 i hi j j1 j2⟩
theorem NF5_tr (h1 : NF5 M M1) (h2 : NF5 M1 M') : NF5 M M' := fun o i a b => (h2 o i a b).trans (h1 o i a b)
theorem m_ev53 (W : WF G) (hw : 0 ≤ w ∧ w ≤ 999) {k a : Nat} (hk : k ≤ 300) (ha : a < nG G + 1) {Q : Nat → Int} (hQ : ∀ i, i < nG G + 1 → 0 ≤ Q i ∧ Q i ≤ 1000000) (Qa : Q a = 1000000) (mo : Int) : ∀ m b (more : Int) (y6 : pV) (M : pM), b + m = nG G + 1 → 1 ≤ b → AM G M → (∀ i, i ≠ a → M 85 i = Q i) → ((M 85 a = 1000000 ∧ more = mo ∧ ∀ c, 1 ≤ c → c < b → Q c = (k : Int) → ¬ rcG G (rowN G a) (rowN G c) ≤ w) ∨ (M 85 a = (k : Int) + 1 ∧ more = 1 ∧ ∃ c, 1 ≤ c ∧ c < nG G + 1 ∧ Q c = (k : Int) ∧ rcG G (rowN G a) (rowN G c) ≤ w)) → ∃ (more' : Int) (y5 y6' : pV) (M' : pM), xE D 262 53 [.inr 62, .inl w, .inl more, .inl ((k + 1 : Nat) : Int), .inl (a : Int), .inl (b : Int), y6] [] M = xE D 262 40 [.inr 62, .inl w, .inl more', .inl ((k + 1 : Nat) : Int), .inl ((a + 1 : Nat) : Int), y5, y6'] [] M' ∧ (∀ i, i ≠ a → M' 85 i = Q i) ∧ ((M' 85 a = 1000000 ∧ more' = mo ∧ ∀ c, 1 ≤ c → c < nG G + 1 → Q c = (k : Int) → ¬ rcG G (rowN G a) (rowN G c) ≤ w) ∨ (M' 85 a = (k : Int) + 1 ∧ more' = 1 ∧ ∃ c, 1 ≤ c ∧ c < nG G + 1 ∧ Q c = (k : Int) ∧ rcG G (rowN G a) (rowN G c) ≤ w)) ∧ NF5 M M'
  | 0, b, more, y6, M, hb, b1, A, h85, h => by
    have n3 := A.2.1
    rw [L_M_findEvenings_53, A.1, if_pos (by rw [le32_iff] <;> omega), show ((a : Int) + 1) = ((a + 1 : Nat) : Int) by omega]
    refine ⟨more, _, y6, M, rfl, h85, ?_, fun _ _ _ _ => rfl⟩
    rcases h with ⟨u1, u2, u3⟩ | u
    · exact Or.inl ⟨u1, u2, fun c c1 c2 => u3 c c1 (by omega)⟩
    · exact Or.inr u
  | m + 1, b, more, y6, M, hb, b1, A, h85, h => by
    have n3 := A.2.1
    have c0 := rc_range W (rowN G a) (rowN G b)
    have e84 := A.2.2 a ha b b1 (by omega)
    have qb := hQ b (by omega)
    have e85 : (M 85 b = (k : Int) ↔ Q b = (k : Int)) ∧ 0 ≤ M 85 b ∧ M 85 b ≤ 1000000 := by
      by_cases z : b = a
      · rw [z, Qa]
        rcases h with ⟨u1, -⟩ | ⟨u1, -⟩
        · rw [u1]; exact ⟨Iff.rfl, by omega, by omega⟩
        · rw [u1]; exact ⟨⟨fun _ => by omega, fun _ => by omega⟩, by omega, by omega⟩
      · rw [h85 b z]; exact ⟨Iff.rfl, qb⟩
    have skip : ∀ y6 : pV, ¬ (Q b = (k : Int) ∧ rcG G (rowN G a) (rowN G b) ≤ w) → ∃ (more' : Int) (y5 y6' : pV) (M' : pM), xE D 262 53 [.inr 62, .inl w, .inl more, .inl ((k + 1 : Nat) : Int), .inl (a : Int), .inl ((b + 1 : Nat) : Int), y6] [] M = xE D 262 40 [.inr 62, .inl w, .inl more', .inl ((k + 1 : Nat) : Int), .inl ((a + 1 : Nat) : Int), y5, y6'] [] M' ∧ (∀ i, i ≠ a → M' 85 i = Q i) ∧ ((M' 85 a = 1000000 ∧ more' = mo ∧ ∀ c, 1 ≤ c → c < nG G + 1 → Q c = (k : Int) → ¬ rcG G (rowN G a) (rowN G c) ≤ w) ∨ (M' 85 a = (k : Int) + 1 ∧ more' = 1 ∧ ∃ c, 1 ≤ c ∧ c < nG G + 1 ∧ Q c = (k : Int) ∧ rcG G (rowN G a) (rowN G c) ≤ w)) ∧ NF5 M M' := fun y6 no => by
      refine m_ev53 W hw hk ha hQ Qa mo m (b + 1) more y6 M (by omega) (by omega) A h85 ?_
      rcases h with ⟨u1, u2, u3⟩ | u
      · refine Or.inl ⟨u1, u2, fun c c1 c2 c3 c4 => ?_⟩
        by_cases z : c = b
        · rw [z] at c3 c4; exact no ⟨c3, c4⟩
        · exact u3 c c1 (by omega) c3 c4
      · exact Or.inr u
    rw [L_M_findEvenings_53, A.1, if_neg (by rw [le32_iff] <;> omega), if_pos (by omega), if_pos (by omega), Int.toNat_natCast, Int.toNat_natCast, show (301 * (a : Int) + (b : Int)).toNat = 301 * a + b by omega, e84, show ((b : Int) + 1) = ((b + 1 : Nat) : Int) by omega]
    by_cases q1 : M 85 b = (k : Int)
    · rw [if_neg (fun z => z (by rw [q1]; rw [eq32_iff] <;> omega))]
      by_cases q2 : rcG G (rowN G a) (rowN G b) ≤ w
      · rw [if_neg (by rw [lt32_iff] <;> omega), if_pos (by rw [lt32_iff] <;> omega), if_pos (by omega), if_pos (by omega), if_pos (by omega), if_pos (by omega)]
        generalize jmin _ _ = j
        have f2 : NF5 M (pset (pset M 85 a ((k + 1 : Nat) : Int)) 86 a j) := fun o i u1 u2 => by rw [pset_ne u2, pset_ne u1]
        obtain ⟨more', y5, y6', M', r1, r2, r3, r4⟩ := m_ev53 W hw hk ha hQ Qa mo m (b + 1) 1 (.inl (rcG G (rowN G a) (rowN G b))) (pset (pset M 85 a ((k + 1 : Nat) : Int)) 86 a j) (by omega) (by omega) (AM_n f2 A) (fun i hi => by rw [pset_ne (by decide), pset_ne2 hi]; exact h85 i hi) (Or.inr ⟨by rw [pset_ne (by decide), pset_eq]; omega, rfl, b, b1, by omega, e85.1.mp q1, q2⟩)
        exact ⟨more', y5, y6', M', r1, r2, r3, NF5_tr f2 r4⟩
      · rw [if_pos (by rw [lt32_iff] <;> omega)]
        exact skip _ (fun z => q2 z.2)
    · rw [if_pos (by rw [eq32_iff] <;> omega)]
      exact skip _ (fun z => q1 (e85.1.mpr z.1))
theorem m_ev40 (W : WF G) (hw : 0 ≤ w ∧ w ≤ 999) {τ k c0 : Nat} (hk : k ≤ 300) : ∀ m x (more : Int) (y5 y6 : pV) (M : pM), x + m = nG G + 1 → AM G M → EJ G w τ k x M → ((more = 0 ∧ cntF (M 85) (nG G + 1) = c0 ∧ ∀ i, i < x → rL G w τ (k + 1) i → rL G w τ k i) ∨ (more = 1 ∧ cntF (M 85) (nG G + 1) + 1 ≤ c0)) → ∃ (more' : Int) (y4 y5' y6' : pV) (M' : pM), xE D 262 40 [.inr 62, .inl w, .inl more, .inl ((k + 1 : Nat) : Int), .inl (x : Int), y5, y6] [] M = xE D 262 34 [.inr 62, .inl w, .inl more', .inl ((k + 1 + 1 : Nat) : Int), y4, y5', y6'] [] M' ∧ EV G w τ (k + 1) M' ∧ ((more' = 0 ∧ ∀ i, i < nG G + 1 → rL G w τ (k + 1) i → rL G w τ k i) ∨ (more' = 1 ∧ cntF (M' 85) (nG G + 1) + 1 ≤ c0)) ∧ NF5 M M'
  | 0, x, more, y5, y6, M, hx, A, J, h => by
    have n3 := A.2.1
    rw [L_M_findEvenings_40, A.1, if_pos (by rw [le32_iff] <;> omega), show (((k + 1 : Nat) : Int) + 1) = ((k + 1 + 1 : Nat) : Int) by omega]
    refine ⟨more, _, y5, y6, M, rfl, fun i hi => ?_, ?_, fun _ _ _ _ => rfl⟩
    · have := J i hi
      rw [if_pos (by omega)] at this
      exact this
    · rcases h with ⟨a, -, b⟩ | h
      · exact Or.inl ⟨a, fun i hi => b i (by omega)⟩
      · exact Or.inr h
  | m + 1, x, more, y5, y6, M, hx, A, J, h => by
    have n3 := A.2.1
    have hxn : x < nG G + 1 := by omega
    have gx := J x hxn
    rw [if_neg (Nat.lt_irrefl x)] at gx
    have lx := EJ_lv hk J hxn
    rw [L_M_findEvenings_40, A.1, if_neg (by rw [le32_iff] <;> omega), if_pos (by omega), Int.toNat_natCast]
    rcases gx with ⟨g1, g2⟩ | ⟨e, g1, g2, g3⟩
    · obtain ⟨more1, y5', y6', M1, e1, r1, r2, f1⟩ := m_ev53 (D := D) W hw hk hxn (Q := M 85) (fun i hi => ⟨(EJ_lv hk J hi).1, (EJ_lv hk J hi).2.1⟩) g1 more (nG G) 1 more y6 M (by omega) (Nat.le_refl 1) A (fun _ _ => rfl) (Or.inl ⟨g1, rfl, fun c c1 c2 => by omega⟩)
      rw [if_pos (by rw [g1]; rw [le32_iff] <;> omega), show (.inl 1 : pV) = .inl ((1 : Nat) : Int) from rfl, e1]
      have J1 : EJ G w τ k (x + 1) M1 := fun i hi => by
        by_cases u : i = x
        · rw [if_pos (by omega), u]
          rcases r2 with ⟨s1, -, s3⟩ | ⟨s1, -, c, c1, c2, c3, c4⟩
          · refine Or.inl ⟨s1, fun z => ?_⟩
            obtain ⟨j, j1, j2, j3, j4⟩ := (lv_new g2).mp z
            exact s3 j j3 j1 ((EJ_lv hk J j1).2.2.mpr j2) j4
          · refine Or.inr ⟨k + 1, Nat.le_refl _, by omega, ⟨(lv_new g2).mpr ⟨c, c2, (EJ_lv hk J c2).2.2.mp c3, c1, c4⟩, fun e' he' z => g2 (lD_le z (by omega))⟩⟩
        · have := J i hi
          rw [r1 i u]
          by_cases u2 : i < x
          · rw [if_pos u2] at this; rw [if_pos (by omega)]; exact this
          · rw [if_neg u2] at this; rw [if_neg (by omega)]; exact this
      have h' : (more1 = 0 ∧ cntF (M1 85) (nG G + 1) = c0 ∧ ∀ i, i < x + 1 → rL G w τ (k + 1) i → rL G w τ k i) ∨ (more1 = 1 ∧ cntF (M1 85) (nG G + 1) + 1 ≤ c0) := by
        rcases r2 with ⟨s1, s2, s3⟩ | ⟨s1, s2, -⟩
        · have cg := cntF_cg (p := M 85) (q := M1 85) (nG G + 1) (fun i _ => by
            by_cases u : i = x
            · rw [u, s1, g1]
            · rw [r1 i u])
          rcases h with ⟨a, b, b2⟩ | ⟨a, b⟩
          · refine Or.inl ⟨by omega, by omega, fun i hi z => ?_⟩
            by_cases u : i = x
            · rw [u] at z
              obtain ⟨j, j1, j2, j3, j4⟩ := (lv_new g2).mp z
              exact absurd j4 (s3 j j3 j1 ((EJ_lv hk J j1).2.2.mpr j2))
            · exact b2 i (by omega) z
          · exact Or.inr ⟨by omega, by omega⟩
        · have cs := cntF_set (p := M 85) (q := M1 85) (a := x) (fun i hi => r1 i hi) g1 (by rw [s1]; omega) (nG G + 1) hxn
          refine Or.inr ⟨s2, ?_⟩
          rcases h with ⟨-, b, -⟩ | ⟨-, b⟩ <;> omega
      obtain ⟨more', y4, y5'', y6'', M', e, r, s, f⟩ := m_ev40 W hw hk m (x + 1) more1 y5' y6' M1 (by omega) (AM_n f1 A) J1 h'
      exact ⟨more', y4, y5'', y6'', M', e, r, s, NF5_tr f1 f⟩
    · rw [if_neg (by rw [g2]; rw [le32_iff] <;> omega), show ((x : Int) + 1) = ((x + 1 : Nat) : Int) by omega]
      refine m_ev40 W hw hk m (x + 1) more y5 y6 M (by omega) A (fun i hi => ?_) ?_
      · by_cases u : i = x
        · rw [if_pos (by omega), u]
          exact Or.inr ⟨e, by omega, g2, g3⟩
        · have := J i hi
          by_cases u2 : i < x
          · rw [if_pos u2] at this; rw [if_pos (by omega)]; exact this
          · rw [if_neg u2] at this; rw [if_neg (by omega)]; exact this
      · rcases h with ⟨a, b, b2⟩ | h
        · refine Or.inl ⟨a, b, fun i hi z => ?_⟩
          by_cases u : i = x
          · rw [u]; exact lD_le g3.1 g1
          · exact b2 i (by omega) z
        · exact Or.inr h
theorem m_ev34 (W : WF G) (hw : 0 ≤ w ∧ w ≤ 999) {τ : Nat} (hτ : τ + 1 < nG G + 1) : ∀ cnt k (y4 y5 y6 : pV) (M : pM), k + 1 + cnt ≤ nG G + 1 → cntF (M 85) (nG G + 1) = cnt → AM G M → EV G w τ k M → ∃ M', xE D 262 34 [.inr 62, .inl w, .inl 1, .inl ((k + 1 : Nat) : Int), y4, y5, y6] [] M = rV M' ∧ ((M' 85 0 = 1000000 ∧ ∀ k, ¬ rL G w τ k 0) ∨ ∃ e : Nat, e ≤ 302 ∧ M' 85 0 = (e : Int) ∧ rV2 G w τ 0 e) ∧ NF5 M M' := by
  intro cnt
  induction cnt using Nat.strongRecOn with
  | ind cnt ih =>
    intro k y4 y5 y6 M hk hc A I
    have n3 := A.2.1
    obtain ⟨more, y4', y5', y6', M1, e1, I1, s1, f1⟩ := m_ev40 (D := D) (τ := τ) (k := k) (c0 := cnt) W hw (by omega) (nG G + 1) 0 0 y5 y6 M (by omega) A (fun i hi => by
      rw [if_neg (Nat.not_lt_zero i)]
      exact I i hi) (Or.inl ⟨rfl, hc, fun i hi => absurd hi (Nat.not_lt_zero i)⟩)
    rw [L_M_findEvenings_34, if_neg (by decide), show (.inl 0 : pV) = .inl ((0 : Nat) : Int) from rfl]
    rw [show (.inl 0 : pV) = .inl ((0 : Nat) : Int) from rfl] at e1
    rw [e1]
    rcases s1 with ⟨k1, k2⟩ | ⟨k1, k2⟩
    · rw [k1, L_M_findEvenings_34, if_pos rfl]
      refine ⟨M1, rfl, ?_, f1⟩
      rcases I1 0 (by omega) with ⟨u1, u2⟩ | ⟨e, u1, u2, u3⟩
      · refine Or.inl ⟨u1, fun k' z => u2 ?_⟩
        rcases Nat.lt_or_ge k' (k + 1) with q | q
        · exact lD_le z (by omega)
        · rw [show k' = k + (k' - k) by omega] at z
          exact lD_le (lD_stop hτ k2 (k' - k) 0 (by omega) z) (by omega)
      · exact Or.inr ⟨e, by omega, u2, u3⟩
    · rw [k1]
      obtain ⟨M', e, r, f⟩ := ih (cntF (M1 85) (nG G + 1)) (by omega) (k + 1) y4' y5' y6' M1 (by omega) rfl (AM_n f1 A) I1
      exact ⟨M', e, r, NF5_tr f1 f⟩
theorem m_ev2 (W : WF G) (hw : 0 ≤ w ∧ w ≤ 999) {τ : Nat} (hτ : τ < nG G) : ∀ m i (M : pM), i + m = nG G + 1 → AM G M → M 60 49 = ((τ + 1 : Nat) : Int) → (∀ j, j < i → M 85 j = if j = τ + 1 then 0 else 1000000) → ∃ M', xE D 262 2 [.inr 62, .inl w, .inl (i : Int), .inr 0, .inr 0, .inr 0, .inr 0] [] M = rV M' ∧ ((M' 85 0 = 1000000 ∧ ∀ k, ¬ rL G w τ k 0) ∨ ∃ e : Nat, e ≤ 302 ∧ M' 85 0 = (e : Int) ∧ rV2 G w τ 0 e) ∧ NF5 M M'
  | 0, i, M, hi, A, h49, h => by
    have n3 := A.2.1
    have cn := cntF_lt (p := M 85) (a := τ + 1) (by rw [h (τ + 1) (by omega), if_pos rfl]; decide) (nG G + 1) (by omega)
    rw [L_M_findEvenings_2, A.1, if_pos (by rw [le32_iff] <;> omega)]
    exact m_ev34 W hw (by omega) (cntF (M 85) (nG G + 1)) 0 _ _ _ M (by omega) rfl A (fun a ha => by
      have := h a (by omega)
      by_cases q : a = τ + 1
      · rw [if_pos q] at this
        exact Or.inr ⟨0, Nat.le_refl 0, this, ⟨q, fun e' he' => absurd he' (Nat.not_lt_zero e')⟩⟩
      · rw [if_neg q] at this
        exact Or.inl ⟨this, q⟩)
  | m + 1, i, M, hi, A, h49, h => by
    have n3 := A.2.1
    have go : ∀ v : Int, (v = if i = τ + 1 then 0 else 1000000) → ∃ M', xE D 262 2 [.inr 62, .inl w, .inl ((i + 1 : Nat) : Int), .inr 0, .inr 0, .inr 0, .inr 0] [] (pset (pset M 85 i v) 86 i v) = rV M' ∧ ((M' 85 0 = 1000000 ∧ ∀ k, ¬ rL G w τ k 0) ∨ ∃ e : Nat, e ≤ 302 ∧ M' 85 0 = (e : Int) ∧ rV2 G w τ 0 e) ∧ NF5 M M' := fun v hv => by
      have f2 : NF5 M (pset (pset M 85 i v) 86 i v) := fun o i u1 u2 => by rw [pset_ne u2, pset_ne u1]
      obtain ⟨M', e, r, f⟩ := m_ev2 W hw hτ m (i + 1) (pset (pset M 85 i v) 86 i v) (by omega) (AM_n f2 A) (by rw [f2 60 49 (by decide) (by decide)]; exact h49) (fun j hj => by
        rw [pset_ne (by decide)]
        by_cases u : j = i
        · rw [u, pset_eq]; exact hv
        · rw [pset_ne2 u]; exact h j (by omega))
      exact ⟨M', e, r, NF5_tr f2 f⟩
    rw [L_M_findEvenings_2, A.1, if_neg (by rw [le32_iff] <;> omega), h49]
    by_cases q : i = τ + 1
    · rw [if_neg (fun z => z (by rw [q])), if_pos (by omega), Int.toNat_natCast, pset_ne (show 60 ≠ 85 by decide), h49, if_neg (fun z => z (by rw [q])), if_pos (by omega), show ((i : Int) + 1) = ((i + 1 : Nat) : Int) by omega]
      exact go 0 (by rw [if_pos q])
    · rw [if_pos (by rw [eq32_iff] <;> omega), if_pos (by omega), Int.toNat_natCast, pset_ne (show 60 ≠ 85 by decide), h49, if_pos (by rw [eq32_iff] <;> omega), if_pos (by omega), show ((i : Int) + 1) = ((i + 1 : Nat) : Int) by omega]
      exact go 1000000 (by rw [if_neg q])
/-- the fewest evenings with a strength: it, or none -/
theorem m_evs (hd : 1 ≤ d) (W : WF G) (hw : 0 ≤ w ∧ w ≤ 999) {τ : Nat} (hτ : τ < nG G) (A : AM G M) (h49 : M 60 49 = ((τ + 1 : Nat) : Int)) : ∃ M', xF d 262 [.inr 62, .inl w] M = rV M' ∧ ((M' 85 0 = 1000000 ∧ ∀ k, ¬ AtN G w τ k) ∨ ∃ k : Nat, k ≤ 302 ∧ M' 85 0 = (k : Int) + 1 ∧ AtN G w τ k ∧ ∀ k', k' < k → ¬ AtN G w τ k') ∧ NF5 M M' := by
  obtain ⟨D, rfl, -⟩ := dsucc hd
  obtain ⟨M', e, r, f⟩ := m_ev2 (D := D) W hw hτ (nG G + 1) 0 M (by omega) A h49 (fun j hj => absurd hj (Nat.not_lt_zero j))
  rw [T_M_findEvenings, show (.inl 0 : pV) = .inl ((0 : Nat) : Int) from rfl]
  refine ⟨M', e, ?_, f⟩
  rcases r with ⟨r1, r2⟩ | ⟨e', r0, r1, r2⟩
  · exact Or.inl ⟨r1, fun k z => r2 (k + 1) ((rL_0 W hw.2 k).mpr (Or.inr z))⟩
  · cases e' with
    | zero => exact absurd r2.1 rL_no
    | succ k =>
      refine Or.inr ⟨k, by omega, by omega, ?_, fun k' hk' z => ?_⟩
      · rcases (rL_0 W hw.2 k).mp r2.1 with z | z
        · exact absurd z (r2.2 k (Nat.lt_succ_self k))
        · exact z
      · exact r2.2 (k' + 1) (by omega) ((rL_0 W hw.2 k').mpr (Or.inr z))
/-- two of the list are not the same arrangement -/
theorem tg_one (W : WF G) (h1 : 1 ≤ hR G) {i j : Nat} (hi : i < nG G) (hj : j < nG G) (a : tgP G p i) (b : tgP G p j) : i = j := by
  obtain ⟨a1, a2, a3⟩ := cdG_at hi
  obtain ⟨b1, b2, b3⟩ := cdG_at hj
  have e : ∀ k, k < nC G → dg (hR G) (nC G) (cdG G i) k = dg (hR G) (nC G) (cdG G j) k := fun k hk => by
    obtain ⟨t, t1, -, t3⟩ := ntz_cOf W hk
    have u1 : ((dg (hR G) (nC G) (cdG G i) (oOf G t) : Nat) : Int) = p t := a t t1
    have u2 : ((dg (hR G) (nC G) (cdG G j) (oOf G t) : Nat) : Int) = p t := b t t1
    rw [t3] at u1 u2
    omega
  have key : ∀ k, k ≤ nC G → cdG G i / hR G ^ (nC G - k) = cdG G j / hR G ^ (nC G - k) := by
    intro k
    induction k with
    | zero =>
      intro _
      rw [Nat.sub_zero, Nat.div_eq_of_lt a1, Nat.div_eq_of_lt b1]
    | succ k ih =>
      intro hk
      rw [dg_step (show k < nC G by omega), dg_step (show k < nC G by omega), ih (by omega), e k (by omega)]
  have := key (nC G) (Nat.le_refl _)
  rw [Nat.sub_self, Nat.pow_zero, Nat.div_one, Nat.div_one] at this
  rw [← a3, ← b3, this]
/-- whether a journey can be asked for -/
theorem x_ready (hd : 9 ≤ d) (W : WF G) (X : XG M G) (C : CL M G) {v : Int} (ee : xF d 61 [.inr 2] M = rI v M') : (M 0 14 = hT G → 0 < M 0 14 → PL M G 58 p → (isN G p = true → v = 0) ∧ (isN G p = false → (tmG G ∨ ¬ nG G ≤ 300) → v = -3) ∧ (isN G p = false → ¬ tmG G → nG G ≤ 300 → (∀ i, i < nG G → ¬ tgP G p i) → v = -2) ∧ (isN G p = false → ¬ tmG G → nG G ≤ 300 → (∃ i, i < nG G ∧ tgP G p i) → v = 1 ∧ (∃ τ, τ < nG G ∧ tgP G p τ ∧ PR G M' τ) ∧ M' 0 17 = M 0 17 ∧ M' 7 10 = M 7 10)) ∧ (¬ (M 0 14 = hT G ∧ 0 < M 0 14) → -2147483648 ≤ M 0 14 ∧ M 0 14 ≤ 2147483647 → v = -4) := by
  obtain ⟨D, rfl, hD⟩ := dsucc hd
  obtain ⟨D', rfl, hD'⟩ := dsucc (show 1 ≤ D by omega)
  have w2 := W.2.1
  rw [T_X_readyJourney, T_X_hasAim, X.1.2.1] at ee
  refine ⟨fun q1 q2 P => ?_, fun q r => ?_⟩
  · have h1 : 1 ≤ hR G := by
      have := W.2.2.2.2.2.2.2.1 0 (by omega)
      omega
    rw [if_neg (by rw [le32_iff] <;> omega), if_neg (fun z => z (by rw [q1])), pbI_rI, if_pos (by decide), c_isNow (by omega) W X.1 P, pbI_rI] at ee
    cases s : isN G p with
    | true =>
      rw [s, if_pos rfl, if_neg (by decide), T_Numbers_start, pbN_rV] at ee
      obtain ⟨M3, e3, -, f3⟩ := x_tell (d := D' + 1) (M := pset M 5 1 0) (n := 0) (by omega) (by decide) pset_eq 0
      rw [e3, pbN_rV] at ee
      exact ⟨fun _ => (rI_inj ee).1.symm, fun z => (by cases z), fun z => (by cases z), fun z => (by cases z)⟩
    | false =>
      rw [s, if_neg (show ¬ (false = true) from Bool.false_ne_true), if_pos (by decide)] at ee
      obtain ⟨t1, t2⟩ := x_tooMany (d := D' + 1) (by omega) W X.1 C
      refine ⟨fun z => (by cases z), fun _ z => ?_, fun _ z1 z2 z3 => ?_, fun _ z1 z2 z3 => ?_⟩
      · rcases Classical.em (tmG G) with u | u
        · rw [t1 u, pbI_rI, if_pos (by decide)] at ee
          exact (rI_inj ee).1.symm
        · rw [t2 u, pbI_rI, if_neg (by decide)] at ee
          have l : ∃ M3, xF (D' + 1) 112 [.inr 54, .inr 9, .inr 34] M = rI 0 M3 := by
            obtain ⟨N1, s1, s2, s3, -, s5⟩ := x_startG (d := D') (by omega) W (M := pset (pset M 52 6 (M 7 12)) 52 5 0) (XH_eq X.1 (fun o i _ _ _ => by rw [pset_ne (by omega), pset_ne (by omega)])) ⟨by rw [pset_ne (by decide), pset_ne (by decide)]; exact C.1, fun i hi => by rw [pset_ne (by decide), pset_ne (by decide)]; exact C.2.1 i hi, fun t ht => by rw [pset_ne (by decide), pset_ne (by decide)]; exact C.2.2 t ht⟩
            obtain ⟨v4, M3, y1, y2⟩ := pbI_inv s1
            obtain ⟨M4, -, r2, -⟩ := x_jl14 (D := D') (by omega) W h1 (WB_G W u) (hR G ^ nC G + 1) 0 0 (.inr 0) N1 (by omega) (by unfold tmG at u; omega) (Nat.zero_le _) s2 (Or.inl ⟨rfl, s3⟩) ⟨by rw [s5 52 5 (by omega), pset_eq]; rfl, by rw [s5 52 6 (by omega), pset_ne2 (by decide), pset_eq]; exact C.1, fun c hc => absurd hc (Nat.not_lt_zero c)⟩ (Nat.zero_le _)
            refine ⟨M4, ?_⟩
            rw [T_Journey_listLawful, y1, pbI_rI, y2, pbN_rV]
            exact r2 (z.elim (fun w => absurd w u) id)
          obtain ⟨M3, e3⟩ := l
          rw [e3, pbI_rI, if_neg (fun z => z (by decide))] at ee
          exact (rI_inj ee).1.symm
      all_goals
        obtain ⟨N1, s1, s2, s3, -, s5⟩ := x_startG (d := D') (by omega) W (M := pset (pset M 52 6 (M 7 12)) 52 5 0) (XH_eq X.1 (fun o i _ _ _ => by rw [pset_ne (by omega), pset_ne (by omega)])) ⟨by rw [pset_ne (by decide), pset_ne (by decide)]; exact C.1, fun i hi => by rw [pset_ne (by decide), pset_ne (by decide)]; exact C.2.1 i hi, fun t ht => by rw [pset_ne (by decide), pset_ne (by decide)]; exact C.2.2 t ht⟩
        obtain ⟨v4, M3, y1, y2⟩ := pbI_inv s1
        obtain ⟨M4, r1, -, f4⟩ := x_jl14 (D := D') (by omega) W h1 (WB_G W z1) (hR G ^ nC G + 1) 0 0 (.inr 0) N1 (by omega) (by unfold tmG at z1; omega) (Nat.zero_le _) s2 (Or.inl ⟨rfl, s3⟩) ⟨by rw [s5 52 5 (by omega), pset_eq]; rfl, by rw [s5 52 6 (by omega), pset_ne2 (by decide), pset_eq]; exact C.1, fun c hc => absurd hc (Nat.not_lt_zero c)⟩ (Nat.zero_le _)
        obtain ⟨e4, J4⟩ := r1 z2
        have e3 : xF (D' + 1) 112 [.inr 54, .inr 9, .inr 34] M = rI 1 M4 := by
          rw [T_Journey_listLawful, y1, pbI_rI, y2, pbN_rV]
          exact e4
        have f5 : ∀ o i, o < 32 ∨ o = 58 → M4 o i = M o i := fun o i ho => by rw [f4 o i (by omega) (by omega) (by omega), s5 o i (by omega), pset_ne (by omega), pset_ne (by omega)]
        have X4 : XH M4 G := XH_eq X.1 (fun o i _ _ _ => f5 o i (by omega))
        have C4 : CL M4 G := ⟨by rw [f5 7 12 (by omega)]; exact C.1, fun i hi => by rw [f5 15 i (by omega)]; exact C.2.1 i hi, fun t ht => by rw [f5 16 t (by omega)]; exact C.2.2 t ht⟩
        have P4 : PL M4 G 58 p := fun t ht => by rw [f5 58 t (by omega)]; exact P t ht
        obtain ⟨g1, g2⟩ := x_prep (d := D' + 1) (by omega) W h1 X4 C4 P4 (LI_of J4 z2)
        rw [t2 z1, pbI_rI, if_neg (by decide), e3, pbI_rI, if_pos (by decide)] at ee
      · obtain ⟨M5, e5⟩ := g2 z3
        rw [e5, pbI_rI, if_pos (by decide)] at ee
        exact (rI_inj ee).1.symm
      · obtain ⟨τ, M5, t3, t4, e5, r5, f6⟩ := g1 z3
        rw [e5, pbI_rI, if_neg (by decide)] at ee
        obtain ⟨u1, u2⟩ := rI_inj ee
        rw [← u1, ← u2]
        exact ⟨rfl, ⟨τ, t3, t4, r5⟩, by rw [f6 0 17 (by decide) (by decide) (by omega)]; exact f5 0 17 (by omega), by rw [f6 7 10 (by decide) (by decide) (by omega)]; exact f5 7 10 (by omega)⟩
  · by_cases z : 0 < M 0 14
    · rw [if_neg (by rw [le32_iff] <;> omega), if_pos (by rw [eq32_iff] <;> omega), pbI_rI, if_neg (fun z => z (by decide))] at ee
      exact (rI_inj ee).1.symm
    · rw [if_pos (by rw [le32_iff] <;> omega), pbI_rI, if_neg (fun z => z (by decide))] at ee
      exact (rI_inj ee).1.symm
end EVF
/-! evenings: what it answers, on both sides -/
section EVJ
variable {D d : Nat} {M M' M1 M2 N G : pM} {p : Nat → Int} {w1 : List (Nat × Nat)} {v y w : Int}
theorem least_of {P : Nat → Prop} (h : ∃ k, P k) : ∃ k, P k ∧ ∀ k', k' < k → ¬ P k' := by
  obtain ⟨k, hk⟩ := h
  induction k using Nat.strongRecOn with
  | ind k ih =>
    by_cases q : ∃ k', k' < k ∧ P k'
    · obtain ⟨k', a, b⟩ := q
      exact ih k' a b
    · exact ⟨k, hk, fun k' a b => q ⟨k', a, b⟩⟩
theorem m_isThere (hd : 1 ≤ d) (W : WF G) (X : MH M G) (P : PL M G 81 p) : xF d 261 [.inr 62] M = rI (if isN G p = true then 1 else 0) M := by
  obtain ⟨D, rfl, hD⟩ := dsucc hd
  have w1 := W.1
  have w2 := W.2.1
  rw [T_M_isThere]
  have key : ∀ m k : Nat, k + m = hT G → allTo (fun t => decide (G 6 t = p t)) k = true → xE D 261 2 [.inr 62, .inl (k : Int)] [] M = rI (if isN G p = true then 1 else 0) M := by
    intro m
    induction m with
    | zero =>
      intro k hk ha
      rw [L_M_isThere_2, X.2.1, if_pos (by rw [le32_iff] <;> omega)]
      unfold isN
      rw [show hT G = k by omega, if_pos ha]
    | succ m ih =>
      intro k hk ha
      have hp := P k (by omega)
      have hw := (W.2.2.2.2.2.2.2.1 k (by omega)).2.2.2
      have hx := (X.2.2.2.2.2.1 k (by omega)).2.2.2
      rw [L_M_isThere_2, X.2.1, if_neg (by rw [le32_iff] <;> omega), if_pos (by omega), if_pos (by omega), Int.toNat_natCast, hx, hp.1, show ((k : Int) + 1) = ((k + 1 : Nat) : Int) by omega]
      by_cases e : G 6 k = p k
      · rw [if_pos (by rw [e])]
        exact ih (k + 1) (by omega) (by unfold allTo; rw [ha, decide_eq_true e]; rfl)
      · rw [if_neg (by rw [eq32_iff] <;> omega)]
        have : isN G p = false := by
          cases hq : isN G p with
          | false => rfl
          | true => exact absurd (of_decide_eq_true (allTo_iff.mp hq k (by omega))) e
        rw [this]; rfl
  rw [show (.inl 0 : pV) = .inl ((0 : Nat) : Int) from rfl]
  exact key (hT G) 0 (by omega) rfl
end EVJ
/-! the least strength, on one side -/
/-- come to from now within so many steps -/
def fD (E : Nat → Nat → Prop) (F : Nat → Prop) (n : Nat) : Nat → Nat → Prop
  | 0, j => F j
  | m + 1, j => fD E F n m j ∨ ∃ i, i < n ∧ fD E F n m i ∧ E i j
theorem fD_lD {E : Nat → Nat → Prop} {F : Nat → Prop} {n τ : Nat} : ∀ m j k, j < n → fD E F n m j → lD E n τ k j → ∃ k' j', j' < n ∧ lD E n τ k' j' ∧ F j'
  | 0, j, k, hj, h, l => ⟨k, j, hj, l, h⟩
  | m + 1, j, k, hj, h, l => by
    rcases h with h | ⟨i, i1, i2, i3⟩
    · exact fD_lD m j k hj h l
    · exact fD_lD m i (k + 1) i1 i2 (Or.inr ⟨j, hj, l, i3⟩)
theorem lD_fD {E : Nat → Nat → Prop} {F : Nat → Prop} {n τ : Nat} : ∀ k j m, j < n → lD E n τ k j → fD E F n m j → ∃ m', fD E F n m' τ
  | 0, j, m, _, h, f => by
    have e : j = τ := h
    exact ⟨m, by rw [← e]; exact f⟩
  | k + 1, j, m, hj, h, f => by
    rcases h with h | ⟨i, i1, i2, i3⟩
    · exact lD_fD k j m hj h f
    · exact lD_fD k i (m + 1) i1 i2 (Or.inr ⟨j, hj, f, i3⟩)
theorem fD_mono {E E' : Nat → Nat → Prop} {F F' : Nat → Prop} {n : Nat} (hE : ∀ i j, E i j → E' i j) (hF : ∀ j, F j → F' j) : ∀ m j, fD E F n m j → fD E' F' n m j
  | 0, j, h => hF j h
  | m + 1, j, h => by
    rcases h with h | ⟨i, i1, i2, i3⟩
    · exact Or.inl (fD_mono hE hF m j h)
    · exact Or.inr ⟨i, i1, fD_mono hE hF m i i2, hE i j i3⟩
section WEK
variable {D d : Nat} {M M' M1 N G : pM} {p : Nat → Int} {v y w : Int}
/-- come to from now with a strength -/
def Rw (G : pM) (w : Int) (j : Nat) : Prop := ∃ m, fD (EE G w) (E0 G w) (nG G) m j
theorem Rw_mono {w' : Int} {j : Nat} (h : Rw G w j) (hw : w ≤ w') : Rw G w' j := by
  obtain ⟨m, hm⟩ := h
  exact ⟨m, fD_mono (fun i j z => Int.le_trans z hw) (fun j z => Int.le_trans z hw) m j hm⟩
theorem Rw_At {τ : Nat} (hτ : τ < nG G) : Rw G w τ ↔ ∃ k, AtN G w τ k := by
  constructor
  · intro ⟨m, hm⟩
    obtain ⟨k, j, j1, j2, j3⟩ := fD_lD (τ := τ) m τ 0 hτ hm rfl
    exact ⟨k, j, j1, j2, j3⟩
  · intro ⟨k, j, j1, j2, j3⟩
    exact lD_fD k j 0 j1 j2 j3
/-- one of the costs -/
def cst1 (G : pM) (c : Int) : Prop := ∃ a b, a < nG G + 1 ∧ 1 ≤ b ∧ b < nG G + 1 ∧ c = xcG G (rowN G a) (rowN G b)
theorem cst1_0 {j : Nat} (hj : j < nG G) : cst1 G (xcG G (nowN G) (plN G j)) := ⟨0, j + 1, by omega, by omega, by omega, by rw [rowN_0, rowN_s]⟩
theorem cst1_s {i j : Nat} (hi : i < nG G) (hj : j < nG G) : cst1 G (xcG G (plN G i) (plN G j)) := ⟨i + 1, j + 1, by omega, by omega, by omega, by rw [rowN_s, rowN_s]⟩
/-- the search so far: what is done, what it takes -/
def NS (G M : pM) : Prop := (∀ j, j < nG G → (M 56 j = -1 ∨ M 56 j = 0) ∧ 0 ≤ M 57 j ∧ M 57 j ≤ 10000000 ∧ M 57 j ≤ xcG G (nowN G) (plN G j) ∧ Rw G (M 57 j) j ∧ cst1 G (M 57 j)) ∧ (∀ i, i < nG G → M 56 i = 0 → ∀ j, j < nG G → M 57 j ≤ max (M 57 i) (xcG G (plN G i) (plN G j)) ∧ (M 56 j = -1 → M 57 i ≤ M 57 j))
/-- who is the next -/
theorem x_easy (hd : 1 ≤ d) {τ : Nat} (R : PR G M τ) (S : NS G M) : ∃ c : Int, xF d 124 [.inr 54] M = rI c M ∧ ((c = -1 ∧ ∀ j, j < nG G → M 56 j = -1 → 1000000 ≤ M 57 j) ∨ ∃ i : Nat, c = (i : Int) ∧ i < nG G ∧ M 56 i = -1 ∧ M 57 i < 1000000 ∧ ∀ j, j < nG G → M 56 j = -1 → M 57 i ≤ M 57 j) := by
  obtain ⟨D, rfl, hD⟩ := dsucc hd
  have n3 := R.1.2.2.1
  have key : ∀ m x (c b : Int), x + m = nG G → ((c = -1 ∧ b = 1000000 ∧ ∀ j, j < x → M 56 j = -1 → 1000000 ≤ M 57 j) ∨ ∃ i : Nat, c = (i : Int) ∧ i < nG G ∧ M 56 i = -1 ∧ b = M 57 i ∧ M 57 i < 1000000 ∧ ∀ j, j < x → M 56 j = -1 → M 57 i ≤ M 57 j) → ∃ c' : Int, xE D 124 6 [.inr 54, .inl c, .inl b, .inl (x : Int)] [] M = rI c' M ∧ ((c' = -1 ∧ ∀ j, j < nG G → M 56 j = -1 → 1000000 ≤ M 57 j) ∨ ∃ i : Nat, c' = (i : Int) ∧ i < nG G ∧ M 56 i = -1 ∧ M 57 i < 1000000 ∧ ∀ j, j < nG G → M 56 j = -1 → M 57 i ≤ M 57 j) := by
    intro m
    induction m with
    | zero =>
      intro x c b hx h
      rw [L_Journey_easiest_6, R.1.1, if_pos (by rw [le32_iff] <;> omega)]
      refine ⟨c, rfl, ?_⟩
      rcases h with ⟨h1, -, h3⟩ | ⟨i, h1, h2, h3, -, h5, h6⟩
      · exact Or.inl ⟨h1, fun j hj => h3 j (by omega)⟩
      · exact Or.inr ⟨i, h1, h2, h3, h5, fun j hj => h6 j (by omega)⟩
    | succ m ih =>
      intro x c b hx h
      have hxn : x < nG G := by omega
      obtain ⟨s1, s2, s3, -⟩ := S.1 x hxn
      have bb : 0 ≤ b ∧ b ≤ 1000000 := by
        rcases h with ⟨-, h2, -⟩ | ⟨i, -, h2, -, h4, h5, -⟩
        · omega
        · have := (S.1 i h2).2.1
          omega
      rw [L_Journey_easiest_6, R.1.1, if_neg (by rw [le32_iff] <;> omega), if_pos (by omega), Int.toNat_natCast, show ((x : Int) + 1) = ((x + 1 : Nat) : Int) by omega]
      by_cases q : M 56 x = -1
      · rw [if_neg (fun z => z (by rw [q])), if_pos (by omega)]
        by_cases q2 : b ≤ M 57 x
        · rw [if_pos (by rw [le32_iff] <;> omega)]
          refine ih (x + 1) c b (by omega) ?_
          rcases h with ⟨h1, h2, h3⟩ | ⟨i, h1, h2, h3, h4, h5, h6⟩
          · refine Or.inl ⟨h1, h2, fun j hj z => ?_⟩
            by_cases u : j = x
            · rw [u]; omega
            · exact h3 j (by omega) z
          · refine Or.inr ⟨i, h1, h2, h3, h4, h5, fun j hj z => ?_⟩
            by_cases u : j = x
            · rw [u]; omega
            · exact h6 j (by omega) z
        · rw [if_neg (by rw [le32_iff] <;> omega), if_pos (by omega)]
          refine ih (x + 1) x (M 57 x) (by omega) (Or.inr ⟨x, rfl, hxn, q, rfl, by omega, fun j hj z => ?_⟩)
          by_cases u : j = x
          · rw [u]; exact Int.le_refl _
          · rcases h with ⟨h1, h2, h3⟩ | ⟨i, h1, h2, h3, h4, h5, h6⟩
            · have := h3 j (by omega) z
              omega
            · have := h6 j (by omega) z
              omega
      · rw [if_pos (by rw [eq32_iff] <;> omega)]
        refine ih (x + 1) c b (by omega) ?_
        rcases h with ⟨h1, h2, h3⟩ | ⟨i, h1, h2, h3, h4, h5, h6⟩
        · refine Or.inl ⟨h1, h2, fun j hj z => ?_⟩
          by_cases u : j = x
          · rw [u] at z; exact absurd z q
          · exact h3 j (by omega) z
        · refine Or.inr ⟨i, h1, h2, h3, h4, h5, fun j hj z => ?_⟩
          by_cases u : j = x
          · rw [u] at z; exact absurd z q
          · exact h6 j (by omega) z
  rw [T_Journey_easiest, show (.inl 0 : pV) = .inl ((0 : Nat) : Int) from rfl]
  exact key (nG G) 0 (-1) 1000000 (by omega) (Or.inl ⟨rfl, rfl, fun j hj => absurd hj (Nat.not_lt_zero j)⟩)
end WEK
/-! the least strength, on one side: the search -/
section WEL
variable {D d : Nat} {M M' M1 N N0 G : pM} {p : Nat → Int} {v y w : Int}
theorem cnN_pos {p : Nat → Int} {a : Nat} (h : p a = -1) : ∀ n, a < n → 1 ≤ cnN p n
  | 0, ha => absurd ha (Nat.not_lt_zero a)
  | n + 1, ha => by
    unfold cnN
    by_cases e : a = n
    · rw [← e, if_pos h]; omega
    · have := cnN_pos h n (by omega)
      omega
theorem Rw_step {i j : Nat} (hi : i < nG G) (h : Rw G w i) (e : xcG G (plN G i) (plN G j) ≤ w) : Rw G w j := by
  obtain ⟨m, hm⟩ := h
  exact ⟨m + 1, Or.inr ⟨i, hi, hm, e⟩⟩
theorem ns_done (S : NS G M) (hu : ∀ j, j < nG G → M 56 j = -1 → w < M 57 j) : ∀ m j, j < nG G → fD (EE G w) (E0 G w) (nG G) m j → M 56 j = 0 ∧ M 57 j ≤ w
  | 0, j, hj, h => by
    have h' : xcG G (nowN G) (plN G j) ≤ w := h
    obtain ⟨s1, -, -, s4, -⟩ := S.1 j hj
    have le : M 57 j ≤ w := by omega
    rcases s1 with u | u
    · have := hu j hj u
      omega
    · exact ⟨u, le⟩
  | m + 1, j, hj, h => by
    rcases h with h | ⟨i, i1, i2, i3⟩
    · exact ns_done S hu m j hj h
    · obtain ⟨a, b⟩ := ns_done S hu m i i1 i2
      have e : xcG G (plN G i) (plN G j) ≤ w := i3
      have l := (S.2 i i1 a j hj).1
      have le : M 57 j ≤ w := by omega
      rcases (S.1 j hj).1 with u | u
      · have := hu j hj u
        omega
      · exact ⟨u, le⟩
theorem x_w45 (hD : 2 ≤ D) (W : WF G) (h1 : 1 ≤ hR G) {τ i : Nat} (hi : i < nG G) (x1 : Int) (hN : ∀ j, j < nG G → 0 ≤ N0 57 j ∧ N0 57 j ≤ 10000000 ∧ (N0 56 j = -1 ∨ N0 56 j = 0)) (h0 : N0 56 i = 0) : ∀ (m x : Nat) (M : pM), x + m = nG G → PR G M τ → (∀ j, M 56 j = N0 56 j) → (∀ j, j < nG G → M 57 j = if j < x ∧ N0 56 j = -1 then min (N0 57 j) (max (N0 57 i) (xcG G (plN G i) (plN G j))) else N0 57 j) → ∃ M', xE D 123 45 [.inr 54, .inl x1, .inl (i : Int), .inl (x : Int)] [] M = xE D 123 23 [.inr 54, .inl (x1 + 1), .inl (i : Int), .inl (nG G : Int)] [] M' ∧ PR G M' τ ∧ (∀ j, M' 56 j = N0 56 j) ∧ (∀ j, j < nG G → M' 57 j = if N0 56 j = -1 then min (N0 57 j) (max (N0 57 i) (xcG G (plN G i) (plN G j))) else N0 57 j) ∧ ∀ o j, o ≠ 57 → M' o j = M o j
  | 0, x, M, hx, R, h56, h57 => by
    have n3 := R.1.2.2.1
    rw [L_Journey_narrowest_45, R.1.1, if_pos (by rw [le32_iff] <;> omega), show x = nG G by omega]
    refine ⟨M, rfl, R, h56, fun j hj => ?_, fun _ _ _ => rfl⟩
    rw [h57 j hj]
    by_cases q : N0 56 j = -1
    · rw [if_pos ⟨by omega, q⟩, if_pos q]
    · rw [if_neg (fun z => q z.2), if_neg q]
  | m + 1, x, M, hx, R, h56, h57 => by
    have n3 := R.1.2.2.1
    have hxn : x < nG G := by omega
    have xr := xc_range W (plN G i) (plN G x)
    obtain ⟨a1, a2, a3⟩ := hN x hxn
    obtain ⟨b1, b2, -⟩ := hN i hi
    have mx : M 57 x = N0 57 x := by rw [h57 x hxn, if_neg (fun z => absurd z.1 (Nat.lt_irrefl x))]
    have mi : M 57 i = N0 57 i := by rw [h57 i hi, if_neg (fun z => by rw [h0] at z; exact absurd z.2 (by decide))]
    rw [L_Journey_narrowest_45, R.1.1, if_neg (by rw [le32_iff] <;> omega), if_pos (by omega), Int.toNat_natCast, h56 x, show ((x : Int) + 1) = ((x + 1 : Nat) : Int) by omega]
    by_cases q : N0 56 x = -1
    · rw [if_neg (fun z => z (by rw [q])), if_pos (by omega), if_pos (by omega), x_between hD W h1 R.1 R.2.1 hi hxn, pbI_rI, if_pos (by omega), Int.toNat_natCast, mx, mi, jmax_eq (by omega) (by omega) (by omega) (by omega), jmin_eq (by omega) (by omega) (by omega) (by omega)]
      have fr : ∀ o j, o ≠ 57 → pset M 57 x (min (N0 57 x) (max (N0 57 i) (xcG G (plN G i) (plN G x)))) o j = M o j := fun o j h => pset_ne h
      have R1 : PR G (pset M 57 x (min (N0 57 x) (max (N0 57 i) (xcG G (plN G i) (plN G x))))) τ := by
        obtain ⟨p1, p2, p3, p4, p5⟩ := R
        exact ⟨LI_ag (fun o j ho => fr o j (by omega)) p1, CT_ag (fun j => fr 54 j (by decide)) p2, by rw [fr 52 7 (by decide)]; exact p3, p4, fun j hj => by rw [fr 55 j (by decide)]; exact p5 j hj⟩
      obtain ⟨M', e, r1, r2, r3, r4⟩ := x_w45 hD W h1 hi x1 hN h0 m (x + 1) _ (by omega) R1 (fun j => by rw [fr 56 j (by decide)]; exact h56 j) (fun j hj => by
        by_cases u : j = x
        · rw [u, pset_eq, if_pos ⟨Nat.lt_succ_self x, q⟩]
        · rw [pset_ne2 u, h57 j hj]
          by_cases u2 : j < x ∧ N0 56 j = -1
          · rw [if_pos u2, if_pos ⟨by omega, u2.2⟩]
          · rw [if_neg u2, if_neg (fun z => u2 ⟨by omega, z.2⟩)])
      exact ⟨M', e, r1, r2, r3, fun o j h => by rw [r4 o j h, fr o j h]⟩
    · rw [if_pos (by rw [eq32_iff] <;> omega)]
      refine x_w45 hD W h1 hi x1 hN h0 m (x + 1) M (by omega) R h56 (fun j hj => ?_)
      rw [h57 j hj]
      by_cases u2 : j < x ∧ N0 56 j = -1
      · rw [if_pos u2, if_pos ⟨by omega, u2.2⟩]
      · rw [if_neg u2, if_neg (fun z => by
          by_cases u : j = x
          · rw [u] at z; exact q z.2
          · exact u2 ⟨by omega, z.2⟩)]
/-- one more is done -/
theorem NS_next {i : Nat} (W : WF G) (S : NS G M) (hi : i < nG G) (mi : M 56 i = -1) (le : ∀ j, j < nG G → M 56 j = -1 → M 57 i ≤ M 57 j) (e56 : ∀ j, M' 56 j = if j = i then 0 else M 56 j) (e57 : ∀ j, j < nG G → M' 57 j = if j ≠ i ∧ M 56 j = -1 then min (M 57 j) (max (M 57 i) (xcG G (plN G i) (plN G j))) else M 57 j) : NS G M' := by
  obtain ⟨i1, i2, i3, i4, i5, i6⟩ := S.1 i hi
  have ei : M' 57 i = M 57 i := by rw [e57 i hi, if_neg (fun z => z.1 rfl)]
  have down : ∀ j, j < nG G → M' 57 j ≤ M 57 j := fun j hj => by
    rw [e57 j hj]
    split
    · exact Int.min_le_left _ _
    · exact Int.le_refl _
  refine ⟨fun j hj => ?_, fun a ha a0 j hj => ?_⟩
  · obtain ⟨j1, j2, j3, j4, j5, j6⟩ := S.1 j hj
    have xr := xc_range W (plN G i) (plN G j)
    refine ⟨?_, ?_⟩
    · rw [e56]
      by_cases q : j = i
      · rw [if_pos q]; exact Or.inr rfl
      · rw [if_neg q]; exact j1
    · rw [e57 j hj]
      by_cases q : j ≠ i ∧ M 56 j = -1
      · rw [if_pos q]
        refine ⟨by omega, by omega, by omega, ?_, ?_⟩
        · rcases Int.le_total (M 57 j) (max (M 57 i) (xcG G (plN G i) (plN G j))) with u | u
          · rw [Int.min_eq_left u]; exact j5
          · rw [Int.min_eq_right u]
            exact Rw_step hi (Rw_mono i5 (by omega)) (by omega)
        · rcases Int.le_total (M 57 j) (max (M 57 i) (xcG G (plN G i) (plN G j))) with u | u
          · rw [Int.min_eq_left u]; exact j6
          · rw [Int.min_eq_right u]
            rcases Int.le_total (M 57 i) (xcG G (plN G i) (plN G j)) with z | z
            · rw [Int.max_eq_right z]; exact cst1_s hi hj
            · rw [Int.max_eq_left z]; exact i6
      · rw [if_neg q]
        exact ⟨j2, j3, j4, j5, j6⟩
  · have dj := down j hj
    rw [e56] at a0
    by_cases q : a = i
    · rw [q, ei]
      by_cases u : j ≠ i ∧ M 56 j = -1
      · have l := le j hj u.2
        have ej : M' 57 j = min (M 57 j) (max (M 57 i) (xcG G (plN G i) (plN G j))) := by rw [e57 j hj, if_pos u]
        exact ⟨by omega, fun _ => by omega⟩
      · have ej : M' 57 j = M 57 j := by rw [e57 j hj, if_neg u]
        have l : M 57 j ≤ M 57 i := by
          by_cases z : j = i
          · rw [z]; exact Int.le_refl _
          · rcases (S.1 j hj).1 with u2 | u2
            · exact absurd ⟨z, u2⟩ u
            · exact (S.2 j hj u2 i hi).2 mi
        refine ⟨by omega, fun z => ?_⟩
        rw [e56] at z
        by_cases z2 : j = i
        · rw [if_pos z2] at z; exact absurd z (by decide)
        · rw [if_neg z2] at z; exact absurd ⟨z2, z⟩ u
    · rw [if_neg q] at a0
      obtain ⟨s1, s2⟩ := S.2 a ha a0 j hj
      have si := (S.2 a ha a0 i hi).2 mi
      have ea : M' 57 a = M 57 a := by rw [e57 a ha, if_neg (fun z => by rw [a0] at z; exact absurd z.2 (by decide))]
      rw [ea]
      refine ⟨by omega, fun z => ?_⟩
      rw [e56] at z
      by_cases z2 : j = i
      · rw [if_pos z2] at z; exact absurd z (by decide)
      · rw [if_neg z2] at z
        have l := s2 z
        rw [e57 j hj, if_pos ⟨z2, z⟩]
        omega
end WEL
/-! the least strength, on one side: to its end; what is answered -/
section WEM
variable {D d : Nat} {M M' M1 N N0 G : pM} {p : Nat → Int} {v y w : Int}
theorem cnN_all {p : Nat → Int} : ∀ n, (∀ i, i < n → p i = -1) → cnN p n = n
  | 0, _ => rfl
  | n + 1, h => by
    unfold cnN
    rw [cnN_all n (fun i hi => h i (by omega)), if_pos (h n (Nat.lt_succ_self n))]
/-- what is found -/
def WKc (G : pM) (τ : Nat) (c : Int) : Prop := 0 ≤ c ∧ c ≤ 10000000 ∧ Rw G c τ ∧ cst1 G c ∧ ∀ w : Int, w < c → w < 1000000 → ¬ Rw G w τ
theorem ns_WK {τ : Nat} (hτ : τ < nG G) (S : NS G M) (h : M 56 τ = -1) (le : ∀ j, j < nG G → M 56 j = -1 → M 57 τ ≤ M 57 j ∨ 1000000 ≤ M 57 j) : WKc G τ (M 57 τ) := by
  obtain ⟨-, s2, s3, -, s5, s6⟩ := S.1 τ hτ
  refine ⟨s2, s3, s5, s6, fun w h1 h2 ⟨m, hm⟩ => ?_⟩
  have := (ns_done S (w := w) (fun j hj u => by rcases le j hj u with z | z <;> omega) m τ hτ hm).1
  omega
theorem x_w23 (hD : 3 ≤ D) (W : WF G) (h1 : 1 ≤ hR G) {τ : Nat} : ∀ (m x : Nat) (y2 y3 : pV) (M : pM), x + m = nG G → PR G M τ → NS G M → M 56 τ = -1 → x + cnN (M 56) (nG G) = nG G → ∃ c M', xE D 123 23 [.inr 54, .inl (x : Int), y2, y3] [] M = rI c M' ∧ PR G M' τ ∧ WKc G τ c ∧ ∀ o i, o < 52 → M' o i = M o i
  | 0, x, y2, y3, M, hx, R, S, hτ, hc => by
    have := cnN_pos hτ (nG G) R.2.2.2.1
    omega
  | m + 1, x, y2, y3, M, hx, R, S, hτ, hc => by
    have n3 := R.1.2.2.1
    have τn := R.2.2.2.1
    obtain ⟨c, e, r⟩ := x_easy (d := D) (by omega) R S
    rw [L_Journey_narrowest_23, R.1.1, if_neg (by rw [le32_iff] <;> omega), e, pbI_rI]
    rcases r with ⟨r1, r2⟩ | ⟨i, r1, r2, r3, r4, r5⟩
    · rw [r1, if_pos (by decide), R.1.1, R.2.2.1, if_neg (by rw [lt32_iff] <;> omega), if_neg (by rw [le32_iff] <;> omega), if_pos (by omega), Int.toNat_natCast]
      exact ⟨_, M, rfl, R, ns_WK τn S hτ (fun j hj u => Or.inr (r2 j hj u)), fun _ _ _ => rfl⟩
    · rw [r1, if_neg (by rw [eq32_iff] <;> omega), R.2.2.1]
      by_cases q : i = τ
      · rw [if_neg (fun z => z (by rw [q])), R.1.1, if_neg (by rw [lt32_iff] <;> omega), if_neg (by rw [le32_iff] <;> omega), if_pos (by omega), Int.toNat_natCast]
        exact ⟨_, M, rfl, R, ns_WK τn S hτ (fun j hj u => Or.inl (by rw [← q]; exact r5 j hj u)), fun _ _ _ => rfl⟩
      · have n56 : ∀ j, pset M 56 i 0 56 j = if j = i then 0 else M 56 j := fun j => by
          by_cases u : j = i
          · rw [if_pos u, u, pset_eq]
          · rw [if_neg u, pset_ne2 u]
        have n57 : ∀ j, pset M 56 i 0 57 j = M 57 j := fun j => pset_ne (by decide)
        have fr0 : ∀ o j, o ≠ 56 → pset M 56 i 0 o j = M o j := fun o j h => pset_ne h
        have R0 : PR G (pset M 56 i 0) τ := by
          obtain ⟨p1, p2, p3, p4, p5⟩ := R
          exact ⟨LI_ag (fun o j ho => fr0 o j (by omega)) p1, CT_ag (fun j => fr0 54 j (by decide)) p2, by rw [fr0 52 7 (by decide)]; exact p3, p4, fun j hj => by rw [fr0 55 j (by decide)]; exact p5 j hj⟩
        obtain ⟨M2, e2, R2, a56, a57, f2⟩ := x_w45 (D := D) (N0 := pset M 56 i 0) (by omega) W h1 r2 (x : Int) (fun j hj => by
          obtain ⟨s1, s2, s3, -⟩ := S.1 j hj
          rw [n57, n56]
          refine ⟨s2, s3, ?_⟩
          by_cases u : j = i
          · rw [if_pos u]; exact Or.inr rfl
          · rw [if_neg u]; exact s1) (by rw [n56, if_pos rfl]) (nG G) 0 (pset M 56 i 0) (by omega) R0 (fun _ => rfl) (fun j hj => by rw [if_neg (fun z => absurd z.1 (Nat.not_lt_zero j))])
        have S2 : NS G M2 := NS_next (M := M) W S r2 r3 r5 (fun j => by rw [a56, n56]) (fun j hj => by
          rw [a57 j hj, n56, n57, n57]
          by_cases u : j ≠ i ∧ M 56 j = -1
          · rw [if_pos u, if_pos (by rw [if_neg u.1]; exact u.2)]
          · rw [if_neg u, if_neg (fun z => by
              by_cases u2 : j = i
              · rw [if_pos u2] at z; exact absurd z (by decide)
              · rw [if_neg u2] at z; exact u ⟨u2, z⟩)])
        have cs := cnN_set (p := M 56) (q := M2 56) (a := i) (fun j hj => by rw [a56, n56, if_neg hj]) r3 (by rw [a56, n56, if_pos rfl]; decide) (nG G) r2
        obtain ⟨c', M3, e3, R3, w3, f3⟩ := x_w23 hD W h1 m (x + 1) (.inl (i : Int)) (.inl (nG G : Int)) M2 (by omega) R2 S2 (by rw [a56, n56, if_neg (fun z => q z.symm)]; exact hτ) (by omega)
        refine ⟨c', M3, ?_, R3, w3, fun o j ho => by rw [f3 o j ho, f2 o j (by omega), fr0 o j (by omega)]⟩
        rw [if_pos (by rw [eq32_iff] <;> omega), if_pos (by omega), Int.toNat_natCast, show (.inl 0 : pV) = .inl ((0 : Nat) : Int) from rfl, e2, show ((x : Int) + 1) = ((x + 1 : Nat) : Int) by omega]
        exact e3
theorem x_narrow (hd : 4 ≤ d) (W : WF G) (h1 : 1 ≤ hR G) {τ : Nat} (R : PR G M τ) : ∃ c M', xF d 123 [.inr 54] M = rI c M' ∧ PR G M' τ ∧ WKc G τ c ∧ ∀ o i, o < 52 → M' o i = M o i := by
  obtain ⟨D, rfl, hD⟩ := dsucc hd
  have key : ∀ m x (M : pM), x + m = nG G → PR G M τ → (∀ i, i < x → M 56 i = -1 ∧ M 57 i = xcG G (nowN G) (plN G i)) → ∃ M', xE D 123 2 [.inr 54, .inl (x : Int), .inr 0, .inr 0] [] M = xE D 123 23 [.inr 54, .inl ((0 : Nat) : Int), .inr 0, .inr 0] [] M' ∧ PR G M' τ ∧ (∀ i, i < nG G → M' 56 i = -1 ∧ M' 57 i = xcG G (nowN G) (plN G i)) ∧ ∀ o i, o < 52 → M' o i = M o i := by
    intro m
    induction m with
    | zero =>
      intro x M hx R h
      have n3 := R.1.2.2.1
      rw [L_Journey_narrowest_2, R.1.1, if_pos (by rw [le32_iff] <;> omega)]
      exact ⟨M, rfl, R, fun i hi => h i (by omega), fun _ _ _ => rfl⟩
    | succ m ih =>
      intro x M hx R h
      have n3 := R.1.2.2.1
      have fr : ∀ o i, o ≠ 56 → o ≠ 57 → pset (pset M 56 x (-1)) 57 x (xcG G (nowN G) (plN G x)) o i = M o i := fun o i a b => by rw [pset_ne b, pset_ne a]
      have e55 : pset M 56 x (-1) 55 x = xcG G (nowN G) (plN G x) := by rw [pset_ne (by decide)]; exact R.2.2.2.2 x (by omega)
      obtain ⟨p1, p2, p3, p4, p5⟩ := R
      obtain ⟨M', a1, a2, a3, a4⟩ := ih (x + 1) (pset (pset M 56 x (-1)) 57 x (xcG G (nowN G) (plN G x))) (by omega) ⟨LI_ag (fun o i ho => fr o i (by omega) (by omega)) p1, CT_ag (fun i => fr 54 i (by decide) (by decide)) p2, by rw [fr 52 7 (by decide) (by decide)]; exact p3, p4, fun i hi => by rw [fr 55 i (by decide) (by decide)]; exact p5 i hi⟩ (fun i hi => by
        by_cases u : i = x
        · rw [u, pset_ne (show 56 ≠ 57 by decide), pset_eq, pset_eq]
          exact ⟨rfl, rfl⟩
        · rw [pset_ne (show 56 ≠ 57 by decide), pset_ne2 u, pset_ne2 u, pset_ne (show 57 ≠ 56 by decide)]
          exact h i (by omega))
      refine ⟨M', ?_, a2, a3, fun o i ho => by rw [a4 o i ho, fr o i (by omega) (by omega)]⟩
      rw [L_Journey_narrowest_2, p1.1, if_neg (by rw [le32_iff] <;> omega), if_pos (by omega), if_pos (by omega), if_pos (by omega), Int.toNat_natCast, e55, show ((x : Int) + 1) = ((x + 1 : Nat) : Int) by omega]
      exact a1
  have n3 := R.1.2.2.1
  obtain ⟨M1, e1, R1, h, f1⟩ := key (nG G) 0 M (by omega) R (fun i hi => absurd hi (Nat.not_lt_zero i))
  have S1 : NS G M1 := ⟨fun j hj => by
    obtain ⟨a, b⟩ := h j hj
    have xr := xc_range W (nowN G) (plN G j)
    refine ⟨Or.inl a, by omega, by omega, by omega, ?_, ?_⟩
    · rw [b]
      exact ⟨0, (show xcG G (nowN G) (plN G j) ≤ xcG G (nowN G) (plN G j) from Int.le_refl _)⟩
    · rw [b]; exact cst1_0 hj, fun i hi z => by
    rw [(h i hi).1] at z
    exact absurd z (by decide)⟩
  have cn := cnN_all (p := M1 56) (nG G) (fun i hi => (h i hi).1)
  obtain ⟨c, M2, e2, R2, w2, f2⟩ := x_w23 (D := D) hD W h1 (nG G) 0 (.inr 0) (.inr 0) M1 (by omega) R1 S1 (h τ R.2.2.2.1).1 (by omega)
  rw [T_Journey_narrowest, show (.inl 0 : pV) = .inl ((0 : Nat) : Int) from rfl, e1]
  exact ⟨c, M2, e2, R2, w2, fun o i ho => by rw [f2 o i ho, f1 o i ho]⟩
/-- what is answered -/
def wkV (G : pM) (p : Nat → Int) (v : Int) : Prop := (isN G p = true → v = 0) ∧ (isN G p = false → (tmG G ∨ ¬ nG G ≤ 300) → v = -3) ∧ (isN G p = false → ¬ tmG G → nG G ≤ 300 → (∀ i, i < nG G → ¬ tgP G p i) → v = -2) ∧ (isN G p = false → ¬ tmG G → nG G ≤ 300 → ∀ τ, τ < nG G → tgP G p τ → ((∀ k : Nat, k ≤ 999 → ¬ Rw G (k : Int) τ) → v = -2) ∧ ∀ k : Nat, k ≤ 999 → Rw G (k : Int) τ → (∀ k' : Nat, k' < k → ¬ Rw G (k' : Int) τ) → v = (k : Int))
theorem wkV_eq (a : wkV G p v) (b : wkV G p y) : v = y := by
  obtain ⟨a1, a2, a3, a4⟩ := a
  obtain ⟨b1, b2, b3, b4⟩ := b
  cases s : isN G p with
  | true => rw [a1 s, b1 s]
  | false =>
    rcases Classical.em (tmG G) with q | q
    · rw [a2 s (Or.inl q), b2 s (Or.inl q)]
    · by_cases n : nG G ≤ 300
      · rcases Classical.em (∃ i, i < nG G ∧ tgP G p i) with t | t
        · obtain ⟨τ, t1, t2⟩ := t
          obtain ⟨a5, a6⟩ := a4 s q n τ t1 t2
          obtain ⟨b5, b6⟩ := b4 s q n τ t1 t2
          rcases Classical.em (∃ k : Nat, k ≤ 999 ∧ Rw G (k : Int) τ) with k | k
          · obtain ⟨k, ⟨k0, k1⟩, k2⟩ := least_of (P := fun k : Nat => k ≤ 999 ∧ Rw G (k : Int) τ) k
            have k3 : ∀ k' : Nat, k' < k → ¬ Rw G (k' : Int) τ := fun k' u z => k2 k' u ⟨by omega, z⟩
            rw [a6 k k0 k1 k3, b6 k k0 k1 k3]
          · rw [a5 (fun k' u z => k ⟨k', u, z⟩), b5 (fun k' u z => k ⟨k', u, z⟩)]
        · rw [a3 s q n (fun i hi z => t ⟨i, hi, z⟩), b3 s q n (fun i hi z => t ⟨i, hi, z⟩)]
      · rw [a2 s (Or.inr n), b2 s (Or.inr n)]
theorem x_weakV (hd : 10 ≤ d) (W : WF G) (X : XG M G) (C : CL M G) {v : Int} (ee : xF d 42 [.inr 2] M = rI v M') : (M 0 14 = hT G → 0 < M 0 14 → PL M G 58 p → wkV G p v) ∧ (¬ (M 0 14 = hT G ∧ 0 < M 0 14) → -2147483648 ≤ M 0 14 ∧ M 0 14 ≤ 2147483647 → v = -4) := by
  obtain ⟨D, rfl, hD⟩ := dsucc hd
  rw [T_X_weakest] at ee
  obtain ⟨z, N, e1, ee⟩ := pbI_inv ee
  obtain ⟨r1, r2⟩ := x_ready (p := p) hD W X C e1
  refine ⟨fun q1 q2 P => ?_, fun q r => ?_⟩
  · have h1 : 1 ≤ hR G := by
      have := W.2.2.2.2.2.2.2.1 0 (by omega)
      omega
    obtain ⟨b1, b2, b3, b4⟩ := r1 q1 q2 P
    have low : ∀ u : Int, z = u → -10 ≤ u → u ≤ 0 → v = u := fun u a b c => by
      rw [a, if_neg (by rw [lt32_iff] <;> omega)] at ee
      exact (rI_inj ee).1.symm
    refine ⟨fun s => low 0 (b1 s) (by decide) (by decide), fun s t => low (-3) (b2 s t) (by decide) (by decide), fun s t n u => low (-2) (b3 s t n u) (by decide) (by decide), fun s t n τ t1 t2 => ?_⟩
    obtain ⟨z1, ⟨τ', u1, u2, R⟩, -, -⟩ := b4 s t n ⟨τ, t1, t2⟩
    have eτ := tg_one W h1 u1 t1 u2 t2
    rw [eτ] at R
    rw [z1, if_pos (by decide)] at ee
    obtain ⟨c, N2, e2, -, ⟨c1, c2, c3, c4, c5⟩, -⟩ := x_narrow (d := D) (by omega) W h1 R
    rw [e2, pbI_rI] at ee
    obtain ⟨n, hn⟩ := natI c1
    rw [hn] at ee c2 c3 c5
    by_cases q : n ≤ 999
    · rw [if_pos (by rw [le32_iff] <;> omega)] at ee
      obtain ⟨v6, N3, -, ee⟩ := pbI_inv ee
      obtain ⟨N4, -, ee⟩ := pbN_inv ee
      obtain ⟨N5, -, ee⟩ := pbN_inv ee
      have fin := (rI_inj ee).1.symm
      refine ⟨fun no => absurd c3 (no n q), fun k k1 k2 k3 => ?_⟩
      rw [fin]
      rcases Nat.lt_trichotomy n k with u | u | u
      · exact absurd c3 (k3 n u)
      · rw [u]
      · exact absurd k2 (c5 k (by omega) (by omega))
    · rw [if_neg (by rw [le32_iff] <;> omega)] at ee
      exact ⟨fun _ => (rI_inj ee).1.symm, fun k k1 k2 _ => absurd k2 (c5 k (by omega) (by omega))⟩
  · have a := r2 q r
    rw [a, if_neg (by decide)] at ee
    exact (rI_inj ee).1.symm
end WEM
/-! the least strength on the other side; weakest joined -/
section WEO
variable {D d : Nat} {M M' M1 M2 N G : pM} {p : Nat → Int} {w1 : List (Nat × Nat)} {v y w : Int}
theorem stp_0 {a b : Nat} (h : stp G w a b = 0) : a = b := by
  unfold stp at h
  rcases firstN_spec (fun n => (rch G w a n).testBit b) (hR G) 0 with ⟨e, -⟩ | ⟨j, e, -, -, c, -⟩
  · rw [e] at h; exact absurd h (by decide)
  · rw [e] at h
    have j0 : j = 0 := by omega
    rw [j0] at c
    exact rch_zero.mp c
theorem c6_0 (W : WF G) {t a b : Nat} (ht : t < hT G) (h : c6 G t a b ≤ 0) : a = b := by
  have w5 := (W.2.2.2.2.2.2.2.1 t ht).2.2.1
  have cr := cst_range W ht a b
  unfold c6 at h
  by_cases q : cst G t a b < 0
  · rw [if_pos q] at h; exact absurd h (by decide)
  · rw [if_neg q] at h
    have c0 : cst G t a b = 0 := by omega
    unfold cst at c0
    by_cases s : stp G (G 4 t) a b < 0
    · rw [if_pos s] at c0; exact absurd c0 (by decide)
    · rw [if_neg s] at c0
      rcases Int.mul_eq_zero.mp c0 with z | z
      · exact stp_0 z
      · omega
theorem xc_0 (W : WF G) {f g : Nat → Nat} (h : xcG G f g ≤ 0) : ∀ t, t < hT G → f t = g t := fun t ht => by
  have s : c6 G t (f t) (g t) ≤ sumTo (fun t => c6 G t (f t) (g t)) (hT G) := (sum_one (f := fun t => c6 G t (f t) (g t)) (fun t ht => (c6_range W ht _ _).1) ht).1
  unfold xcG at h
  exact c6_0 W ht (by omega)
theorem Rw_now (W : WF G) : ∀ m j, fD (EE G 0) (E0 G 0) (nG G) m j → ∀ t, t < hT G → nowN G t = plN G j t
  | 0, j, h => xc_0 W (show xcG G (nowN G) (plN G j) ≤ 0 from h)
  | m + 1, j, h => by
    rcases h with h | ⟨i, i1, i2, i3⟩
    · exact Rw_now W m j h
    · intro t ht
      rw [Rw_now W m i i2 t ht, xc_0 W (show xcG G (plN G i) (plN G j) ≤ 0 from i3) t ht]
theorem Rw_no0 (W : WF G) {τ : Nat} (tp : tgP G p τ) (s : isN G p = false) : ¬ Rw G 0 τ := fun ⟨m, hm⟩ => by
  have a := Rw_now W m τ hm
  have z : isN G p = true := allTo_iff.mpr fun t ht => decide_eq_true (by
    have b := (W.2.2.2.2.2.2.2.1 t ht).2.2.2
    have en : G 6 t = (nowN G t : Int) := (Int.toNat_of_nonneg b.1).symm
    rw [← tp t ht, ← a t ht]
    exact en)
  rw [s] at z
  cases z
theorem Rw_down {x : Int} (W : WF G) (hx : x ≤ 999) (nc : ∀ a, a < nG G + 1 → ∀ b, 1 ≤ b → b < nG G + 1 → rcG G (rowN G a) (rowN G b) ≠ x) : ∀ m j, j < nG G → fD (EE G x) (E0 G x) (nG G) m j → fD (EE G (x - 1)) (E0 G (x - 1)) (nG G) m j
  | 0, j, hj, h => by
    have h' : xcG G (nowN G) (plN G j) ≤ x := h
    show xcG G (nowN G) (plN G j) ≤ x - 1
    have n := nc 0 (by omega) (j + 1) (by omega) (by omega)
    rw [rowN_0, rowN_s] at n
    rcases xc_eq W (nowN G) (plN G j) with ⟨-, u⟩ | ⟨u1, u2⟩ <;> omega
  | m + 1, j, hj, h => by
    rcases h with h | ⟨i, i1, i2, i3⟩
    · exact Or.inl (Rw_down W hx nc m j hj h)
    · have h' : xcG G (plN G i) (plN G j) ≤ x := i3
      have n := nc (i + 1) (by omega) (j + 1) (by omega) (by omega)
      rw [rowN_s, rowN_s] at n
      refine Or.inr ⟨i, i1, Rw_down W hx nc m i i1 i2, ?_⟩
      show xcG G (plN G i) (plN G j) ≤ x - 1
      rcases xc_eq W (plN G i) (plN G j) with ⟨-, u⟩ | ⟨u1, u2⟩ <;> omega
/-- is it one of the costs -/
theorem m_isc8 (W : WF G) {a : Nat} (ha : a < nG G + 1) (hv : 0 ≤ v ∧ v ≤ 999) (A : AM G M) : ∀ m b, b + m = nG G + 1 → 1 ≤ b → (∀ c, 1 ≤ c → c < b → rcG G (rowN G a) (rowN G c) ≠ v) → xE D 265 8 [.inr 62, .inl v, .inl (a : Int), .inl (b : Int)] [] M = rI 1 M ∨ ((∀ c, 1 ≤ c → c < nG G + 1 → rcG G (rowN G a) (rowN G c) ≠ v) ∧ xE D 265 8 [.inr 62, .inl v, .inl (a : Int), .inl (b : Int)] [] M = xE D 265 2 [.inr 62, .inl v, .inl ((a + 1 : Nat) : Int), .inl ((nG G + 1 : Nat) : Int)] [] M)
  | 0, b, hb, b1, h => by
    have n3 := A.2.1
    rw [L_M_isCost_8, A.1, if_pos (by rw [le32_iff] <;> omega), show ((a : Int) + 1) = ((a + 1 : Nat) : Int) by omega, show b = nG G + 1 by omega]
    exact Or.inr ⟨fun c c1 c2 => h c c1 (by omega), rfl⟩
  | m + 1, b, hb, b1, h => by
    have n3 := A.2.1
    have c0 := rc_range W (rowN G a) (rowN G b)
    have e84 := A.2.2 a ha b b1 (by omega)
    rw [L_M_isCost_8, A.1, if_neg (by rw [le32_iff] <;> omega), if_pos (by omega), show (301 * (a : Int) + (b : Int)).toNat = 301 * a + b by omega, e84, show ((b : Int) + 1) = ((b + 1 : Nat) : Int) by omega]
    by_cases q : rcG G (rowN G a) (rowN G b) = v
    · rw [if_neg (fun z => z (by rw [q]))]
      exact Or.inl rfl
    · rw [if_pos (by rw [eq32_iff] <;> omega)]
      exact m_isc8 W ha hv A m (b + 1) (by omega) (by omega) (fun c c1 c2 => by
        by_cases u : c = b
        · rw [u]; exact q
        · exact h c c1 (by omega))
theorem m_isc2 (W : WF G) (hv : 0 ≤ v ∧ v ≤ 999) (A : AM G M) : ∀ m a (y3 : pV), a + m = nG G + 1 → (∀ i, i < a → ∀ c, 1 ≤ c → c < nG G + 1 → rcG G (rowN G i) (rowN G c) ≠ v) → xE D 265 2 [.inr 62, .inl v, .inl (a : Int), y3] [] M = rI 1 M ∨ ((∀ i, i < nG G + 1 → ∀ c, 1 ≤ c → c < nG G + 1 → rcG G (rowN G i) (rowN G c) ≠ v) ∧ xE D 265 2 [.inr 62, .inl v, .inl (a : Int), y3] [] M = rI 0 M)
  | 0, a, y3, ha, h => by
    have n3 := A.2.1
    rw [L_M_isCost_2, A.1, if_pos (by rw [le32_iff] <;> omega)]
    exact Or.inr ⟨fun i hi => h i (by omega), rfl⟩
  | m + 1, a, y3, ha, h => by
    have n3 := A.2.1
    rw [L_M_isCost_2, A.1, if_neg (by rw [le32_iff] <;> omega)]
    have g := m_isc8 (D := D) W (show a < nG G + 1 by omega) hv A (nG G) 1 (by omega) (Nat.le_refl 1) (fun c c1 c2 => by omega)
    rw [show ((1 : Nat) : Int) = 1 from rfl] at g
    rcases g with g | ⟨g1, g2⟩
    · exact Or.inl g
    · rw [g2]
      exact m_isc2 W hv A m (a + 1) _ (by omega) (fun i hi => by
        by_cases u : i = a
        · rw [u]; exact g1
        · exact h i (by omega))
theorem m_isc (hd : 1 ≤ d) (W : WF G) (hv : 0 ≤ v ∧ v ≤ 999) (A : AM G M) : xF d 265 [.inr 62, .inl v] M = rI 1 M ∨ ((∀ i, i < nG G + 1 → ∀ c, 1 ≤ c → c < nG G + 1 → rcG G (rowN G i) (rowN G c) ≠ v) ∧ xF d 265 [.inr 62, .inl v] M = rI 0 M) := by
  obtain ⟨D, rfl, -⟩ := dsucc hd
  rw [T_M_isCost]
  exact m_isc2 (D := D) W hv A (nG G + 1) 0 (.inr 0) (by omega) (fun i hi => absurd hi (Nat.not_lt_zero i))
def wkR (G : pM) (τ : Nat) (v : Int) : Prop := (v = -2 ∧ ∀ k : Nat, k ≤ 999 → ¬ Rw G (k : Int) τ) ∨ ∃ k : Nat, k ≤ 999 ∧ v = (k : Int) ∧ Rw G (k : Int) τ ∧ ∀ k' : Nat, k' < k → ¬ Rw G (k' : Int) τ
theorem m_wk32v (hD : 1 ≤ D) (W : WF G) {τ : Nat} (hτ : τ < nG G) : ∀ (m x : Nat) (M : pM), x + m = 1000 → 1 ≤ x → AM G M → M 60 49 = ((τ + 1 : Nat) : Int) → (∀ k : Nat, k < x → ¬ Rw G (k : Int) τ) → xE D 264 32 [.inr 62, .inl (x : Int)] [] M = rI v M' → wkR G τ v
  | 0, x, M, hx, x1, A, h49, no, e => by
    rw [L_M_weakest_32, if_pos (by rw [lt32_iff] <;> omega)] at e
    exact Or.inl ⟨(rI_inj e).1.symm, fun k hk => no k (by omega)⟩
  | m + 1, x, M, hx, x1, A, h49, no, e => by
    have next : ∀ N : pM, AM G N → N 60 49 = ((τ + 1 : Nat) : Int) → ¬ Rw G (x : Int) τ → xE D 264 32 [.inr 62, .inl ((x : Int) + 1)] [] N = rI v M' → wkR G τ v := fun N AN hN nx e => by
      rw [show ((x : Int) + 1) = ((x + 1 : Nat) : Int) by omega] at e
      exact m_wk32v hD W hτ m (x + 1) N (by omega) (by omega) AN hN (fun k hk => by
        by_cases u : k = x
        · rw [u]; exact nx
        · exact no k (by omega)) e
    rw [L_M_weakest_32, if_neg (by rw [lt32_iff] <;> omega)] at e
    rcases m_isc (d := D) (v := (x : Int)) hD W ⟨by omega, by omega⟩ A with ez | ⟨nc, ez⟩
    · rw [ez, pbI_rI, if_pos (by decide)] at e
      obtain ⟨N2, e2, r, f⟩ := m_evs (d := D) (w := (x : Int)) hD W ⟨by omega, by omega⟩ hτ A h49
      rw [e2, pbN_rV] at e
      rcases r with ⟨b1, b2⟩ | ⟨k, b0, b1, b2, b3⟩
      · rw [b1, if_neg (by decide)] at e
        exact next N2 (AM_n f A) (by rw [f 60 49 (by decide) (by decide)]; exact h49) (fun z => by
          obtain ⟨k, hk⟩ := (Rw_At hτ).mp z
          exact b2 k hk) e
      · rw [if_pos (by rw [lt32_iff] <;> omega)] at e
        obtain ⟨N4, -, e⟩ := pbN_inv e
        exact Or.inr ⟨x, by omega, (rI_inj e).1.symm, (Rw_At hτ).mpr ⟨k, b2⟩, no⟩
    · rw [ez, pbI_rI, if_neg (fun y => y (by decide))] at e
      refine next M A h49 (fun z => ?_) e
      obtain ⟨m', hm⟩ := z
      refine no (x - 1) (by omega) ⟨m', ?_⟩
      rw [show ((x - 1 : Nat) : Int) = (x : Int) - 1 by omega]
      exact Rw_down W (by omega) nc m' τ hτ hm
theorem m_weakV (hd : 8 ≤ d) (W : WF G) (hM : gM gAll M) (h38 : M 60 38 = 0) (X : MG M G) {v : Int} (ee : xF d 264 [.inr 62] M = rI v M') : (M 60 44 = 1 → M 60 43 = hT G → 0 < hT G → PL M G 81 p → wkV G p v) ∧ (M 60 44 = 0 ∨ (M 60 44 = 1 ∧ M 60 43 ≠ hT G ∧ 0 ≤ M 60 43 ∧ M 60 43 ≤ 10) → v = -4) := by
  obtain ⟨D, rfl, hD⟩ := dsucc hd
  obtain ⟨D', rfl, hD'⟩ := dsucc (show 1 ≤ D by omega)
  have w2 := W.2.1
  have X1 := MG_thr X
  have g1 := gM_thr hM
  have k44 : pset M 60 17 0 60 44 = M 60 44 := pset_ne2 (by decide)
  have k43 : pset M 60 17 0 60 43 = M 60 43 := pset_ne2 (by decide)
  have k38 : pset M 60 17 0 60 38 = 0 := by rw [pset_ne2 (by decide)]; exact h38
  rw [T_M_weakest, T_M_hasAim, X1.1.2.1, k44, k43] at ee
  refine ⟨fun q1 q2 q3 P => ?_, fun q => ?_⟩
  · have h1 : 1 ≤ hR G := by
      have := W.2.2.2.2.2.2.2.1 0 q3
      omega
    have P1 : PL (pset M 60 17 0) G 81 p := fun t ht => by rw [pset_ne (by decide)]; exact P t ht
    rw [q1, if_neg (by decide), if_neg (fun z => z (by rw [q2])), pbI_rI, if_pos (by decide), m_isThere (by omega) W X1.1 P1, pbI_rI] at ee
    generalize pset M 60 17 0 = N0 at ee X1 g1 P1 k38
    cases s : isN G p with
    | true =>
      rw [s, if_pos rfl, if_neg (by decide)] at ee
      obtain ⟨M3, e3, -, f3⟩ := m_tellX (d := D' + 1) (M := pset N0 60 16 0) (n := 0) (by omega) (by decide) pset_eq 0
      rw [e3, pbN_rV] at ee
      exact ⟨fun _ => (rI_inj ee).1.symm, fun z => (by rw [s] at z; cases z), fun z => (by rw [s] at z; cases z), fun z => (by rw [s] at z; cases z)⟩
    | false =>
      rw [s, if_neg (show ¬ (false = true) from Bool.false_ne_true), if_pos (by decide)] at ee
      obtain ⟨z, N1, e1, r, f3, f12⟩ := m_aims (d := D' + 1) (by omega) W h1 g1 X1.1 k38 P1
      rw [e1, pbI_rI] at ee
      rcases r with ⟨r1, r2, r3, r4, r5, r6⟩ | ⟨r1, r2⟩
      · rw [r3, if_pos (by decide)] at ee
        rcases r5 with ⟨u1, u2⟩ | ⟨τ', u1, u2, u3⟩
        · rw [u1, if_neg (fun z => z (by decide))] at ee
          refine ⟨fun z => (by rw [s] at z; cases z), fun _ z => z.elim (fun z => absurd z r1) (fun z => absurd r2 z), fun _ _ _ _ => (rI_inj ee).1.symm, fun _ _ _ τ t1 t2 => absurd t2 (u2 τ t1)⟩
        · have A : AM G N1 := ⟨r4, r2, r6⟩
          rw [u3, if_pos (by rw [eq32_iff] <;> omega)] at ee
          have r := m_wk32v (D := D' + 1) (by omega) W u1 999 1 N1 (by omega) (by omega) A u3 (fun k hk => by
            rw [show k = 0 by omega]
            exact Rw_no0 W u2 s) ee
          refine ⟨fun z => (by rw [s] at z; cases z), fun _ z => z.elim (fun z => absurd z r1) (fun z => absurd r2 z), fun _ _ _ no => absurd u2 (no τ' u1), fun _ _ _ τ t1 t2 => ?_⟩
          have eτ := tg_one W h1 u1 t1 u2 t2
          rw [eτ] at r
          rcases r with ⟨b1, b2⟩ | ⟨k, b0, b1, b2, b3⟩
          · exact ⟨fun _ => b1, fun k k1 k2 _ => absurd k2 (b2 k k1)⟩
          · refine ⟨fun no => absurd b2 (no k b0), fun k' c1 c2 c3 => ?_⟩
            rw [b1]
            rcases Nat.lt_trichotomy k k' with u | u | u
            · exact absurd b2 (c3 k u)
            · rw [u]
            · exact absurd c2 (b3 k' u)
      · rw [r2, if_neg (by decide)] at ee
        exact ⟨fun z => (by rw [s] at z; cases z), fun _ _ => (rI_inj ee).1.symm, fun _ z n => r1.elim (fun w => absurd w z) (fun w => absurd n w), fun _ z n => r1.elim (fun w => absurd w z) (fun w => absurd n w)⟩
  · rcases q with q | ⟨q1, q2, q3, q4⟩
    · rw [q, if_pos (by decide), pbI_rI, if_neg (fun z => z (by decide))] at ee
      exact (rI_inj ee).1.symm
    · rw [q1, if_neg (by decide), if_pos (by rw [eq32_iff] <;> omega), pbI_rI, if_neg (fun z => z (by decide))] at ee
      exact (rI_inj ee).1.symm
theorem kc_weakest (R : RI0 M) (C : CI M) (A : GA M) (K : CK M) (R1 : RI0 M1) (e1 : xF 1000 42 [.inr 2] M = rI v M1) (f1 : Fr w1 M M1) (k1 : okW cm cmo w1 = true) (k2 : okW cg cgo w1 = true) (e2 : xF 1000 264 [.inr 62] M1 = rI y M2) : v = y := by
  obtain ⟨G, X, Y⟩ := C
  obtain ⟨W, -⟩ := ci_facts R X Y
  have w2 := W.2.1
  have gk : ∀ o i, cg o i = true → M1 o i = M o i := fun o i q => f1 o i (okW_no cg_o k2 q)
  have hR0 := Y.1.1
  have C := CK_G K X.1
  have Y1 := MG_Fr f1 k1 Y
  rcases A with ⟨a1, a2⟩ | ⟨a1, a2, a3, a4⟩
  · have a := (x_weakV (p := M 58) (by decide) W X C e1).2 (fun z => absurd z.2 (by omega)) (by omega)
    have b := (m_weakV (p := M1 81) (by decide) W R1.1 R1.2.1 Y1 e2).2 (Or.inl (by rw [gk 60 44 (by decide)]; exact a2))
    rw [a, b]
  · by_cases z : M 0 14 = hT G
    · have P : PL M G 58 (M 58) := fun t ht => by
        obtain ⟨-, b2, b3⟩ := a4 t (by omega)
        exact ⟨rfl, b2, by rw [← hR0]; exact b3⟩
      have P2 : PL M1 G 81 (M 58) := fun t ht => by
        obtain ⟨b1, b2, b3⟩ := a4 t (by omega)
        exact ⟨by rw [gk 81 t (by rfl)]; exact b1.symm, b2, by rw [← hR0]; exact b3⟩
      exact wkV_eq ((x_weakV (p := M 58) (by decide) W X C e1).1 z a1 P) ((m_weakV (p := M 58) (by decide) W R1.1 R1.2.1 Y1 e2).1 (by rw [gk 60 44 (by decide)]; exact a2) (by rw [gk 60 43 (by decide), a3]; exact z) (by omega) P2)
    · have b43 := gm_i R.1 60 43 (lo := 0) (hi := 10) (by decide +kernel) (by decide +kernel)
      have a := (x_weakV (p := M 58) (by decide) W X C e1).2 (fun u => absurd u.1 z) (by omega)
      have b := (m_weakV (p := M1 81) (by decide) W R1.1 R1.2.1 Y1 e2).2 (Or.inr ⟨by rw [gk 60 44 (by decide)]; exact a2, by rw [gk 60 43 (by decide), a3]; exact z, by rw [gk 60 43 (by decide)]; exact b43.1, by rw [gk 60 43 (by decide)]; exact b43.2⟩)
      rw [a, b]
end WEO
