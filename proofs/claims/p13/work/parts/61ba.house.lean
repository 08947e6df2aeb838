/-! a house without a machine: 0: [rooms, things, sets], 1 size, 2 door (6 a + b), 3 bulk, 4 girth, 5 weight, 6 where, 7 members -/
def hR (h : pM) : Nat := (h 0 0).toNat
def hT (h : pM) : Nat := (h 0 1).toNat
def hS (h : pM) : Nat := (h 0 2).toNat
def me (h : pM) (s : Nat) : Nat := (h 7 s).toNat
def WF (h : pM) : Prop := hR h ≤ 6 ∧ hT h ≤ 10 ∧ hS h ≤ 8 ∧ (∀ r, r < hR h → 1 ≤ h 1 r ∧ h 1 r ≤ 99) ∧ (∀ p, p < 36 → 0 ≤ h 2 p ∧ h 2 p ≤ 9) ∧ (∀ a b, a < 6 → b < 6 → h 2 (6 * a + b) = h 2 (6 * b + a)) ∧ (∀ a b, a < 6 → b < 6 → (hR h ≤ a ∨ hR h ≤ b ∨ a = b) → h 2 (6 * a + b) = 0) ∧ (∀ t, t < hT h → (1 ≤ h 3 t ∧ h 3 t ≤ 99) ∧ (1 ≤ h 4 t ∧ h 4 t ≤ 9) ∧ (1 ≤ h 5 t ∧ h 5 t ≤ 9) ∧ (0 ≤ h 6 t ∧ h 6 t < hR h)) ∧ (∀ s, s < hS h → me h s < 2 ^ hT h)
/-- the class's house is h -/
def XH (M h : pM) : Prop := M 7 9 = hR h ∧ M 7 10 = hT h ∧ M 7 11 = hS h ∧ (∀ r, r < hR h → M 8 r = h 1 r) ∧ (∀ p, p < 36 → M 9 p = h 2 p) ∧ (∀ t, t < hT h → M 10 t = h 3 t ∧ M 11 t = h 4 t ∧ M 12 t = h 5 t ∧ M 13 t = h 6 t) ∧ (∀ s, s < hS h → M 14 s = me h s)
/-- object o tells a place for each thing, and it is p -/
def PL (M h : pM) (o : Nat) (p : Nat → Int) : Prop := ∀ t, t < hT h → M o t = p t ∧ 0 ≤ p t ∧ p t < hR h
/-- the memory changes at places of C alone -/
def ag (C : Nat → Nat → Bool) (M M' : pM) : Prop := ∀ o i, C o i = false → M' o i = M o i
theorem ag_rfl {C : Nat → Nat → Bool} {M : pM} : ag C M M := fun _ _ _ => rfl
theorem ag_trans {C : Nat → Nat → Bool} {M M1 M2 : pM} (h1 : ag C M M1) (h2 : ag C M1 M2) : ag C M M2 := fun o i h => (h2 o i h).trans (h1 o i h)
theorem ag_mono {C C' : Nat → Nat → Bool} {M M' : pM} (h : ag C M M') (hc : ∀ o i, C' o i = false → C o i = false) : ag C' M M' := fun o i q => h o i (hc o i q)
theorem ag_pset {C : Nat → Nat → Bool} {M M' : pM} {o i : Nat} {v : Int} (h : ag C M M') (hc : C o i = true) : ag C M (pset M' o i v) := fun o' i' q => by
  unfold pset
  split
  · rename_i e
    rw [e.1, e.2, hc] at q
    cases q
  · exact h o' i' q
theorem ag_pcp {C : Nat → Nat → Bool} {M M' : pM} {a b n : Nat} (h : ag C M M') (hc : ∀ i, C b i = true) : ag C M (pcp M' a b n) := fun o' i' q => by
  unfold pcp
  split
  · rename_i e
    rw [e.1, hc] at q
    cases q
  · exact h o' i' q
theorem XH_ag {C : Nat → Nat → Bool} {M M' h : pM} (a : ag C M M') (hc : ∀ o i, 7 ≤ o → o ≤ 14 → (o = 7 → 9 ≤ i ∧ i ≤ 11) → C o i = false) (X : XH M h) : XH M' h := by
  obtain ⟨x1, x2, x3, x4, x5, x6, x7⟩ := X
  refine ⟨?_, ?_, ?_, ?_, ?_, ?_, ?_⟩
  · rw [a 7 9 (hc _ _ (by decide) (by decide) (fun _ => by decide))]; exact x1
  · rw [a 7 10 (hc _ _ (by decide) (by decide) (fun _ => by decide))]; exact x2
  · rw [a 7 11 (hc _ _ (by decide) (by decide) (fun _ => by decide))]; exact x3
  · intro r hr; rw [a 8 r (hc _ _ (by decide) (by decide) (fun q => by cases q))]; exact x4 r hr
  · intro p hp; rw [a 9 p (hc _ _ (by decide) (by decide) (fun q => by cases q))]; exact x5 p hp
  · intro t ht
    rw [a 10 t (hc _ _ (by decide) (by decide) (fun q => by cases q)), a 11 t (hc _ _ (by decide) (by decide) (fun q => by cases q)), a 12 t (hc _ _ (by decide) (by decide) (fun q => by cases q)), a 13 t (hc _ _ (by decide) (by decide) (fun q => by cases q))]
    exact x6 t ht
  · intro s hs; rw [a 14 s (hc _ _ (by decide) (by decide) (fun q => by cases q))]; exact x7 s hs
section HX
variable {d : Nat} {M h : pM}
theorem c_isRoom7 (hd : 1 ≤ d) (W : WF h) (X : XH M h) {b : Int} (h1 : -2147483648 ≤ b) (h2 : b < 2147483648) : xF d 63 [.inr 9, .inl b] M = rI (if 0 ≤ b ∧ b < hR h then 1 else 0) M := by
  obtain ⟨D, rfl, -⟩ := dsucc hd
  have w1 := W.1
  rw [T_House_isRoom_7, X.1]
  simp (disch := omega) only [lt32_iff, le32_iff]
  by_cases q : b < 0
  · rw [if_pos q, if_neg (by omega)]
  · rw [if_neg q]
    by_cases q2 : (hR h : Int) ≤ b
    · rw [if_pos q2, if_neg (by omega)]
    · rw [if_neg q2, if_pos (by omega)]
theorem c_isThing7 (hd : 1 ≤ d) (W : WF h) (X : XH M h) {b : Int} (h1 : -2147483648 ≤ b) (h2 : b < 2147483648) : xF d 64 [.inr 9, .inl b] M = rI (if 0 ≤ b ∧ b < hT h then 1 else 0) M := by
  obtain ⟨D, rfl, -⟩ := dsucc hd
  have w1 := W.2.1
  rw [T_House_isThing, X.2.1]
  simp (disch := omega) only [lt32_iff, le32_iff]
  by_cases q : b < 0
  · rw [if_pos q, if_neg (by omega)]
  · rw [if_neg q]
    by_cases q2 : (hT h : Int) ≤ b
    · rw [if_pos q2, if_neg (by omega)]
    · rw [if_neg q2, if_pos (by omega)]
theorem c_unlike7 (hd : 2 ≤ d) (W : WF h) (X : XH M h) {a b : Int} (h1 : -2147483648 ≤ a) (h2 : a < 2147483648) (h3 : -2147483648 ≤ b) (h4 : b < 2147483648) : xF d 65 [.inr 9, .inl a, .inl b] M = rI (if (0 ≤ a ∧ a < hR h) ∧ (0 ≤ b ∧ b < hR h) ∧ a ≠ b then 1 else 0) M := by
  obtain ⟨D, rfl, hD⟩ := dsucc hd
  rw [T_House_areUnlikeRooms_7, c_isRoom7 hD W X h1 h2, pbI_rI, ite01p, c_isRoom7 hD W X h3 h4, pbI_rI, ite01p]
  simp only [eq32_iff h1 h2 h3 h4]
  by_cases qa : 0 ≤ a ∧ a < hR h
  · rw [if_pos qa]
    by_cases qb : 0 ≤ b ∧ b < hR h
    · rw [if_pos qb]
      by_cases e : a = b
      · rw [if_pos e, if_neg (fun q => q.2.2 e)]
      · rw [if_neg e, if_pos ⟨qa, qb, e⟩]
    · rw [if_neg qb, if_neg (fun q => qb q.2.1)]
  · rw [if_neg qa, if_neg (fun q => qa q.1)]
theorem c_allRooms (hd : 1 ≤ d) (W : WF h) (X : XH M h) : xF d 66 [.inr 9] M = rI ((2 ^ hR h - 1 : Nat) : Int) M := by
  obtain ⟨D, rfl, -⟩ := dsucc hd
  have w1 := W.1
  rw [T_House_allRooms, X.1, jshl_one _ (by omega)]
  have := Nat.one_le_two_pow (n := hR h)
  rw [Int.natCast_sub this]; rfl
theorem c_allThings (hd : 1 ≤ d) (W : WF h) (X : XH M h) : xF d 67 [.inr 9] M = rI ((2 ^ hT h - 1 : Nat) : Int) M := by
  obtain ⟨D, rfl, -⟩ := dsucc hd
  have w1 := W.2.1
  rw [T_House_allThings, X.2.1, jshl_one _ (by omega)]
  have := Nat.one_le_two_pow (n := hT h)
  rw [Int.natCast_sub this]; rfl
theorem c_allSets (hd : 1 ≤ d) (W : WF h) (X : XH M h) : xF d 68 [.inr 9] M = rI ((2 ^ hS h - 1 : Nat) : Int) M := by
  obtain ⟨D, rfl, -⟩ := dsucc hd
  have w1 := W.2.2.1
  rw [T_House_allSets, X.2.2.1, jshl_one _ (by omega)]
  have := Nat.one_le_two_pow (n := hS h)
  rw [Int.natCast_sub this]; rfl
theorem c_doorWidth7 (hd : 3 ≤ d) (W : WF h) (X : XH M h) {a b : Int} (h1 : -2147483648 ≤ a) (h2 : a < 2147483648) (h3 : -2147483648 ≤ b) (h4 : b < 2147483648) : xF d 74 [.inr 9, .inl a, .inl b] M = rI (if (0 ≤ a ∧ a < hR h) ∧ (0 ≤ b ∧ b < hR h) ∧ a ≠ b then h 2 (6 * a.toNat + b.toNat) else 0) M := by
  obtain ⟨D, rfl, hD⟩ := dsucc hd
  have w1 := W.1
  rw [T_House_doorWidth, c_unlike7 hD W X h1 h2 h3 h4, pbI_rI, ite01p]
  by_cases q : (0 ≤ a ∧ a < hR h) ∧ (0 ≤ b ∧ b < hR h) ∧ a ≠ b
  · rw [if_pos q, if_pos q, if_pos (by omega)]
    have e : ((a * 6) + b).toNat = 6 * a.toNat + b.toNat := by omega
    rw [e, X.2.2.2.2.1 _ (by omega)]
  · rw [if_neg q, if_neg q]
theorem c_doorWidth7n (hd : 3 ≤ d) (W : WF h) (X : XH M h) {a b : Nat} (ha : a < 6) (hb : b < 6) : xF d 74 [.inr 9, .inl (a : Int), .inl (b : Int)] M = rI (h 2 (6 * a + b)) M := by
  rw [c_doorWidth7 hd W X (by omega) (by omega) (by omega) (by omega)]
  by_cases q : (0 ≤ (a : Int) ∧ (a : Int) < hR h) ∧ (0 ≤ (b : Int) ∧ (b : Int) < hR h) ∧ (a : Int) ≠ b
  · rw [if_pos q, Int.toNat_natCast, Int.toNat_natCast]
  · rw [if_neg q, W.2.2.2.2.2.2.1 a b ha hb (by omega)]
/-- rooms next to a room -/
def nxt (h : pM) (w : Int) (a : Nat) : Nat := bitsOf (fun b => decide (w ≤ h 2 (6 * a + b))) (hR h)
theorem c_nextTo (hd : 4 ≤ d) (W : WF h) (X : XH M h) {a : Nat} (ha : a < 6) {w : Int} (hw1 : 0 ≤ w) (hw2 : w ≤ 9) : xF d 77 [.inr 9, .inl (a : Int), .inl w] M = rI (nxt h w a) M := by
  obtain ⟨D, rfl, hD⟩ := dsucc hd
  have w1 := W.1
  rw [T_House_nextTo]
  have key := bits_loop (fun b k => xE D 77 4 [.inr 9, .inl (a : Int), .inl w, .inl b, .inl k] [] M) (hR h) (fun b => decide (w ≤ h 2 (6 * a + b))) (fun k b hk hb => by
    have hv := W.2.2.2.2.1 (6 * a + k) (by omega)
    rw [L_House_nextTo_4, X.1, if_neg (by rw [le32_iff] <;> omega), c_doorWidth7n hD W X ha (by omega), pbI_rI]
    simp (disch := omega) only [lt32_iff]
    by_cases q : h 2 (6 * a + k) < w
    · rw [if_pos q, if_neg (by simp; omega)]
    · rw [if_neg q, if_pos (by simp; omega), jor_shl hb (by omega)])
  rw [key, L_House_nextTo_4, X.1, if_pos (by rw [le32_iff] <;> omega)]
  rfl
/-- one step on: what is seen, and what lies behind a door of that width from it -/
def oneL (seen : Nat) (dw : Nat → Bool) : Nat → Nat
  | 0 => seen
  | k + 1 => if seen.testBit (k / 6) && dw k then oneL seen dw k ||| 2 ^ (k % 6) else oneL seen dw k
theorem oneL_lt {seen : Nat} {dw : Nat → Bool} (hs : seen < 64) : ∀ k, oneL seen dw k < 64
  | 0 => hs
  | k + 1 => by
    unfold oneL
    split
    · exact Nat.or_lt_two_pow (n := 6) (oneL_lt hs k) (Nat.pow_lt_pow_right (by decide) (Nat.mod_lt _ (by decide)))
    · exact oneL_lt hs k
theorem oneL_bit {seen : Nat} {dw : Nat → Bool} {b : Nat} : ∀ k, (oneL seen dw k).testBit b = true ↔ seen.testBit b = true ∨ ∃ p, p < k ∧ p % 6 = b ∧ seen.testBit (p / 6) = true ∧ dw p = true
  | 0 => by
    unfold oneL
    constructor
    · exact Or.inl
    · rintro (h1 | ⟨p, h1, -⟩)
      · exact h1
      · omega
  | k + 1 => by
    have ih := oneL_bit (seen := seen) (dw := dw) (b := b) k
    unfold oneL
    split
    · rename_i hc
      rw [Bool.and_eq_true] at hc
      rw [Nat.testBit_or, Bool.or_eq_true, ih]
      constructor
      · rintro ((h1 | ⟨p, h1, h2⟩) | h1)
        · exact Or.inl h1
        · exact Or.inr ⟨p, by omega, h2⟩
        · have e := Nat.testBit_two_pow.symm ▸ h1
          rw [Nat.testBit_two_pow] at h1
          exact Or.inr ⟨k, Nat.lt_succ_self k, of_decide_eq_true h1, hc.1, hc.2⟩
      · rintro (h1 | ⟨p, h1, h2, h3, h4⟩)
        · exact Or.inl (Or.inl h1)
        · rcases Nat.lt_or_ge p k with q | q
          · exact Or.inl (Or.inr ⟨p, q, h2, h3, h4⟩)
          · have : p = k := by omega
            subst this
            exact Or.inr (by rw [Nat.testBit_two_pow]; exact decide_eq_true h2)
    · rename_i hc
      rw [ih]
      constructor
      · rintro (h1 | ⟨p, h1, h2⟩)
        · exact Or.inl h1
        · exact Or.inr ⟨p, by omega, h2⟩
      · rintro (h1 | ⟨p, h1, h2, h3, h4⟩)
        · exact Or.inl h1
        · rcases Nat.lt_or_ge p k with q | q
          · exact Or.inr ⟨p, q, h2, h3, h4⟩
          · have : p = k := by omega
            subst this
            exact absurd (by rw [h3, h4]; rfl) hc
theorem oneL_succ (seen : Nat) (dw : Nat → Bool) (k : Nat) : oneL seen dw (k + 1) = if seen.testBit (k / 6) && dw k then oneL seen dw k ||| 2 ^ (k % 6) else oneL seen dw k := rfl
def oneS (h : pM) (w : Int) (seen : Nat) : Nat := oneL seen (fun p => decide (w ≤ h 2 p)) 36
theorem oneS_lt {w : Int} {seen : Nat} (hs : seen < 64) : oneS h w seen < 64 := oneL_lt hs 36
theorem c_oneStep (hd : 2 ≤ d) (W : WF h) (X : XH M h) {seen : Nat} (hs : seen < 64) {w : Int} (hw1 : 0 ≤ w) (hw2 : w ≤ 9) : xF d 78 [.inr 9, .inl (seen : Int), .inl w] M = rI (oneS h w seen) M := by
  obtain ⟨D, rfl, hD⟩ := dsucc hd
  rw [T_House_oneStepFrom]
  have key : ∀ k : Nat, k ≤ 36 → xE D 78 4 [.inr 9, .inl (seen : Int), .inl w, .inl (seen : Int), .inl 0] [] M = xE D 78 4 [.inr 9, .inl (seen : Int), .inl w, .inl (oneL seen (fun p => decide (w ≤ h 2 p)) k : Nat), .inl (k : Int)] [] M := by
    intro k
    induction k with
    | zero => intro _; rfl
    | succ k ih =>
      intro hk
      have hv := W.2.2.2.2.1 k (by omega)
      have hx := X.2.2.2.2.1 k (by omega)
      have hl := oneL_lt (dw := fun p => decide (w ≤ h 2 p)) hs k
      rw [ih (by omega), L_House_oneStepFrom_4, if_neg (by rw [le32_iff] <;> omega), show (6 : Int) = ((6 : Nat) : Int) from rfl, jdiv_nat (by omega) (by decide) (by decide), c_has hD (by omega) (by omega), pbI_rI, ite01]
      rw [oneL_succ]
      generalize oneL seen (fun p => decide (w ≤ h 2 p)) k = acc at hl ⊢
      cases hb : seen.testBit (k / 6) with
      | false => rfl
      | true =>
        rw [if_pos rfl, if_pos (by omega), Int.toNat_natCast, hx, jrem_nat (by omega) (by decide) (by decide)]
        have h6 : k % 6 < 6 := Nat.mod_lt _ (by decide)
        have h7 : 2 ^ (k % 6) < 64 := Nat.pow_lt_pow_right (n := 6) (by decide) h6
        simp (disch := omega) only [lt32_iff]
        by_cases q : h 2 k < w
        · rw [if_pos q, if_neg (by simp; omega)]; rfl
        · rw [if_neg q, if_pos (by simp; omega), jshl_one _ (by omega), jor_nat (by omega) (by omega)]; rfl
  rw [key 36 (by decide), L_House_oneStepFrom_4, if_pos (by rw [le32_iff] <;> omega)]
  rfl
/-- rooms that a thing of that width comes to in so many steps -/
def rch (h : pM) (w : Int) (a : Nat) : Nat → Nat
  | 0 => 2 ^ a
  | n + 1 => oneS h w (rch h w a n)
theorem rch_lt {w : Int} {a : Nat} (ha : a < 6) : ∀ n, rch h w a n < 64
  | 0 => Nat.pow_lt_pow_right (n := 6) (by decide) ha
  | n + 1 => oneS_lt (rch_lt ha n)
/-- steps from a to b, -1: none -/
def stp (h : pM) (w : Int) (a b : Nat) : Int := firstN (fun n => (rch h w a n).testBit b) 0 (hR h)
theorem c_steps (hd : 3 ≤ d) (W : WF h) (X : XH M h) {a b : Nat} (ha : a < hR h) (hb : b < hR h) {w : Int} (hw1 : 0 ≤ w) (hw2 : w ≤ 9) : xF d 80 [.inr 9, .inl w, .inl (a : Int), .inl (b : Int)] M = rI (stp h w a b) M := by
  obtain ⟨D, rfl, hD⟩ := dsucc hd
  have w1 := W.1
  rw [T_House_steps, c_isRoom7 (by omega) W X (by omega) (by omega), pbI_rI, ite01p, if_pos (by omega), c_isRoom7 (by omega) W X (by omega) (by omega), pbI_rI, ite01pn, if_pos (by omega), jshl_one _ (by omega)]
  have key : ∀ m k : Nat, k + m = hR h → xE D 80 16 [.inr 9, .inl w, .inl (a : Int), .inl (b : Int), .inl (rch h w a k : Nat), .inl (k : Int)] [] M = rI (firstN (fun n => (rch h w a n).testBit b) k m) M := by
    intro m
    induction m with
    | zero =>
      intro k hk
      rw [L_House_steps_16, X.1, if_pos (by rw [le32_iff] <;> omega)]; rfl
    | succ m ih =>
      intro k hk
      have hl := rch_lt (h := h) (w := w) (a := a) (by omega) k
      rw [L_House_steps_16, X.1, if_neg (by rw [le32_iff] <;> omega), c_has (by omega) (by omega) (by omega), pbI_rI, ite01]
      unfold firstN
      cases hc : (rch h w a k).testBit b with
      | true => rw [if_pos rfl, if_pos rfl]
      | false =>
        rw [if_neg (by simp), if_neg (by simp), c_oneStep (by omega) W X hl hw1 hw2, pbI_rI]
        exact ih (k + 1) (by omega)
  exact key (hR h) 0 (by omega)
theorem c_roomsFrom (hd : 3 ≤ d) (W : WF h) (X : XH M h) {a : Nat} (ha : a < hR h) {w : Int} (hw1 : 0 ≤ w) (hw2 : w ≤ 9) : xF d 79 [.inr 9, .inl w, .inl (a : Int)] M = rI (rch h w a (hR h - 1) : Nat) M := by
  obtain ⟨D, rfl, hD⟩ := dsucc hd
  have w1 := W.1
  rw [T_House_roomsFrom, c_isRoom7 (by omega) W X (by omega) (by omega), pbI_rI, ite01p, if_pos (by omega), jshl_one _ (by omega)]
  have key : ∀ m k : Nat, 1 ≤ k → k + m = hR h → xE D 79 12 [.inr 9, .inl w, .inl (a : Int), .inl (rch h w a (k - 1) : Nat), .inl (k : Int)] [] M = rI (rch h w a (hR h - 1) : Nat) M := by
    intro m
    induction m with
    | zero =>
      intro k hk1 hk
      rw [L_House_roomsFrom_12, X.1, if_pos (by rw [le32_iff] <;> omega), show k = hR h by omega]
    | succ m ih =>
      intro k hk1 hk
      have hl := rch_lt (h := h) (w := w) (a := a) (by omega) (k - 1)
      rw [L_House_roomsFrom_12, X.1, if_neg (by rw [le32_iff] <;> omega), c_oneStep (by omega) W X hl hw1 hw2, pbI_rI]
      have e : oneS h w (rch h w a (k - 1)) = rch h w a (k + 1 - 1) := by
        show rch h w a (k - 1 + 1) = _
        rw [show k - 1 + 1 = k + 1 - 1 by omega]
      rw [e]
      exact ih (k + 1) (by omega) (by omega)
  exact key (hR h - 1) 1 (by decide) (by omega)
theorem stp_range (W : WF h) (w : Int) (a b : Nat) : -1 ≤ stp h w a b ∧ stp h w a b ≤ 5 := by
  have w1 := W.1
  unfold stp
  rcases firstN_range (fun n => (rch h w a n).testBit b) (hR h) with q | q <;> omega
/-- what carrying a thing from a to b costs, -1: it does not get there -/
def cst (h : pM) (t : Nat) (a b : Nat) : Int := if stp h (h 4 t) a b < 0 then -1 else stp h (h 4 t) a b * h 5 t
theorem cst_range (W : WF h) {t : Nat} (ht : t < hT h) (a b : Nat) : -1 ≤ cst h t a b ∧ cst h t a b ≤ 45 := by
  have h1 := stp_range W (h 4 t) a b
  have h2 := (W.2.2.2.2.2.2.2.1 t ht).2.2.1
  unfold cst
  split
  · omega
  · have h3 : 0 ≤ stp h (h 4 t) a b * h 5 t := Int.mul_nonneg (by omega) (by omega)
    have h4 : stp h (h 4 t) a b * h 5 t ≤ 5 * 9 := Int.mul_le_mul h1.2 h2.2 (by omega) (by omega)
    omega
theorem c_cost (hd : 4 ≤ d) (W : WF h) (X : XH M h) {t a b : Nat} (ht : t < hT h) (ha : a < hR h) (hb : b < hR h) : xF d 82 [.inr 9, .inl (t : Int), .inl (a : Int), .inl (b : Int)] M = rI (cst h t a b) M := by
  obtain ⟨D, rfl, hD⟩ := dsucc hd
  have w2 := W.2.1
  have hw := W.2.2.2.2.2.2.2.1 t ht
  have hx := X.2.2.2.2.2.1 t ht
  have hs := stp_range W (h 4 t) a b
  rw [T_House_cost, c_isThing7 (by omega) W X (by omega) (by omega), pbI_rI, ite01pn, if_pos (by omega), if_pos (by omega), Int.toNat_natCast, hx.2.1, c_steps (by omega) W X ha hb (by omega) (by omega), pbI_rI]
  simp (disch := omega) only [le32_iff]
  unfold cst
  by_cases q : 0 ≤ stp h (h 4 t) a b
  · rw [if_pos q, if_pos (by omega), if_neg (by omega), hx.2.2.1]
  · rw [if_neg q, if_pos (by omega)]
end HX
