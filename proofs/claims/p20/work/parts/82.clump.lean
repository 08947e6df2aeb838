/-! the class's sets and clumps -/
theorem me_lt {h : pM} (W : WF h) {s : Nat} (hs : s < hS h) : me h s < 1024 := Nat.lt_of_lt_of_le (W.2.2.2.2.2.2.2.2 s hs) (pow_le_of W.2.1)
/-- sets of a thing; sets that have none of some things -/
def sOf (h : pM) (t : Nat) : Nat := bitsOf (fun s => (me h s).testBit t) (hS h)
def sNo (h : pM) (bits : Nat) : Nat := bitsOf (fun s => decide (me h s &&& bits = 0)) (hS h)
theorem pow10 {t : Nat} (ht : t < 10) : 2 ^ t < 1024 := show 2 ^ t < 2 ^ 10 from Nat.pow_lt_pow_right (by decide) ht
theorem sOf_lt {h : pM} (t : Nat) : sOf h t < 2 ^ hS h := bitsOf_lt _ _
theorem jand_lt {a b : Nat} (ha : a < 1024) : (a &&& b) < 1024 := Nat.lt_of_le_of_lt Nat.and_le_left ha
theorem eq32_0 {a : Nat} (ha : a < 2147483648) : eq32 (a : Int) 0 ↔ a = 0 := by
  rw [eq32_iff] <;> omega
section ST
variable {h M : pM} {d : Nat}
theorem c_setsOf (hd : 2 ≤ d) (W : WF h) (X : XH M h) {t : Nat} (ht : t < 32) : xF d 93 [.inr 9, .inl (t : Int)] M = rI (sOf h t) M := by
  obtain ⟨D, rfl, hD⟩ := dsucc hd
  have w3 := W.2.2.1
  rw [T_House_setsOf]
  have key := bits_loop (fun b k => xE D 93 4 [.inr 9, .inl (t : Int), .inl b, .inl k] [] M) (hS h) (fun s => (me h s).testBit t) (fun k b hk hb => by
    have hm := me_lt W hk
    rw [L_House_setsOf_4, X.2.2.1, if_neg (by rw [le32_iff] <;> omega), if_pos (by omega), Int.toNat_natCast, X.2.2.2.2.2.2 k hk, c_has hD (by omega) ht, pbI_rI, ite01]
    cases (me h k).testBit t with
    | false => rfl
    | true => simp only [if_true]; rw [jor_shl hb (by omega)])
  rw [key, L_House_setsOf_4, X.2.2.1, if_pos (by rw [le32_iff] <;> omega)]
  rfl
theorem c_setsNo (hd : 1 ≤ d) (W : WF h) (X : XH M h) {bits : Nat} (hb : bits < 2147483648) : xF d 94 [.inr 9, .inl (bits : Int)] M = rI (sNo h bits) M := by
  obtain ⟨D, rfl, hD⟩ := dsucc hd
  have w3 := W.2.2.1
  rw [T_House_setsWithNoneOf]
  have key := bits_loop (fun b k => xE D 94 4 [.inr 9, .inl (bits : Int), .inl b, .inl k] [] M) (hS h) (fun s => decide (me h s &&& bits = 0)) (fun k b hk hb2 => by
    have hm := me_lt W hk
    rw [L_House_setsWithNoneOf_4, X.2.2.1, if_neg (by rw [le32_iff] <;> omega), if_pos (by omega), Int.toNat_natCast, X.2.2.2.2.2.2 k hk, jand_nat (by omega) hb]
    by_cases q : me h k &&& bits = 0
    · rw [if_neg (by rw [eq32_0 (Nat.lt_trans (jand_lt hm) (by decide))]; exact fun z => z q), if_pos (by simpa using q), jor_shl hb2 (by omega)]
    · rw [if_pos (by rw [eq32_0 (Nat.lt_trans (jand_lt hm) (by decide))]; exact q), if_neg (by simpa using q)])
  rw [key, L_House_setsWithNoneOf_4, X.2.2.1, if_pos (by rw [le32_iff] <;> omega)]
  rfl
/-- what hangs on something: one look at the sets, some looks -/
def hngI (h : pM) (amo sets seen : Nat) : Nat → Nat
  | 0 => seen
  | k + 1 => if sets.testBit k = true ∧ me h k &&& hngI h amo sets seen k ≠ 0 then hngI h amo sets seen k ||| (me h k &&& amo) else hngI h amo sets seen k
def hng (h : pM) (amo sets seen : Nat) : Nat → Nat
  | 0 => seen
  | n + 1 => hngI h amo sets (hng h amo sets seen n) (hS h)
theorem hngI_lt (W : WF h) {amo sets seen : Nat} (hs : seen < 1024) : ∀ k, k ≤ hS h → hngI h amo sets seen k < 1024
  | 0, _ => hs
  | k + 1, hk => by
    have ih := hngI_lt W (amo := amo) (sets := sets) hs k (by omega)
    unfold hngI
    split
    · exact Nat.or_lt_two_pow (n := 10) ih (jand_lt (me_lt W (by omega)))
    · exact ih
theorem hng_lt (W : WF h) {amo sets seen : Nat} (hs : seen < 1024) : ∀ n, hng h amo sets seen n < 1024
  | 0 => hs
  | n + 1 => hngI_lt W (hng_lt W hs n) _ (Nat.le_refl _)
theorem c_hangingOn (hd : 2 ≤ d) (W : WF h) (X : XH M h) {t amo sets : Nat} (ht : t < 10) (ha : amo < 2147483648) (hsets : sets < 2147483648) : xF d 96 [.inr 9, .inl (t : Int), .inl (amo : Int), .inl (sets : Int)] M = rI (hng h amo sets (2 ^ t) (hS h)) M := by
  obtain ⟨D, rfl, hD⟩ := dsucc hd
  have w3 := W.2.2.1
  have ht2 := pow10 ht
  rw [T_House_hangingOn, jshl_one t (by omega)]
  have inner : ∀ (seen : Nat) (n : Nat), seen < 1024 → ∀ k : Nat, k ≤ hS h → xE D 96 12 [.inr 9, .inl (t : Int), .inl (amo : Int), .inl (sets : Int), .inl (seen : Int), .inl (n : Int), .inl 0] [] M = xE D 96 12 [.inr 9, .inl (t : Int), .inl (amo : Int), .inl (sets : Int), .inl (hngI h amo sets seen k : Nat), .inl (n : Int), .inl (k : Int)] [] M := by
    intro seen n hs k
    induction k with
    | zero => intro _; rfl
    | succ k ih =>
      intro hk
      have hm := me_lt W (s := k) (by omega)
      have hi := hngI_lt W (amo := amo) (sets := sets) hs k (by omega)
      rw [ih (by omega), L_House_hangingOn_12, X.2.2.1, if_neg (by rw [le32_iff] <;> omega), c_has hD hsets (by omega), pbI_rI, ite01, hngI]
      cases hb : sets.testBit k with
      | false => rw [if_neg (by simp), if_neg (by simp)]; rfl
      | true =>
        simp only [if_true]
        have hk8 : (0 : Int) ≤ (k : Int) ∧ (k : Int) < 8 := by omega
        rw [if_pos hk8, if_pos hk8, Int.toNat_natCast, X.2.2.2.2.2.2 k (by omega), jand_nat (by omega) (by omega), jand_nat (by omega) ha, jor_nat (by omega) (Nat.lt_trans (jand_lt hm) (by decide))]
        by_cases q : me h k &&& hngI h amo sets seen k = 0
        · rw [if_pos ((eq32_0 (Nat.lt_trans (jand_lt hm) (by decide))).mpr q), if_neg (by simp [q])]; rfl
        · rw [if_neg (fun z => q ((eq32_0 (Nat.lt_trans (jand_lt hm) (by decide))).mp z)), if_pos ⟨trivial, q⟩]; rfl
  have outer : ∀ n : Nat, n ≤ hS h → ∀ y : pV, ∃ y' : pV, xE D 96 6 [.inr 9, .inl (t : Int), .inl (amo : Int), .inl (sets : Int), .inl (2 ^ t : Nat), .inl 0, y] [] M = xE D 96 6 [.inr 9, .inl (t : Int), .inl (amo : Int), .inl (sets : Int), .inl (hng h amo sets (2 ^ t) n : Nat), .inl (n : Int), y'] [] M := by
    intro n
    induction n with
    | zero => intro _ y; exact ⟨y, rfl⟩
    | succ n ih =>
      intro hn y
      obtain ⟨y', e⟩ := ih (by omega) y
      refine ⟨.inl (hS h : Int), ?_⟩
      rw [e, L_House_hangingOn_6, X.2.2.1, if_neg (by rw [le32_iff] <;> omega), inner _ n (hng_lt W ht2 n) (hS h) (Nat.le_refl _), L_House_hangingOn_12, X.2.2.1, if_pos (by rw [le32_iff] <;> omega)]
      rfl
  obtain ⟨y', e⟩ := outer (hS h) (Nat.le_refl _) (.inr 0)
  rw [e, L_House_hangingOn_6, X.2.2.1, if_pos (by rw [le32_iff] <;> omega)]
/-- how many clumps some things make by some sets -/
def cbL (h : pM) (amo sets : Nat) : Nat → Nat × Nat
  | 0 => (0, amo)
  | k + 1 => if (cbL h amo sets k).2.testBit k then ((cbL h amo sets k).1 + 1, nan (cbL h amo sets k).2 (hng h amo sets (2 ^ k) (hS h))) else cbL h amo sets k
theorem cbL_le {amo sets : Nat} : ∀ k, (cbL h amo sets k).1 ≤ k ∧ (cbL h amo sets k).2 ≤ amo
  | 0 => ⟨Nat.le_refl 0, Nat.le_refl _⟩
  | k + 1 => by
    have ih := cbL_le (amo := amo) (sets := sets) k
    unfold cbL
    split
    · exact ⟨Nat.succ_le_succ ih.1, Nat.le_trans (nan_le _ _) ih.2⟩
    · exact ⟨Nat.le_succ_of_le ih.1, ih.2⟩
theorem c_clumpsBy (hd : 3 ≤ d) (W : WF h) (X : XH M h) {amo sets : Nat} (ha : amo < 2147483648) (hsets : sets < 2147483648) : xF d 97 [.inr 9, .inl (amo : Int), .inl (sets : Int)] M = rI ((cbL h amo sets (hT h)).1 : Nat) M := by
  obtain ⟨D, rfl, hD⟩ := dsucc hd
  have w2 := W.2.1
  rw [T_House_clumpsBy]
  have key : ∀ k : Nat, k ≤ hT h → xE D 97 6 [.inr 9, .inl (amo : Int), .inl (sets : Int), .inl 0, .inl (amo : Int), .inl 0] [] M = xE D 97 6 [.inr 9, .inl (amo : Int), .inl (sets : Int), .inl ((cbL h amo sets k).1 : Nat), .inl ((cbL h amo sets k).2 : Nat), .inl (k : Int)] [] M := by
    intro k
    induction k with
    | zero => intro _; rfl
    | succ k ih =>
      intro hk
      have hl := cbL_le (h := h) (amo := amo) (sets := sets) k
      have hh := hng_lt W (amo := amo) (sets := sets) (seen := 2 ^ k) (pow10 (by omega)) (hS h)
      rw [ih (by omega), L_House_clumpsBy_6, X.2.1, if_neg (by rw [le32_iff] <;> omega), c_has (by omega) (by omega) (by omega), pbI_rI, ite01, cbL]
      cases hb : (cbL h amo sets k).2.testBit k with
      | false => rw [if_neg (by simp), if_neg (by simp)]; rfl
      | true =>
        simp only [if_true]
        rw [c_hangingOn hD W X (by omega) ha hsets, pbI_rI, jxor_m1 (by omega), jand_not (by omega) (by omega)]
        rfl
  rw [key _ (Nat.le_refl _), L_House_clumpsBy_6, X.2.1, if_pos (by rw [le32_iff] <;> omega)]
end ST
/-! the class's clumps: hang -/
def aT (h : pM) : Nat := 2 ^ hT h - 1
def aS (h : pM) : Nat := 2 ^ hS h - 1
/-- the walk over the things: how many clumps so far, what is left; the clump that thing k begins -/
def cgA (h : pM) (k : Nat) : Nat × Nat := cbL h (aT h) (aS h) k
def cgM (h : pM) (k : Nat) : Nat := hng h (aT h) (aS h) (2 ^ k) (hS h)
def cmk (h : pM) : Nat → Nat → Nat
  | 0, _ => 0
  | k + 1, i => if (cgA h k).2.testBit k = true ∧ i = (cgA h k).1 then cgM h k else cmk h k i
def own (h : pM) : Nat → Nat → Nat
  | 0, _ => 0
  | k + 1, t => if (cgA h k).2.testBit k = true ∧ (cgM h k).testBit t = true then (cgA h k).1 else own h k t
def nC (h : pM) : Nat := (cgA h (hT h)).1
def CL (M h : pM) : Prop := M 7 12 = nC h ∧ (∀ i, i < nC h → M 15 i = cmk h (hT h) i) ∧ (∀ t, t < hT h → M 16 t = own h (hT h) t)
def agH : Nat → Nat → Bool := fun o i => o == 15 || o == 16 || (o == 7 && i == 12)
theorem aT_lt {h : pM} (W : WF h) : aT h < 1024 := by
  have := p_T W
  have := Nat.two_pow_pos (hT h)
  unfold aT; omega
theorem aS_lt {h : pM} (W : WF h) : aS h < 256 := by
  have := p_S W
  have := Nat.two_pow_pos (hS h)
  unfold aS; omega
section HG
variable {h M : pM} {d : Nat}
theorem cgM_lt (W : WF h) {k : Nat} (hk : k < 10) : cgM h k < 1024 := hng_lt W (pow10 hk) _
theorem cgA_le (k : Nat) : (cgA h k).1 ≤ k ∧ (cgA h k).2 ≤ aT h := cbL_le k
theorem cgA_succ (k : Nat) : cgA h (k + 1) = if (cgA h k).2.testBit k then ((cgA h k).1 + 1, nan (cgA h k).2 (cgM h k)) else cgA h k := rfl
theorem XH_agH {M' : pM} (a : ag agH M M') (X : XH M h) : XH M' h := XH_ag a (fun o i h1 h2 h3 => by
  unfold agH
  have e1 : (o == 15) = false := by simp; omega
  have e2 : (o == 16) = false := by simp; omega
  rw [e1, e2]
  by_cases q : o = 7
  · have h4 := h3 q
    have e3 : (i == 12) = false := by simp; omega
    rw [e3]; simp
  · have e3 : (o == 7) = false := by simpa using q
    rw [e3]; rfl) X
theorem hngI_has {amo sets seen i : Nat} (hb : seen.testBit i = true) : ∀ k, (hngI h amo sets seen k).testBit i = true
  | 0 => hb
  | k + 1 => by
    have ih := hngI_has (amo := amo) (sets := sets) hb k
    unfold hngI
    split
    · rw [Nat.testBit_or, ih]; rfl
    · exact ih
theorem hng_has {amo sets seen i : Nat} (hb : seen.testBit i = true) : ∀ n, (hng h amo sets seen n).testBit i = true
  | 0 => hb
  | n + 1 => hngI_has (hng_has hb n) _
theorem rest_k : ∀ k t, t < k → (cgA h k).2.testBit t = false
  | 0, t, ht => absurd ht (Nat.not_lt_zero t)
  | k + 1, t, ht => by
    rw [cgA_succ]
    cases hb : (cgA h k).2.testBit k with
    | false =>
      rw [if_neg (by decide)]
      rcases Nat.lt_or_ge t k with q | q
      · exact rest_k k t q
      · rw [show t = k by omega]; exact hb
    | true =>
      rw [if_pos rfl]
      show (nan (cgA h k).2 (cgM h k)).testBit t = false
      rw [nan_bit]
      rcases Nat.lt_or_ge t k with q | q
      · rw [rest_k k t q]; rfl
      · rw [show t = k by omega]
        have e : (cgM h k).testBit k = true := hng_has (by rw [Nat.testBit_two_pow_self]) _
        rw [e]; simp
/-- one clump more -/
def adM (M : pM) (mask : Nat) (v : Int) (n : Nat) : pM := fun o i => if o = 16 ∧ i < n ∧ mask.testBit i = true then v else M o i
theorem c_addClump (hd : 2 ≤ d) (W : WF h) (X : XH M h) {n mask : Nat} (hn : n < 10) (hM : M 7 12 = n) (hm : mask < 2147483648) : ∃ M', xF d 99 [.inr 9, .inl (mask : Int)] M = rV M' ∧ ag agH M M' ∧ M' 7 12 = ((n + 1 : Nat) : Int) ∧ (∀ i, M' 15 i = if i = n then (mask : Int) else M 15 i) ∧ (∀ t, t < hT h → M' 16 t = if mask.testBit t then (n : Int) else M 16 t) := by
  obtain ⟨D, rfl, hD⟩ := dsucc hd
  have w2 := W.2.1
  rw [T_House_addClump, hM, if_neg (by rw [lt32_iff] <;> omega), if_neg (by rw [le32_iff] <;> omega), if_pos (by omega), Int.toNat_natCast]
  have key : ∀ k : Nat, k ≤ hT h → xE D 99 15 [.inr 9, .inl (mask : Int), .inl 0] [] (pset M 15 n mask) = xE D 99 15 [.inr 9, .inl (mask : Int), .inl (k : Int)] [] (adM (pset M 15 n mask) mask n k) := by
    intro k
    induction k with
    | zero =>
      intro _
      have e : adM (pset M 15 n mask) mask n 0 = pset M 15 n mask := by
        funext o i
        unfold adM
        rw [if_neg (fun z => absurd z.2.1 (by omega))]
      rw [e]; rfl
    | succ k ih =>
      intro hk
      have e7 : ∀ i, adM (pset M 15 n mask) mask n k 7 i = M 7 i := fun i => by
        unfold adM
        rw [if_neg (fun z => absurd z.1 (by decide)), pset_ne (by decide)]
      rw [ih (by omega), L_House_addClump_15, e7, X.2.1, if_neg (by rw [le32_iff] <;> omega), c_has hD hm (by omega), pbI_rI, ite01]
      cases hb : mask.testBit k with
      | false =>
        have e : adM (pset M 15 n mask) mask n (k + 1) = adM (pset M 15 n mask) mask n k := by
          funext o i
          unfold adM
          by_cases q : o = 16 ∧ i < k ∧ mask.testBit i = true
          · rw [if_pos q, if_pos ⟨q.1, by omega, q.2.2⟩]
          · rw [if_neg q, if_neg (fun z => q ⟨z.1, by
              rcases Nat.lt_or_ge i k with y | y
              · exact y
              · rw [show i = k by omega, hb] at z; exact absurd z.2.2 (by decide), z.2.2⟩)]
        rw [e]; rfl
      | true =>
        have e : pset (adM (pset M 15 n mask) mask n k) 16 k n = adM (pset M 15 n mask) mask n (k + 1) := by
          funext o i
          by_cases q1 : o = 16
          · subst q1
            by_cases q2 : i = k
            · subst q2
              rw [pset_eq]; unfold adM
              rw [if_pos ⟨rfl, by omega, hb⟩]
            · rw [pset_ne2 q2]; unfold adM
              by_cases q : (16 : Nat) = 16 ∧ i < k ∧ mask.testBit i = true
              · rw [if_pos q, if_pos ⟨rfl, by omega, q.2.2⟩]
              · rw [if_neg q, if_neg (fun z => q ⟨rfl, by omega, z.2.2⟩)]
          · rw [pset_ne q1]; unfold adM
            rw [if_neg (fun z => q1 z.1), if_neg (fun z => q1 z.1)]
        simp only [if_true]
        rw [if_pos (by omega), Int.toNat_natCast, e7, hM, e]
        rfl
  have e7 : ∀ i, adM (pset M 15 n mask) mask n (hT h) 7 i = M 7 i := fun i => by
    unfold adM
    rw [if_neg (fun z => absurd z.1 (by decide)), pset_ne (by decide)]
  refine ⟨pset (adM (pset M 15 n mask) mask n (hT h)) 7 12 ((n : Int) + 1), ?_, ?_, ?_, ?_, ?_⟩
  · rw [key _ (Nat.le_refl _), L_House_addClump_15, e7, e7, X.2.1, if_pos (by rw [le32_iff] <;> omega), hM]
  · intro o i hc
    unfold agH at hc
    have h1 : o ≠ 15 := fun z => by rw [z] at hc; simp at hc
    have h2 : o ≠ 16 := fun z => by rw [z] at hc; simp at hc
    by_cases q : o = 7
    · subst q
      have h3 : i ≠ 12 := fun z => by rw [z] at hc; exact absurd hc (by decide)
      rw [pset_ne2 h3, e7]
    · rw [pset_ne q]; unfold adM
      rw [if_neg (fun z => h2 z.1), pset_ne h1]
  · rw [pset_eq]; omega
  · intro i
    rw [pset_ne (by decide)]; unfold adM
    rw [if_neg (fun z => absurd z.1 (by decide))]
    by_cases q : i = n
    · rw [if_pos q, q, pset_eq]
    · rw [if_neg q, pset_ne2 q]
  · intro t ht
    rw [pset_ne (by decide)]; unfold adM
    by_cases q : mask.testBit t = true
    · rw [if_pos ⟨rfl, ht, q⟩, if_pos q]
    · rw [if_neg (fun z => q z.2.2), if_neg q, pset_ne (by decide)]
theorem c_hang (hd : 3 ≤ d) (W : WF h) (X : XH M h) : ∃ M', xF d 98 [.inr 9] M = rV M' ∧ ag agH M M' ∧ CL M' h := by
  obtain ⟨D, rfl, hD⟩ := dsucc hd
  have w2 := W.2.1
  have hA := aT_lt W
  have hS9 := aS_lt W
  have ag0 : ag agH M (pset M 7 12 0) := ag_pset ag_rfl rfl
  rw [T_House_hang, c_allThings (by omega) W (XH_agH ag0 X), pbI_rI]
  have key : ∀ k : Nat, k ≤ hT h → ∃ (M' : pM) (y : pV), xE D 98 8 [.inr 9, .inl (aT h : Int), .inl 0, .inr 0] [] (pset M 7 12 0) = xE D 98 8 [.inr 9, .inl ((cgA h k).2 : Int), .inl (k : Int), y] [] M' ∧ ag agH M M' ∧ M' 7 12 = ((cgA h k).1 : Int) ∧ (∀ i, i < (cgA h k).1 → M' 15 i = cmk h k i) ∧ (∀ t, t < hT h → (cgA h k).2.testBit t = false → M' 16 t = own h k t) := by
    intro k
    induction k with
    | zero =>
      intro _
      refine ⟨_, .inr 0, rfl, ag0, by rw [pset_eq]; rfl, fun i hi => absurd hi (Nat.not_lt_zero i), fun t ht hb => ?_⟩
      have e : (cgA h 0).2.testBit t = true := by
        show (2 ^ hT h - 1).testBit t = true
        rw [Nat.testBit_two_pow_sub_one]
        simpa using ht
      rw [e] at hb
      cases hb
    | succ k ih =>
      intro hk
      obtain ⟨M1, y, e1, a1, c1, c2, c3⟩ := ih (by omega)
      have X1 := XH_agH a1 X
      have hl := cgA_le (h := h) k
      have hg := cgM_lt W (k := k) (by omega)
      rw [e1, L_House_hang_8, X1.2.1, if_neg (by rw [le32_iff] <;> omega), c_has (by omega) (by omega) (by omega), pbI_rI, ite01]
      cases hb : (cgA h k).2.testBit k with
      | false =>
        refine ⟨M1, y, ?_, a1, ?_, ?_, ?_⟩
        · rw [if_neg (by decide), cgA_succ, hb, if_neg (by decide)]; rfl
        · rw [cgA_succ, hb, if_neg (by decide)]; exact c1
        · rw [cgA_succ, hb, if_neg (by decide)]
          intro i hi
          rw [cmk, hb, if_neg (fun z => absurd z.1 (by decide))]
          exact c2 i hi
        · rw [cgA_succ, hb, if_neg (by decide)]
          intro t ht ht2
          rw [own, hb, if_neg (fun z => absurd z.1 (by decide))]
          exact c3 t ht ht2
      | true =>
        obtain ⟨M2, e2, a2, d1, d2, d3⟩ := c_addClump (d := D) (M := M1) hD W X1 (n := (cgA h k).1) (mask := cgM h k) (by omega) c1 (by omega)
        refine ⟨M2, .inl (cgM h k : Int), ?_, ag_trans a1 a2, ?_, ?_, ?_⟩
        · rw [if_pos rfl, c_allThings (by omega) W X1, pbI_rI, c_allSets (by omega) W X1, pbI_rI]
          have e3 := c_hangingOn (d := D) hD W X1 (t := k) (amo := aT h) (sets := aS h) (by omega) (by omega) (by omega)
          unfold aT aS at e3
          rw [e3, pbI_rI]
          have e4 : hng h (2 ^ hT h - 1) (2 ^ hS h - 1) (2 ^ k) (hS h) = cgM h k := rfl
          rw [e4, e2, pbN_rV, jxor_m1 (by omega), jand_not (by omega) (by omega), cgA_succ, hb, if_pos rfl]
          rfl
        · rw [cgA_succ, hb, if_pos rfl]; exact d1
        · rw [cgA_succ, hb, if_pos rfl]
          intro i hi
          rw [d2, cmk, hb]
          by_cases q : i = (cgA h k).1
          · rw [if_pos q, if_pos ⟨rfl, q⟩]
          · rw [if_neg q, if_neg (fun z => q z.2)]
            exact c2 i (by simp only at hi; omega)
        · rw [cgA_succ, hb, if_pos rfl]
          intro t ht ht2
          rw [d3 t ht, own, hb]
          by_cases q : (cgM h k).testBit t = true
          · rw [if_pos q, if_pos ⟨rfl, q⟩]
          · rw [if_neg q, if_neg (fun z => q z.2)]
            refine c3 t ht ?_
            rw [nan_bit] at ht2
            cases e : (cgA h k).2.testBit t with
            | false => rfl
            | true =>
              have q' : (cgM h k).testBit t = false := by simpa using q
              rw [e, q'] at ht2
              cases ht2
  obtain ⟨M1, y, e1, a1, c1, c2, c3⟩ := key _ (Nat.le_refl _)
  refine ⟨M1, ?_, a1, c1, c2, fun t ht => c3 t ht ?_⟩
  · have e2 : xE D 98 8 [.inr 9, .inl ((2 ^ hT h - 1 : Nat) : Int), .inl 0, .inr 0] [] (pset M 7 12 0) = _ := e1
    rw [e2, L_House_hang_8, (XH_agH a1 X).2.1, if_pos (by rw [le32_iff] <;> omega)]
  · exact rest_k _ t ht
end HG
/-! what is asked of the clumps that stand -/
theorem cmk_lt {h : pM} (W : WF h) (i : Nat) : ∀ k, k ≤ 10 → cmk h k i < 1024
  | 0, _ => by show 0 < 1024; decide
  | k + 1, hk => by
    unfold cmk
    split
    · exact cgM_lt W (by omega)
    · exact cmk_lt W i k (by omega)
theorem own_lt {h : pM} (t : Nat) : ∀ k, own h k t ≤ k
  | 0 => Nat.le_refl 0
  | k + 1 => by
    unfold own
    split
    · exact Nat.le_succ_of_le (cgA_le k).1
    · exact Nat.le_succ_of_le (own_lt t k)
/-- the clump i, and the clump of a thing -/
def cOf (h : pM) (i : Nat) : Nat := cmk h (hT h) i
def oOf (h : pM) (t : Nat) : Nat := own h (hT h) t
theorem cOf_lt {h : pM} (W : WF h) (i : Nat) : cOf h i < 1024 := cmk_lt W i _ W.2.1
theorem nC_le {h : pM} (W : WF h) : nC h ≤ 10 := Nat.le_trans (cgA_le _).1 W.2.1
section OC
variable {h M : pM} {d : Nat}
/-- the things of some clumps -/
def orTo (c : Nat → Bool) (f : Nat → Nat) : Nat → Nat
  | 0 => 0
  | n + 1 => if c n then orTo c f n ||| f n else orTo c f n
theorem orTo_lt {c : Nat → Bool} {f : Nat → Nat} (hf : ∀ i, f i < 1024) : ∀ n, orTo c f n < 1024
  | 0 => by show 0 < 1024; decide
  | n + 1 => by
    unfold orTo
    split
    · exact Nat.or_lt_two_pow (n := 10) (orTo_lt hf n) (hf n)
    · exact orTo_lt hf n
def tOf (h : pM) (bits : Nat) : Nat := orTo bits.testBit (cOf h) (nC h)
theorem tOf_lt (W : WF h) (bits : Nat) : tOf h bits < 1024 := orTo_lt (cOf_lt W) _
theorem c_thingsOf (hd : 2 ≤ d) (W : WF h) (C : CL M h) {bits : Nat} (hb : bits < 2147483648) : xF d 104 [.inr 9, .inl (bits : Int)] M = rI (tOf h bits : Nat) M := by
  obtain ⟨D, rfl, hD⟩ := dsucc hd
  have hn := nC_le W
  rw [T_House_thingsOf]
  have key : ∀ k : Nat, k ≤ nC h → xE D 104 4 [.inr 9, .inl (bits : Int), .inl 0, .inl 0] [] M = xE D 104 4 [.inr 9, .inl (bits : Int), .inl (orTo bits.testBit (cOf h) k : Nat), .inl (k : Int)] [] M := by
    intro k
    induction k with
    | zero => intro _; rfl
    | succ k ih =>
      intro hk
      have ho := orTo_lt (c := bits.testBit) (cOf_lt W) k
      have hc := cOf_lt W k
      rw [ih (by omega), L_House_thingsOf_4, C.1, if_neg (by rw [le32_iff] <;> omega), c_has hD hb (by omega), pbI_rI, ite01, orTo]
      cases hq : bits.testBit k with
      | false => rfl
      | true =>
        simp only [if_true]
        rw [if_pos (by omega), Int.toNat_natCast, C.2.1 k (by omega)]
        have e : jor ((orTo bits.testBit (cOf h) k : Nat) : Int) ((cOf h k : Nat) : Int) = ((orTo bits.testBit (cOf h) k ||| cOf h k : Nat) : Int) := jor_nat (by omega) (by omega)
        unfold cOf at e ⊢
        rw [e]
        rfl
  rw [key _ (Nat.le_refl _), L_House_thingsOf_4, C.1, if_pos (by rw [le32_iff] <;> omega)]
  rfl
/-- the clumps that have a thing in one of some sets -/
def cIn (h : pM) (sets : Nat) : Nat := orTo (fun t => decide (sOf h t &&& sets ≠ 0)) (fun t => if t < hT h then 2 ^ oOf h t else 0) (hT h)
theorem c_clumpsIn (hd : 3 ≤ d) (W : WF h) (X : XH M h) (C : CL M h) {sets : Nat} (hb : sets < 2147483648) : xF d 105 [.inr 9, .inl (sets : Int)] M = rI (cIn h sets : Nat) M := by
  obtain ⟨D, rfl, hD⟩ := dsucc hd
  have w2 := W.2.1
  rw [T_House_clumpsIn]
  have hf : ∀ t, (if t < hT h then 2 ^ oOf h t else 0) < 2048 := fun t => by
    split
    · exact Nat.lt_of_le_of_lt (pow_le_of (Nat.le_trans (own_lt t (hT h)) w2)) (by decide)
    · decide
  have hlt : ∀ k, orTo (fun t => decide (sOf h t &&& sets ≠ 0)) (fun t => if t < hT h then 2 ^ oOf h t else 0) k < 2048 := by
    intro k
    induction k with
    | zero => show 0 < 2048; decide
    | succ k ih =>
      unfold orTo
      split
      · exact Nat.or_lt_two_pow (n := 11) ih (hf k)
      · exact ih
  have key : ∀ k : Nat, k ≤ hT h → xE D 105 4 [.inr 9, .inl (sets : Int), .inl 0, .inl 0] [] M = xE D 105 4 [.inr 9, .inl (sets : Int), .inl (orTo (fun t => decide (sOf h t &&& sets ≠ 0)) (fun t => if t < hT h then 2 ^ oOf h t else 0) k : Nat), .inl (k : Int)] [] M := by
    intro k
    induction k with
    | zero => intro _; rfl
    | succ k ih =>
      intro hk
      have hs : sOf h k < 256 := Nat.lt_of_lt_of_le (sOf_lt k) (p_S W)
      have ha : sOf h k &&& sets < 256 := Nat.lt_of_le_of_lt Nat.and_le_left hs
      have ho : own h (hT h) k ≤ 10 := Nat.le_trans (own_lt k (hT h)) w2
      rw [ih (by omega), L_House_clumpsIn_4, X.2.1, if_neg (by rw [le32_iff] <;> omega), c_setsOf hD W X (by omega), pbI_rI, jand_nat (by omega) hb, orTo]
      by_cases q : sOf h k &&& sets = 0
      · rw [if_pos ((eq32_0 (by omega)).mpr q), if_neg (by simp [q])]
        rfl
      · rw [if_neg (fun z => q ((eq32_0 (by omega)).mp z)), if_pos (by omega), Int.toNat_natCast, C.2.2 k (by omega), jshl_one _ (by omega), if_pos (by simpa using q), if_pos (show k < hT h by omega)]
        have h1 := hlt k
        have h2 : 2 ^ own h (hT h) k < 2048 := Nat.lt_of_le_of_lt (pow_le_of ho) (by decide)
        rw [jor_nat (by omega) (by omega)]
        rfl
  rw [key _ (Nat.le_refl _), L_House_clumpsIn_4, X.2.1, if_pos (by rw [le32_iff] <;> omega)]
  rfl
theorem c_leastOf (hd : 2 ≤ d) (W : WF h) (C : CL M h) {i : Nat} (hi : i < nC h) : xF d 100 [.inr 9, .inl (i : Int)] M = rI (ntz (cOf h i)) M := by
  obtain ⟨D, rfl, hD⟩ := dsucc hd
  have hn := nC_le W
  have e : M 15 i = ((cOf h i : Nat) : Int) := C.2.1 i hi
  rw [T_House_leastOf, c_numberAt_15n hD (by omega), pbI_rI, e, j_ntz hD (cOf_lt W i), pbI_rI]
theorem c_clumpBulk (hd : 3 ≤ d) (W : WF h) (X : XH M h) (C : CL M h) {i : Nat} (hi : i < nC h) : xF d 101 [.inr 9, .inl (i : Int)] M = rI (blk h (cOf h i)) M := by
  obtain ⟨D, rfl, hD⟩ := dsucc hd
  have hn := nC_le W
  have hc := cOf_lt W i
  have e : M 15 i = ((cOf h i : Nat) : Int) := C.2.1 i hi
  rw [T_House_clumpBulk, c_numberAt_15n (by omega) (by omega), pbI_rI, e, c_bulkOf hD W X (by omega), pbI_rI]
/-- too many arrangements of the clumps: rooms to the power of clumps, up to 20000 -/
def pwr (r : Nat) : Nat → Nat → Nat
  | 0, a => a
  | n + 1, a => if 20000 < a then a else pwr r n (a * r)
theorem c_tooMany (hd : 1 ≤ d) (W : WF h) (X : XH M h) (C : CL M h) : xF d 92 [.inr 9] M = rI (if 20000 < pwr (hR h) (nC h) 1 then 1 else 0) M := by
  obtain ⟨D, rfl, hD⟩ := dsucc hd
  have w1 := W.1
  have hn := nC_le W
  rw [T_House_tooMany]
  have fin : ∀ a : Nat, a ≤ 120000 → (if le32 (a : Int) 20000 then some (some (Sum.inl 0), M) else (some (some (Sum.inl 1), M) : Option pR)) = rI (if 20000 < a then 1 else 0) M := fun a ha => by
    by_cases q : 20000 < a
    · rw [if_neg (by rw [le32_iff] <;> omega), if_pos q]
    · rw [if_pos (by rw [le32_iff] <;> omega), if_neg q]
  have key : ∀ m k a : Nat, k + m = nC h → a ≤ 120000 → xE D 92 4 [.inr 9, .inl (a : Int), .inl (k : Int)] [] M = rI (if 20000 < pwr (hR h) m a then 1 else 0) M := by
    intro m
    induction m with
    | zero =>
      intro k a hk ha
      rw [L_House_tooMany_4, C.1, if_pos (by rw [le32_iff] <;> omega)]
      exact fin a ha
    | succ m ih =>
      intro k a hk ha
      rw [L_House_tooMany_4, C.1, if_neg (by rw [le32_iff] <;> omega), pwr]
      by_cases q : 20000 < a
      · rw [if_pos (by rw [lt32_iff] <;> omega), if_pos q]
        exact fin a ha
      · rw [if_neg (by rw [lt32_iff] <;> omega), if_neg q, X.1]
        have h2 : a * hR h ≤ 20000 * 6 := Nat.mul_le_mul (by omega) w1
        have := ih (k + 1) (a * hR h) (by omega) (by omega)
        rw [Int.natCast_mul] at this
        exact this
  exact key _ 0 1 (by omega) (by decide)
end OC
/-! what hangs together: both sides find the same -/
section SMC
variable {sv : Nat → Nat} {ns g S b : Nat} {h M : pM}
theorem or_sub {a b : Nat} : a ||| b = b ↔ ∀ i, a.testBit i = true → b.testBit i = true := by
  constructor
  · intro e i hi
    have : (a ||| b).testBit i = b.testBit i := by rw [e]
    rw [Nat.testBit_or, hi] at this
    exact this.symm
  · intro q
    refine Nat.eq_of_testBit_eq fun i => ?_
    rw [Nat.testBit_or]
    cases e : a.testBit i with
    | false => rfl
    | true => rw [q i e]; rfl
theorem fcP_ne : ∀ n, fcP sv ns g b n ≠ b → ∃ k, k < n ∧ ¬ nan (sv k) g ||| b = b ∧ nan (sv k) g ||| fcP sv ns g b n = fcP sv ns g b n
  | 0, q => absurd rfl q
  | n + 1, q => by
    by_cases e : fcP sv ns g b n = b
    · refine ⟨n, Nat.lt_succ_self n, ?_, ?_⟩
      · intro z
        apply q
        unfold fcP
        rw [e]
        split
        · rfl
        · rw [Nat.or_comm]; exact z
      · have q' := q
        unfold fcP at q'
        rw [e] at q'
        have u : fcP sv ns g b (n + 1) = b ||| nan (sv n) g := by
          unfold fcP
          rw [e]
          split
          · rename_i z
            rw [if_pos z] at q'
            exact absurd rfl q'
          · rfl
        rw [u]
        exact or_sub.mpr fun i hi => by rw [Nat.testBit_or, hi, Bool.or_true]
    · obtain ⟨k, k1, k2, k3⟩ := fcP_ne n e
      refine ⟨k, Nat.lt_succ_of_lt k1, k2, or_sub.mpr fun i hi => ?_⟩
      have := or_sub.mp k3 i hi
      unfold fcP
      split
      · exact this
      · rw [Nat.testBit_or, this]; rfl
def abN (sv : Nat → Nat) (g S b : Nat) : Nat := cntTo (fun k => decide (nan (sv k) g ||| b = b)) S
theorem abN_lt (q : fcP sv ns g b S ≠ b) : abN sv g S b + 1 ≤ abN sv g S (fcP sv ns g b S) := by
  obtain ⟨k, k1, k2, k3⟩ := fcP_ne S q
  refine (cntTo_lt (f := fun k => decide (nan (sv k) g ||| b = b)) (g := fun k => decide (nan (sv k) g ||| fcP sv ns g b S = fcP sv ns g b S)) (fun i hi => ?_) (c := k) (decide_eq_false k2) (decide_eq_true k3) S).2 k1
  have := or_sub.mp (of_decide_eq_true hi)
  exact decide_eq_true (or_sub.mpr fun j hj => fcP_bit (this j hj) S)
theorem fcI_fixS : ∀ (n b : Nat), S ≤ n + abN sv g S b → fcP sv ns g (fcI sv ns g S n b) S = fcI sv ns g S n b
  | 0, b, q => by
    show fcP sv ns g b S = b
    apply Classical.byContradiction
    intro z
    have h1 := abN_lt z
    have h2 : abN sv g S (fcP sv ns g b S) ≤ S := cntTo_le _
    omega
  | n + 1, b, q => by
    by_cases e : fcP sv ns g b S = b
    · rw [fcI_fix e]; exact e
    · have h1 := abN_lt e
      exact fcI_fixS n _ (by omega)
theorem fcX_S (hS : S ≤ 1024) : fcX sv ns g S b = fcI sv ns g S S b := by
  have e : fcX sv ns g S b = fcI sv ns g S (S + (1024 - S)) b := by
    unfold fcX
    rw [show S + (1024 - S) = 1024 by omega]
  rw [e, fcI_add, fcI_fix (fcI_fixS S b (by omega))]
theorem hngI_P {amo sets : Nat} (E : ∀ k, k < hS h → sets.testBit k = !ns.testBit k) (A : ∀ k, k < hS h → me h k &&& amo = nan (me h k) g) : ∀ k, k ≤ hS h → hngI h amo sets b k = fcP (me h) ns g b k
  | 0, _ => rfl
  | k + 1, hk => by
    have ih := hngI_P E A k (by omega)
    unfold hngI fcP
    rw [ih, A k (by omega), E k (by omega)]
    cases ns.testBit k with
    | true => rw [if_neg (fun z => by cases z.1), if_pos (Or.inl rfl)]
    | false =>
      by_cases q : me h k &&& fcP (me h) ns g b k = 0
      · rw [if_neg (fun z => z.2 q), if_pos (Or.inr q)]
      · rw [if_pos ⟨rfl, q⟩, if_neg (fun z => z.elim (fun y => by cases y) q)]
theorem hng_I {amo sets : Nat} (E : ∀ k, k < hS h → sets.testBit k = !ns.testBit k) (A : ∀ k, k < hS h → me h k &&& amo = nan (me h k) g) : ∀ n, hng h amo sets b n = fcI (me h) ns g (hS h) n b
  | 0 => rfl
  | n + 1 => by
    show hngI h amo sets (hng h amo sets b n) (hS h) = _
    rw [hngI_P E A _ (Nat.le_refl _), hng_I E A n, fcI_add n 1]
    rfl
theorem hng_X (W : WF h) {amo sets : Nat} (E : ∀ k, k < hS h → sets.testBit k = !ns.testBit k) (A : ∀ k, k < hS h → me h k &&& amo = nan (me h k) g) : hng h amo sets b (hS h) = fcX (me h) ns g (hS h) b := by
  have := W.2.2.1
  rw [hng_I E A, fcX_S (by omega)]
theorem cb_A (W : WF h) {amo sets : Nat} (E : ∀ k, k < hS h → sets.testBit k = !ns.testBit k) (A : ∀ k, k < hS h → me h k &&& amo = nan (me h k) g) (B : ∀ t, t < hT h → amo.testBit t = !g.testBit t) : ∀ k, k ≤ hT h → (cbL h amo sets k).1 = (fcA (me h) ns g (hS h) k).1 ∧ ∀ t, t < hT h → (cbL h amo sets k).2.testBit t = !(fcA (me h) ns g (hS h) k).2.testBit t
  | 0, _ => ⟨rfl, B⟩
  | k + 1, hk => by
    obtain ⟨i1, i2⟩ := cb_A W E A B k (by omega)
    have e := i2 k (by omega)
    rw [fcA_s]
    unfold cbL
    cases q : (fcA (me h) ns g (hS h) k).2.testBit k with
    | true =>
      rw [q] at e
      rw [e, if_pos rfl, if_neg (by decide)]
      exact ⟨i1, i2⟩
    | false =>
      rw [q] at e
      rw [e, Bool.not_false, if_pos rfl, if_neg (by decide)]
      refine ⟨by rw [i1], fun t ht => ?_⟩
      show (nan (cbL h amo sets k).2 (hng h amo sets (2 ^ k) (hS h))).testBit t = !((fcA (me h) ns g (hS h) k).2 ||| fcX (me h) ns g (hS h) (2 ^ k)).testBit t
      rw [nan_bit, i2 t ht, hng_X W E A, Nat.testBit_or, Bool.not_or]
theorem hE (h : pM) : ∀ k, k < hS h → (aS h).testBit k = !(0 : Nat).testBit k := fun k hk => by
  unfold aS
  rw [Nat.testBit_two_pow_sub_one, decide_eq_true hk, Nat.zero_testBit]; rfl
theorem hA (W : WF h) : ∀ k, k < hS h → me h k &&& aT h = nan (me h k) 0 := fun k hk => by
  refine Nat.eq_of_testBit_eq fun i => ?_
  unfold aT
  rw [Nat.testBit_and, nan_bit, Nat.testBit_two_pow_sub_one, Nat.zero_testBit]
  cases e : (me h k).testBit i with
  | false => rfl
  | true => rw [decide_eq_true (bit_lt (W.2.2.2.2.2.2.2.2 k hk) e)]; rfl
theorem hB (h : pM) : ∀ t, t < hT h → (aT h).testBit t = !(0 : Nat).testBit t := fun t ht => by
  unfold aT
  rw [Nat.testBit_two_pow_sub_one, decide_eq_true ht, Nat.zero_testBit]; rfl
theorem cg_A (W : WF h) {k : Nat} (hk : k ≤ hT h) : (cgA h k).1 = (fcA (me h) 0 0 (hS h) k).1 ∧ ∀ t, t < hT h → (cgA h k).2.testBit t = !(fcA (me h) 0 0 (hS h) k).2.testBit t := cb_A W (hE h) (hA W) (hB h) k hk
theorem cg_M (W : WF h) (k : Nat) : cgM h k = fcX (me h) 0 0 (hS h) (2 ^ k) := hng_X W (hE h) (hA W)
theorem cmk_M (W : WF h) {f : Nat → Int} {i : Nat} : ∀ k, k ≤ hT h → i < (cgA h k).1 → fcM (me h) 0 0 (hS h) f k i = (cmk h k i : Int)
  | 0, _, hi => absurd hi (Nat.not_lt_zero i)
  | k + 1, hk, hi => by
    obtain ⟨a1, a2⟩ := cg_A W (k := k) (by omega)
    have e := a2 k (by omega)
    rw [fcM_s]
    unfold cmk
    rw [cgA_succ] at hi
    cases q : (fcA (me h) 0 0 (hS h) k).2.testBit k with
    | true =>
      rw [q] at e
      rw [e, if_neg (by decide)] at hi
      rw [e, if_neg (fun z => by cases z.1), if_neg (fun z => by cases z.1)]
      exact cmk_M W k (by omega) hi
    | false =>
      rw [q] at e
      rw [e, if_pos (by decide)] at hi
      rw [e, ← a1]
      by_cases z : i = (cgA h k).1
      · rw [if_pos ⟨rfl, z⟩, if_pos ⟨rfl, z⟩, cg_M W]
      · rw [if_neg (fun y => z y.2), if_neg (fun y => z y.2)]
        exact cmk_M W k (by omega) (by have : i < (cgA h k).1 + 1 := hi; omega)
theorem own_O (W : WF h) {f : Nat → Int} {o : Nat} (ho : o < hT h) : ∀ k, k ≤ hT h → (cgA h k).2.testBit o = false → fcO (me h) 0 0 (hS h) f k o = (own h k o : Int)
  | 0, _, hi => by
    have : (cgA h 0).2 = aT h := rfl
    rw [this, hB h o ho, Nat.zero_testBit] at hi; cases hi
  | k + 1, hk, hi => by
    obtain ⟨a1, a2⟩ := cg_A W (k := k) (by omega)
    have e := a2 k (by omega)
    rw [fcO_s]
    unfold own
    rw [cgA_succ] at hi
    cases q : (fcA (me h) 0 0 (hS h) k).2.testBit k with
    | true =>
      rw [q] at e
      rw [e, if_neg (by decide)] at hi
      rw [e, if_neg (fun z => by cases z.1), if_neg (fun z => by cases z.1)]
      exact own_O W ho k (by omega) hi
    | false =>
      rw [q] at e
      rw [e, if_pos (by decide)] at hi
      have hi2 : (nan (cgA h k).2 (cgM h k)).testBit o = false := hi
      rw [nan_bit] at hi2
      rw [e, ← a1, ← cg_M W]
      cases z : (cgM h k).testBit o with
      | true => rw [if_pos ⟨rfl, rfl⟩, if_pos ⟨rfl, rfl⟩]
      | false =>
        rw [if_neg (fun y => by cases y.2), if_neg (fun y => by cases y.2)]
        rw [z, Bool.not_false, Bool.and_true] at hi2
        exact own_O W ho k (by omega) hi2
theorem m_fcF {d : Nat} (hd : 2 ≤ d) (hM : gM gAll M) (W : WF h) (X : MH M h) : ∃ M', xF d 200 [.inr 62, .inl 0, .inl 0] M = rV M' ∧ gM gAll M' ∧ Fr FCw M M' ∧ M' 60 30 = (nC h : Int) ∧ (∀ i, i < nC h → M' 73 i = (cOf h i : Int)) ∧ ∀ o, o < hT h → M' 72 o = (oOf h o : Int) := by
  obtain ⟨M', e, g', f, c1, c2, c3⟩ := m_findClumps (ns := 0) (g := 0) hd hM (MH_fc W X) (by decide) (by decide)
  have u := (cg_A W (k := hT h) (Nat.le_refl _)).1
  refine ⟨M', e, g', f, by rw [c1, ← u]; rfl, fun i hi => ?_, fun o ho => ?_⟩
  · rw [c3 i, cmk_M W (hT h) (Nat.le_refl _) hi]; rfl
  · rw [c2 o ho, own_O W ho (hT h) (Nat.le_refl _) (rest_k (hT h) o ho)]; rfl
theorem m_fcN {d ns g : Nat} (hd : 2 ≤ d) (hM : gM gAll M) (W : WF h) (X : MH M h) (hns : ns < 2147483648) (hg : g < 1024) {amo sets : Nat} (E : ∀ k, k < hS h → sets.testBit k = !ns.testBit k) (A : ∀ k, k < hS h → me h k &&& amo = nan (me h k) g) (B : ∀ t, t < hT h → amo.testBit t = !g.testBit t) : ∃ M', xF d 200 [.inr 62, .inl (ns : Int), .inl (g : Int)] M = rV M' ∧ gM gAll M' ∧ Fr FCw M M' ∧ M' 60 30 = ((cbL h amo sets (hT h)).1 : Int) := by
  obtain ⟨M', e, g', f, c1, c2, c3⟩ := m_findClumps hd hM (MH_fc W X) hns hg
  refine ⟨M', e, g', f, by rw [c1, (cb_A W E A B (hT h) (Nat.le_refl _)).1]⟩
end SMC
/-! the class's clumps are those of its sets, whatever is called -/
section CKS
variable {D d L : Nat} {M M' M1 M2 G h h' : pM} {w w1 w2 : List (Nat × Nat)} {v y : Int} {tx : Nat → Int}
def CK (M : pM) : Prop := ∃ h, (M 7 10 = hT h ∧ M 7 11 = hS h ∧ ∀ s, s < hS h → M 14 s = me h s) ∧ CL M h
def cc (o i : Nat) : Bool := (Nat.beq o 7 && (Nat.beq i 10 || Nat.beq i 11 || Nat.beq i 12)) || (Nat.ble 14 o && Nat.ble o 16)
def cco (o : Nat) : Bool := Nat.beq o 7 || (Nat.ble 14 o && Nat.ble o 16)
theorem cc_o (o i : Nat) (h : cc o i = true) : cco o = true := by
  unfold cc at h
  unfold cco
  rw [Bool.or_eq_true] at h
  rcases h with h | h
  · rw [Bool.and_eq_true] at h
    rw [h.1]; rfl
  · rw [h, Bool.or_true]
theorem CK_ag (e : ∀ o i, cc o i = true → M' o i = M o i) (C : CK M) : CK M' := by
  obtain ⟨h, ⟨a1, a2, a3⟩, b1, b2, b3⟩ := C
  exact ⟨h, ⟨by rw [e 7 10 rfl]; exact a1, by rw [e 7 11 rfl]; exact a2, fun s hs => by rw [e 14 s rfl]; exact a3 s hs⟩, by rw [e 7 12 rfl]; exact b1, fun i hi => by rw [e 15 i rfl]; exact b2 i hi, fun t ht => by rw [e 16 t rfl]; exact b3 t ht⟩
theorem CK_Fr (f : Fr w M M') (k : okW cc cco w = true) (C : CK M) : CK M' := CK_ag (fun o i q => f o i (okW_no cc_o k q)) C
theorem hngI_cg (e2 : hS h' = hS h) (e3 : ∀ s, s < hS h → me h' s = me h s) {amo sets seen : Nat} : ∀ k, k ≤ hS h → hngI h' amo sets seen k = hngI h amo sets seen k
  | 0, _ => rfl
  | k + 1, hk => by
    have ih := hngI_cg e2 e3 (amo := amo) (sets := sets) (seen := seen) k (by omega)
    unfold hngI
    rw [ih, e3 k (by omega)]
theorem hng_cg (e2 : hS h' = hS h) (e3 : ∀ s, s < hS h → me h' s = me h s) {amo sets seen : Nat} : ∀ n, hng h' amo sets seen n = hng h amo sets seen n
  | 0 => rfl
  | n + 1 => by
    unfold hng
    rw [hng_cg e2 e3 n, e2, hngI_cg e2 e3 _ (Nat.le_refl _)]
theorem cbL_cg (e2 : hS h' = hS h) (e3 : ∀ s, s < hS h → me h' s = me h s) {amo sets : Nat} : ∀ k, cbL h' amo sets k = cbL h amo sets k
  | 0 => rfl
  | k + 1 => by
    unfold cbL
    rw [cbL_cg e2 e3 k, e2, hng_cg e2 e3]
theorem cgA_cg (e1 : hT h' = hT h) (e2 : hS h' = hS h) (e3 : ∀ s, s < hS h → me h' s = me h s) (k : Nat) : cgA h' k = cgA h k := by
  unfold cgA aT aS
  rw [e1, e2, cbL_cg e2 e3]
theorem cgM_cg (e1 : hT h' = hT h) (e2 : hS h' = hS h) (e3 : ∀ s, s < hS h → me h' s = me h s) (k : Nat) : cgM h' k = cgM h k := by
  unfold cgM aT aS
  rw [e1, e2, hng_cg e2 e3]
theorem cmk_cg (e1 : hT h' = hT h) (e2 : hS h' = hS h) (e3 : ∀ s, s < hS h → me h' s = me h s) (i : Nat) : ∀ k, cmk h' k i = cmk h k i
  | 0 => rfl
  | k + 1 => by
    unfold cmk
    rw [cgA_cg e1 e2 e3, cgM_cg e1 e2 e3, cmk_cg e1 e2 e3 i k]
theorem own_cg (e1 : hT h' = hT h) (e2 : hS h' = hS h) (e3 : ∀ s, s < hS h → me h' s = me h s) (t : Nat) : ∀ k, own h' k t = own h k t
  | 0 => rfl
  | k + 1 => by
    unfold own
    rw [cgA_cg e1 e2 e3, cgM_cg e1 e2 e3, own_cg e1 e2 e3 t k]
theorem CL_cg (e1 : hT h' = hT h) (e2 : hS h' = hS h) (e3 : ∀ s, s < hS h → me h' s = me h s) (C : CL M h) : CL M h' := by
  obtain ⟨b1, b2, b3⟩ := C
  have u : nC h' = nC h := by unfold nC; rw [e1, cgA_cg e1 e2 e3]
  exact ⟨by rw [u]; exact b1, fun i hi => by rw [u] at hi; rw [e1, cmk_cg e1 e2 e3]; exact b2 i hi, fun t ht => by rw [e1] at ht; rw [e1, own_cg e1 e2 e3]; exact b3 t ht⟩
/-- seen from the house that the class holds -/
theorem CK_G (C : CK M) (X : XH M G) : CL M G := by
  obtain ⟨h, ⟨a1, a2, a3⟩, b⟩ := C
  obtain ⟨x1, x2, x3, x4, x5, x6, x7⟩ := X
  have e1 : hT G = hT h := by omega
  have e2 : hS G = hS h := by omega
  refine CL_cg e1 e2 (fun s hs => ?_) b
  have := a3 s hs
  have := x7 s (by omega)
  omega
theorem CK_of (X : XH M G) (C : CL M G) : CK M := ⟨G, ⟨X.2.1, X.2.2.1, X.2.2.2.2.2.2⟩, C⟩
theorem x_houseC {d : Nat} (hd : 10 ≤ d) (hM : gM gAll M) (X : XH M h) (W : BD h) (h1 : M 1 1 = (L : Int)) (ht : ∀ i, i < 80 → M 2 i = ux (tx i)) (hx : ∀ i, i < 80 → -128 ≤ tx i ∧ tx i ≤ 127) (WN : hsN tx L h → WF (hsH tx L h)) {z : Int} (e : xF d 2 [.inr 2] M = rI z M') : (hsN tx L h → CL M' (hsH tx L h)) ∧ (¬ hsN tx L h → ∀ o i, 7 ≤ o → o ≤ 16 → M' o i = M o i) := by
  obtain ⟨D, rfl, hD⟩ := dsucc hd
  have b1 := gm_i hM 1 1 (lo := 0) (hi := 80) (by decide +kernel) (by decide +kernel)
  rw [T_X_house, h1] at e
  by_cases q : L = 0
  · rw [if_neg (fun y => y (by rw [q]; rfl))] at e
    rw [← (rI_inj e).2]
    exact ⟨fun y => absurd q y.1, fun _ _ _ _ _ => rfl⟩
  · obtain ⟨M1, e1, g1, -⟩ := v_copy2 (d := D) (by omega) hM
    obtain ⟨M1', e1', y1, c1⟩ := x_become17 (d := D) (by omega) X W
    obtain rfl := rV_inj (e1.symm.trans e1')
    obtain ⟨v, M2, e2, g2, -⟩ := v_read (d := D) (by omega) g1
    obtain ⟨v', M2', e2', a2, r2⟩ := x_readH (tx := tx) (D := D) (by omega) y1 W (by rw [c1 1 1 (by omega)]; exact h1) (by omega) (fun i hi => by rw [c1 2 i (by omega)]; exact ht i hi) hx
    obtain ⟨rfl, rfl⟩ := rI_inj (e2.symm.trans e2')
    obtain ⟨e3, g3⟩ := x_cut0 (d := D) (by omega) g2
    rw [if_pos (by rw [eq32_iff] <;> omega), e1, pbN_rV, e2, pbI_rI, e3, pbI_rI] at e
    have uH : hsH tx L h = match phE L (phS tx (min L 76) 78 0 h 0).1 with
      | .inl _ => h
      | .inr _ => (phS tx (min L 76) 78 0 h 0).2.1 := if_neg q
    have hn := phS_n tx (min L 76) 78 0 h 0
    unfold rdA at r2
    cases hp : phE L (phS tx (min L 76) 78 0 h 0).1 with
    | inl p =>
      rw [hp] at r2 uH
      obtain ⟨r2, p80⟩ : v = -1 - (p : Int) ∧ p ≤ 80 := r2
      have hp80 : lt32 v 0 := by rw [lt32_iff] <;> omega
      rw [if_pos hp80] at e
      rw [← (rI_inj e).2]
      refine ⟨fun y => ?_, fun _ o i o1 o2 => ?_⟩
      · obtain ⟨-, b, hb⟩ := y
        rw [hp] at hb; cases hb
      · rw [pset_ne (by omega), a2 o i (by omega) (by omega), pset_ne (by omega), pset_ne (by omega), pset_ne (by omega), c1 o i (by omega)]
    | inr b =>
      have hN : hsN tx L h := ⟨q, b, hp⟩
      have WW := WN hN
      rw [hp] at r2 uH
      obtain ⟨r3, r4⟩ := r2
      have hp2 : ∃ c, (phS tx (min L 76) 78 0 h 0).1 = .inr c := by
        cases k : (phS tx (min L 76) 78 0 h 0).1 with
        | inl p => rw [k] at hp; cases hp
        | inr c => exact ⟨c, rfl⟩
      obtain ⟨c, hp3⟩ := hp2
      have W3 := BD_phS 78 0 h 0 c W hp3
      obtain ⟨M4, e4, g4, f4⟩ := v_become (d := D) (by omega) g3
      have y3 : YH (pset M2 1 1 0) (phS tx (min L 76) 78 0 h 0).2.1 := by
        obtain ⟨y1, y2, y3, y4, y5, y6, y7⟩ := r4
        exact ⟨by rw [pset_ne (by decide)]; exact y1, by rw [pset_ne (by decide)]; exact y2, by rw [pset_ne (by decide)]; exact y3, fun r hr => by rw [pset_ne (by decide)]; exact y4 r hr, fun p hp => by rw [pset_ne (by decide)]; exact y5 p hp, fun t ht => by rw [pset_ne (by decide), pset_ne (by decide), pset_ne (by decide), pset_ne (by decide)]; exact y6 t ht, fun s hs => by rw [pset_ne (by decide)]; exact y7 s hs⟩
      obtain ⟨M4', e4', X4⟩ := x_become7 (d := D) (by omega) y3 W3.1 W3.2.1 W3.2.2
      obtain rfl := rV_inj (e4.symm.trans e4')
      have uH' : hsH tx L h = (phS tx (min L 76) 78 0 h 0).2.1 := uH
      rw [uH'] at WW
      obtain ⟨M5, e5, a5, C5⟩ := c_hang (d := D) (by omega) WW X4
      obtain ⟨D', rfl, -⟩ := dsucc (show 1 ≤ D by omega)
      rw [if_neg (by rw [lt32_iff] <;> omega), e4, pbN_rV, e5, pbN_rV, T_Past_forget, pbN_rV] at e
      rw [uH', ← (rI_inj e).2]
      refine ⟨fun _ => ?_, fun y => absurd hN y⟩
      obtain ⟨b1, b2, b3⟩ := C5
      exact ⟨by rw [pset_ne (by decide)]; exact b1, fun i hi => by rw [pset_ne (by decide)]; exact b2 i hi, fun t ht => by rw [pset_ne (by decide)]; exact b3 t ht⟩
theorem x_breaksC (hd : 4 ≤ d) (W : WF G) (hM : gM gAll M) (X : XG M G) (WN : ∀ t, t < hT G → WF (gBr G t)) {b : Int} (hb : -2147483648 ≤ b ∧ b ≤ 2147483647) {v : Int} (ee : xF d 19 [.inr 2, .inl b] M = rI v M') : (0 ≤ b ∧ b < hT G → CL M' (gBr G b.toNat) ∧ v = nC (gBr G b.toNat)) ∧ (¬ (0 ≤ b ∧ b < hT G) → M' = M) := by
  obtain ⟨D, rfl, hD⟩ := dsucc hd
  obtain ⟨D', rfl, -⟩ := dsucc (show 1 ≤ D by omega)
  have w2 := W.2.1
  rw [T_X_breaks, c_isThing7 (by omega) W X.1 (by omega) (by omega), pbI_rI, ite01pn] at ee
  by_cases q : 0 ≤ b ∧ b < hT G
  · obtain ⟨t, rfl⟩ := natI q.1
    obtain ⟨M1, e1, g1, r1, f1⟩ := x_leave (D := D') W (t := t) (by omega) (hS G) 0 M (by omega) hM X.1.2.2.1 (fun i hi => by rw [X.1.2.2.2.2.2.2 i hi, if_neg (Nat.not_lt_zero i)])
    have X1 : XG M1 (gBr G t) := XG_gBr X r1 (fun o i ho _ => f1 o i ho)
    obtain ⟨M2, e2, -, C2⟩ := c_hang (d := D' + 1) (by omega) (WN t (by omega)) X1.1
    rw [if_pos q, T_House_leaveSets, show (.inl 0 : pV) = .inl ((0 : Nat) : Int) from rfl, e1, pbN_rV, e2, pbN_rV] at ee
    refine ⟨fun _ => ?_, fun z => absurd q z⟩
    rw [← (rI_inj ee).2, Int.toNat_natCast, ← (rI_inj ee).1]
    exact ⟨C2, C2.1⟩
  · rw [if_neg q] at ee
    exact ⟨fun z => absurd z q, fun _ => (rI_inj ee).2.symm⟩
end CKS
/-! clumps, heaviest, without, breaks, ties: what they answer, on both sides -/
section CLC
variable {D d : Nat} {M M' M1 M2 G h : pM} {w1 w2 : List (Nat × Nat)} {v y : Int}
theorem WF_cg {h' : pM} (W : WF h) (e : ∀ o i, o < 8 → h' o i = h o i) : WF h' := by
  have r : hR h' = hR h := by unfold hR; rw [e 0 0 (by decide)]
  have t : hT h' = hT h := by unfold hT; rw [e 0 1 (by decide)]
  have s : hS h' = hS h := by unfold hS; rw [e 0 2 (by decide)]
  obtain ⟨a1, a2, a3, a4, a5, a6, a7, a8, a9⟩ := W
  refine ⟨by rw [r]; exact a1, by rw [t]; exact a2, by rw [s]; exact a3, fun i hi => ?_, fun p hp => ?_, fun a b ha hb => ?_, fun a b ha hb q => ?_, fun i hi => ?_, fun i hi => ?_⟩
  · rw [r] at hi; rw [e 1 i (by decide)]; exact a4 i hi
  · rw [e 2 p (by decide)]; exact a5 p hp
  · rw [e 2 _ (by decide), e 2 _ (by decide)]; exact a6 a b ha hb
  · rw [r] at q; rw [e 2 _ (by decide)]; exact a7 a b ha hb q
  · rw [t] at hi; rw [e 3 i (by decide), e 4 i (by decide), e 5 i (by decide), e 6 i (by decide), r]; exact a8 i hi
  · rw [s] at hi; rw [t]
    have := a9 i hi
    unfold me at this ⊢
    rw [e 7 i (by decide)]; exact this
theorem WF_gBr (W : WF G) (t : Nat) : WF (gBr G t) := by
  obtain ⟨a1, a2, a3, a4, a5, a6, a7, a8, a9⟩ := W
  refine ⟨a1, a2, a3, fun i hi => ?_, fun p hp => ?_, fun a b ha hb => ?_, fun a b ha hb q => ?_, fun i hi => ?_, fun i hi => ?_⟩
  · rw [gBr_ne (by decide)]; exact a4 i hi
  · rw [gBr_ne (by decide)]; exact a5 p hp
  · rw [gBr_ne (by decide), gBr_ne (by decide)]; exact a6 a b ha hb
  · rw [gBr_ne (by decide)]; exact a7 a b ha hb q
  · rw [gBr_ne (by decide), gBr_ne (by decide), gBr_ne (by decide), gBr_ne (by decide)]; exact a8 i hi
  · have hi : i < hS G := hi
    rw [gBr_me hi]
    exact Nat.lt_of_le_of_lt (nan_le _ _) (a9 i hi)
theorem kcC_house (R : RI0 M) (C : CI M) (K : CK M) (T : TI M) (R1 : RI0 M1) (R2 : RI0 M2) (e1 : xF 1000 2 [.inr 2] M = rI v M1) (f1 : Fr w1 M M1) (k1 : okW cm cmo w1 = true) (k5 : wOK w1 60 14 = false) (k6 : ∀ i, wOK w1 68 i = false) (e2 : xF 1000 184 [.inr 62] M1 = rI y M2) : CK M1 := by
  obtain ⟨G, X, Y⟩ := C
  obtain ⟨W, -⟩ := ci_facts R X Y
  have b0 := gm_i R.1 1 1 (lo := 0) (hi := 80) (by decide +kernel) (by decide +kernel)
  obtain ⟨L, hL⟩ := natI b0.1
  have htx : ∀ i, i < 80 → -128 ≤ M 68 i ∧ M 68 i ≤ 127 := fun i hi => gm_r R.1 (o := 68) (lo := -128) (hi := 127) (by decide +kernel) (by decide +kernel) (show i < 80 from hi)
  obtain ⟨q0, q1, q2, q3⟩ := mg_house (tx := fun i => M 68 i) (L := L) (d := 1000) (by decide) W R1.1 (MG_Fr f1 k1 Y) (by rw [f1 60 14 k5, ← T.1]; exact hL) (fun i _ => f1 68 i (k6 i)) e2
  have B : BD G := ⟨W.1, W.2.1, W.2.2.1⟩
  obtain ⟨a1, a2⟩ := x_houseC (tx := fun i => M 68 i) (L := L) (d := 1000) (by decide) R.1 X.1 B hL T.2 htx (fun n => WF_cg (WF_MH R2.1 R2.2.2.1 (q1 n).1) (fun o i ho => (gNew_lo ho).symm)) e1
  obtain ⟨p0, p1, -⟩ := x_house (tx := fun i => M 68 i) (L := L) (d := 1000) (by decide) R.1 X.1 B hL T.2 htx e1
  by_cases q : hsN (fun i => M 68 i) L G
  · exact CK_of p1 (a1 q)
  · refine CK_ag (fun o i c => a2 q o i ?_ ?_) K
    · unfold cc at c
      simp only [Bool.or_eq_true, Bool.and_eq_true, Nat.beq_eq, Nat.ble_eq] at c
      omega
    · unfold cc at c
      simp only [Bool.or_eq_true, Bool.and_eq_true, Nat.beq_eq, Nat.ble_eq] at c
      omega
theorem m_breaksV (hd : 3 ≤ d) (W : WF G) (hM : gM gAll M) (X : MG M G) {b : Int} (hb : 0 ≤ b ∧ b < hT G) (ee : xF d 226 [.inr 62, .inl b] M = rI v M') : v = nC (gBr G b.toNat) := by
  obtain ⟨D, rfl, hD⟩ := dsucc hd
  have w2 := W.2.1
  have w3 := W.2.2.1
  have X1 := MG_thr X
  have hM1 := gM_thr hM
  rw [T_M_breaks] at ee
  generalize pset M 60 17 0 = M1 at X1 hM1 ee
  rw [m_isThing (by omega) X1.1.2.1 (by omega) (by omega) (by omega), pbI_rI] at ee
  obtain ⟨t, rfl⟩ := natI hb.1
  obtain ⟨M2, e1, g1, r1, f1⟩ := m_leave (D := D) W (t := t) (by omega) (hS G) 0 M1 (by omega) hM1 X1.1.2.2.1 (fun i hi => by rw [X1.1.2.2.2.2.2.2 i hi, if_neg (Nat.not_lt_zero i)])
  have X2 : MG M2 (gBr G t) := MG_gBr X1 r1 (fun o i ho _ => f1 o i ho)
  obtain ⟨M3, e2, g2, f2, c2, -⟩ := m_fcF (d := D) (by omega) g1 (WF_gBr W t) X2.1
  rw [if_pos hb, if_pos (by decide), show (.inl 0 : pV) = .inl ((0 : Nat) : Int) from rfl, e1, L_M_breaks_11, f1 60 8 (by decide), X1.1.2.2.1, if_pos (by rw [le32_iff] <;> omega), e2, pbN_rV] at ee
  rw [← (rI_inj ee).1, c2, Int.toNat_natCast]
theorem kc_breaksV (R : RI0 M) (C : CI M) (K : CK M) (R1 : RI0 M1) {a1 : Int} (h1 : -2147483648 ≤ a1 ∧ a1 ≤ 2147483647) (e1 : xF 1000 19 [.inr 2, .inl a1] M = rI v M1) (f1 : Fr w1 M M1) (k1 : okW cm cmo w1 = true) (e2 : xF 1000 226 [.inr 62, .inl a1] M1 = rI y M2) : v = y ∧ CK M1 := by
  obtain ⟨G, X, Y⟩ := C
  obtain ⟨W, -⟩ := ci_facts R X Y
  obtain ⟨p1, p2⟩ := xg_breaks (d := 1000) (by decide) W R.1 X h1 e1
  obtain ⟨a, b⟩ := x_breaksC (d := 1000) (by decide) W R.1 X (fun t _ => WF_gBr W t) h1 e1
  obtain ⟨q1, q2⟩ := mg_breaks (d := 1000) (by decide) W R1.1 (MG_Fr f1 k1 Y) h1 e2
  by_cases q : 0 ≤ a1 ∧ a1 < hT G
  · exact ⟨by rw [(a q).2, m_breaksV (d := 1000) (by decide) W R1.1 (MG_Fr f1 k1 Y) q e2], CK_of (p1 q).1 (a q).1⟩
  · rw [b q]
    exact ⟨by rw [(p2 q).1, (q2 q).1], K⟩
theorem x_cl5 {n : Nat} (hn : n ≤ 10) : ∀ (m k : Nat) (M : pM), k + m = n → M 7 12 = (n : Int) → M 5 1 = (k : Int) → xE (D + 1) 16 5 [.inr 2, .inl (k : Int)] [] M = rI v M' → v = n
  | 0, k, M, hk, h12, h5, e => by
    rw [L_X_clumps_5, h12, if_pos (by rw [le32_iff] <;> omega)] at e
    exact (rI_inj e).1.symm
  | m + 1, k, M, hk, h12, h5, e => by
    obtain ⟨N, u1, u2, u3⟩ := x_tell (d := D + 1) (M := M) (n := k) (by omega) (by omega) h5 (M 15 (k : Int).toNat)
    rw [L_X_clumps_5, h12, if_neg (by rw [le32_iff] <;> omega), if_pos (by omega), u1, pbN_rV, show ((k : Int) + 1) = ((k + 1 : Nat) : Int) by omega] at e
    exact x_cl5 hn m (k + 1) N (by omega) (by rw [u3 7 12 (by decide) (by decide)]; exact h12) u2 e
theorem m_cl12 {n : Nat} (hn : n ≤ 10) : ∀ (m k : Nat) (M : pM), k + m = n → M 60 30 = (n : Int) → M 60 16 = (k : Int) → xE (D + 1) 222 12 [.inr 62, .inl (k : Int)] [] M = rI v M' → v = n
  | 0, k, M, hk, h12, h5, e => by
    rw [L_M_clumps_12, h12, if_pos (by rw [le32_iff] <;> omega)] at e
    exact (rI_inj e).1.symm
  | m + 1, k, M, hk, h12, h5, e => by
    obtain ⟨N, u1, u2, u3⟩ := m_tellX (d := D + 1) (M := M) (n := k) (by omega) (by omega) h5 (M 73 (k : Int).toNat)
    rw [L_M_clumps_12, h12, if_neg (by rw [le32_iff] <;> omega), if_pos (by omega), u1, pbN_rV, show ((k : Int) + 1) = ((k + 1 : Nat) : Int) by omega] at e
    exact m_cl12 hn m (k + 1) N (by omega) (by rw [u3 60 30 (by decide) (by decide)]; exact h12) u2 e
theorem kc_clumps (R : RI0 M) (C : CI M) (K : CK M) (R1 : RI0 M1) (e1 : xF 1000 16 [.inr 2] M = rI v M1) (f1 : Fr w1 M M1) (k1 : okW cm cmo w1 = true) (e2 : xF 1000 222 [.inr 62] M1 = rI y M2) : v = y := by
  obtain ⟨G, X, Y⟩ := C
  obtain ⟨W, -⟩ := ci_facts R X Y
  have n10 := nC_le W
  have CL1 := CK_G K X.1
  have t1 : xF (998 + 1 + 1) 16 [.inr 2] M = rI v M1 := e1
  have t2 : xF (998 + 1 + 1) 222 [.inr 62] M1 = rI y M2 := e2
  have Y1 := MG_thr (MG_Fr f1 k1 Y)
  obtain ⟨N, u1, -, u2, u3, -⟩ := m_fcF (d := 998 + 1) (by omega) (gM_thr R1.1) W Y1.1
  rw [T_X_clumps, T_Numbers_start, pbN_rV] at t1
  rw [T_M_clumps, u1, pbN_rV] at t2
  have a := x_cl5 n10 (nC G) 0 _ (by omega) (by rw [pset_ne (by decide)]; exact CL1.1) pset_eq t1
  have b := m_cl12 n10 (nC G) 0 _ (by omega) (by rw [pset_ne2 (by decide)]; exact u3) pset_eq t2
  rw [a, b]
theorem m_bulkOf (hd : 2 ≤ d) (W : WF h) (X : MH M h) {b : Nat} (hb : b < 2147483648) : xF d 223 [.inr 62, .inl (b : Int)] M = rI (blk h b) M := by
  obtain ⟨D, rfl, hD⟩ := dsucc hd
  have w2 := W.2.1
  have key : ∀ m k : Nat, k + m = hT h → xE D 223 4 [.inr 62, .inl (b : Int), .inl (sumTo (fun t => if b.testBit t then h 3 t else 0) k), .inl (k : Int)] [] M = rI (blk h b) M := by
    intro m
    induction m with
    | zero =>
      intro k hk
      have e : k = hT h := by omega
      rw [L_M_bulkOf_4, X.2.1, if_pos (by rw [le32_iff] <;> omega), e]
      rfl
    | succ m ih =>
      intro k hk
      have i := ih (k + 1) (by omega)
      rw [L_M_bulkOf_4, X.2.1, if_neg (by rw [le32_iff] <;> omega), m_has (by omega) (by omega) (by omega), pbI_rI, ite01, show ((k : Int) + 1) = ((k + 1 : Nat) : Int) by omega]
      have s : sumTo (fun t => if b.testBit t then h 3 t else 0) (k + 1) = sumTo (fun t => if b.testBit t then h 3 t else 0) k + if b.testBit k then h 3 k else 0 := rfl
      rw [s] at i
      cases q : b.testBit k with
      | false =>
        rw [q, if_neg (by decide)] at i
        rw [if_neg (by decide)]; exact i
      | true =>
        rw [q, if_pos rfl] at i
        rw [if_pos rfl, if_pos (by omega), Int.toNat_natCast, (X.2.2.2.2.2.1 k (by omega)).1]; exact i
  rw [T_M_bulkOf]
  exact key (hT h) 0 (by omega)
def hvy (h : pM) : Nat → Nat
  | 0 => 0
  | k + 1 => if blk h (cOf h (k + 1)) ≤ blk h (cOf h (hvy h k)) then hvy h k else k + 1
theorem hvy_le : ∀ k, hvy h k ≤ k
  | 0 => Nat.le_refl 0
  | k + 1 => by
    unfold hvy
    split
    · exact Nat.le_succ_of_le (hvy_le k)
    · exact Nat.le_refl _
theorem nC_pos (hT0 : 0 < hT h) : 1 ≤ nC h := by
  have mono : ∀ n k, (cgA h k).1 ≤ (cgA h (k + n)).1 := by
    intro n
    induction n with
    | zero => intro k; exact Nat.le_refl _
    | succ n ih =>
      intro k
      have := ih k
      rw [show k + (n + 1) = (k + n) + 1 by omega, cgA_succ]
      split
      · exact Nat.le_succ_of_le this
      · exact this
  have e : (cgA h 1).1 = 1 := by
    rw [cgA_succ]
    have : (cgA h 0).2.testBit 0 = true := by
      show (2 ^ hT h - 1).testBit 0 = true
      rw [Nat.testBit_two_pow_sub_one]; exact decide_eq_true hT0
    rw [if_pos this]; rfl
  have := mono (hT h - 1) 1
  rw [e, show 1 + (hT h - 1) = hT h by omega] at this
  exact this
theorem x_hv10 (hD : 3 ≤ D) (W : WF h) (X : XH M h) (C : CL M h) : ∀ (m k : Nat), k + 1 + m = nC h → xE D 17 10 [.inr 2, .inl (hvy h k : Nat), .inl ((k + 1 : Nat) : Int)] [] M = rI v M' → v = hvy h (nC h - 1)
  | 0, k, hk, e => by
    have n10 := nC_le W
    rw [L_X_heaviest_10, C.1, if_pos (by rw [le32_iff] <;> omega)] at e
    obtain ⟨_, _, -, e⟩ := pbI_inv e
    obtain ⟨_, -, e⟩ := pbN_inv e
    obtain ⟨_, -, e⟩ := pbN_inv e
    obtain ⟨_, _, -, e⟩ := pbI_inv e
    obtain ⟨_, -, e⟩ := pbN_inv e
    rw [show nC h - 1 = k by omega]
    exact (rI_inj e).1.symm
  | m + 1, k, hk, e => by
    have n10 := nC_le W
    have hl := hvy_le (h := h) k
    have b1 := blk_range W (cOf h (k + 1))
    have b2 := blk_range W (cOf h (hvy h k))
    rw [L_X_heaviest_10, C.1, if_neg (by rw [le32_iff] <;> omega), c_clumpBulk (by omega) W X C (by omega), pbI_rI, c_clumpBulk (by omega) W X C (by omega), pbI_rI, show (((k + 1 : Nat) : Int) + 1) = ((k + 1 + 1 : Nat) : Int) by omega] at e
    refine x_hv10 hD W X C m (k + 1) (by omega) ?_
    unfold hvy
    by_cases q : blk h (cOf h (k + 1)) ≤ blk h (cOf h (hvy h k))
    · rw [if_pos (by rw [le32_iff] <;> omega)] at e
      rw [if_pos q]; exact e
    · rw [if_neg (by rw [le32_iff] <;> omega)] at e
      rw [if_neg q]; exact e
theorem m_hv41 (hD : 2 ≤ D) (W : WF h) {i c : Nat} (hi : i < 10) (hc : c < 1024) : ∀ (m k : Nat) (x : Int) (M : pM), k + m = hR h → MH M h → M 73 i = (c : Int) → xE D 224 41 [.inr 62, .inl (i : Int), .inl x, .inl (k : Int)] [] M = rI v M' → v = i
  | 0, k, x, M, hk, X, h73, e => by
    have w1 := W.1
    rw [L_M_heaviest_41, X.1, if_pos (by rw [le32_iff] <;> omega), if_pos (by omega)] at e
    obtain ⟨_, _, -, e⟩ := pbI_inv e
    obtain ⟨_, -, e⟩ := pbN_inv e
    obtain ⟨_, -, e⟩ := pbN_inv e
    exact (rI_inj e).1.symm
  | m + 1, k, x, M, hk, X, h73, e => by
    have w1 := W.1
    rw [L_M_heaviest_41, X.1, if_neg (by rw [le32_iff] <;> omega), if_pos (by omega), if_pos (by omega), Int.toNat_natCast, h73, m_bulkOf hD W X (by omega), pbI_rI, show ((k : Int) + 1) = ((k + 1 : Nat) : Int) by omega] at e
    split at e
    · exact m_hv41 hD W hi hc m (k + 1) _ M (by omega) X h73 e
    · exact m_hv41 hD W hi hc m (k + 1) _ M (by omega) X h73 e
theorem m_hv16 (hD : 2 ≤ D) (W : WF h) (X : MH M h) (h30 : M 60 30 = (nC h : Int)) (h73 : ∀ i, i < nC h → M 73 i = (cOf h i : Int)) : ∀ (m k : Nat), k + 1 + m = nC h → xE D 224 16 [.inr 62, .inl (hvy h k : Nat), .inl ((k + 1 : Nat) : Int), .inr 0] [] M = rI v M' → v = hvy h (nC h - 1)
  | 0, k, hk, e => by
    have n10 := nC_le W
    have hl := hvy_le (h := h) k
    rw [L_M_heaviest_16, h30, if_pos (by rw [le32_iff] <;> omega), show (.inl 0 : pV) = .inl ((0 : Nat) : Int) from rfl] at e
    rw [show nC h - 1 = k by omega]
    exact m_hv41 hD W (i := hvy h k) (by omega) (cOf_lt W (hvy h k)) (hR h) 0 _ M (by omega) X (h73 _ (by omega)) e
  | m + 1, k, hk, e => by
    have n10 := nC_le W
    have hl := hvy_le (h := h) k
    have b1 := blk_range W (cOf h (k + 1))
    have b2 := blk_range W (cOf h (hvy h k))
    have c1 := cOf_lt W (k + 1)
    have c2 := cOf_lt W (hvy h k)
    rw [L_M_heaviest_16, h30, if_neg (by rw [le32_iff] <;> omega), if_pos (by omega), Int.toNat_natCast, h73 (k + 1) (by omega), m_bulkOf hD W X (by omega), pbI_rI, if_pos (by omega), Int.toNat_natCast, h73 _ (by omega), m_bulkOf hD W X (by omega), pbI_rI, show (((k + 1 : Nat) : Int) + 1) = ((k + 1 + 1 : Nat) : Int) by omega] at e
    refine m_hv16 hD W X h30 h73 m (k + 1) (by omega) ?_
    unfold hvy
    by_cases q : blk h (cOf h (k + 1)) ≤ blk h (cOf h (hvy h k))
    · rw [if_pos (by rw [le32_iff] <;> omega)] at e
      rw [if_pos q]; exact e
    · rw [if_neg (by rw [le32_iff] <;> omega)] at e
      rw [if_neg q]; exact e
theorem kc_heaviest (R : RI0 M) (C : CI M) (K : CK M) (R1 : RI0 M1) (e1 : xF 1000 17 [.inr 2] M = rI v M1) (f1 : Fr w1 M M1) (k1 : okW cm cmo w1 = true) (e2 : xF 1000 224 [.inr 62] M1 = rI y M2) : v = y := by
  obtain ⟨G, X, Y⟩ := C
  obtain ⟨W, -⟩ := ci_facts R X Y
  have w2 := W.2.1
  have CL1 := CK_G K X.1
  have t1 : xF (999 + 1) 17 [.inr 2] M = rI v M1 := e1
  have t2 : xF (999 + 1) 224 [.inr 62] M1 = rI y M2 := e2
  have Y1 := MG_thr (MG_Fr f1 k1 Y)
  obtain ⟨N, u1, -, u2, u3, u4, -⟩ := m_fcF (d := 999) (by omega) (gM_thr R1.1) W Y1.1
  have YN : MG N G := MG_Fr u2 (by decide) Y1
  rw [T_X_heaviest, X.1.2.1] at t1
  rw [T_M_heaviest, Y1.1.2.1] at t2
  by_cases q : hT G = 0
  · rw [q, if_neg (fun z => z (by decide))] at t1 t2
    rw [← (rI_inj t1).1, ← (rI_inj t2).1]
  · have n1 := nC_pos (h := G) (by omega)
    rw [if_pos (by rw [eq32_iff] <;> omega)] at t1
    rw [if_pos (by rw [eq32_iff] <;> omega), u1, pbN_rV] at t2
    have a := x_hv10 (D := 999) (by decide) W X.1 CL1 (nC G - 1) 0 (by omega) t1
    have b := m_hv16 (D := 999) (by decide) W YN.1 u3 u4 (nC G - 1) 0 (by omega) t2
    rw [a, b]
theorem wo_A (W : WF h) (t : Nat) : ∀ k, k < hS h → me h k &&& nan (aT h) (2 ^ t) = nan (me h k) (2 ^ t) := fun k hk => by
  refine Nat.eq_of_testBit_eq fun i => ?_
  unfold aT
  rw [Nat.testBit_and, nan_bit, nan_bit, Nat.testBit_two_pow_sub_one]
  cases e : (me h k).testBit i with
  | false => rfl
  | true => rw [decide_eq_true (bit_lt (W.2.2.2.2.2.2.2.2 k hk) e), Bool.true_and]
theorem wo_B (t : Nat) : ∀ i, i < hT h → (nan (aT h) (2 ^ t)).testBit i = !(2 ^ t).testBit i := fun i hi => by
  unfold aT
  rw [nan_bit, Nat.testBit_two_pow_sub_one, decide_eq_true hi, Bool.true_and]
theorem m_wo19 {n : Nat} {x1 : Int} : ∀ (m k : Nat) (x : Int) (M : pM), k + m = n → n ≤ 8 → M 60 8 = (n : Int) → xE (D + 1) 225 19 [.inr 62, .inl x1, .inl x, .inl (k : Int)] [] M = rI v M' → v = M 60 30
  | 0, k, x, M, hk, hn, h8, e => by
    obtain ⟨N, u1, u2, u3⟩ := m_tellX (d := D + 1) (M := pset M 60 16 0) (n := 0) (by omega) (by omega) pset_eq x
    rw [L_M_without_19, h8, if_pos (by rw [le32_iff] <;> omega), u1, pbN_rV, u3 60 30 (by decide) (by decide), pset_ne2 (by decide)] at e
    exact (rI_inj e).1.symm
  | m + 1, k, x, M, hk, hn, h8, e => by
    rw [L_M_without_19, h8, if_neg (by rw [le32_iff] <;> omega), if_pos (by omega), show ((k : Int) + 1) = ((k + 1 : Nat) : Int) by omega] at e
    split at e
    · exact m_wo19 m (k + 1) _ M (by omega) hn h8 e
    · exact m_wo19 m (k + 1) _ M (by omega) hn h8 e
theorem kc_without (R : RI0 M) (C : CI M) (R1 : RI0 M1) {a1 : Int} (h1 : -2147483648 ≤ a1 ∧ a1 ≤ 2147483647) (e1 : xF 1000 18 [.inr 2, .inl a1] M = rI v M1) (f1 : Fr w1 M M1) (k1 : okW cm cmo w1 = true) (e2 : xF 1000 225 [.inr 62, .inl a1] M1 = rI y M2) : v = y := by
  obtain ⟨G, X, Y⟩ := C
  obtain ⟨W, -⟩ := ci_facts R X Y
  have w2 := W.2.1
  have w3 := W.2.2.1
  have t1 : xF (998 + 1 + 1) 18 [.inr 2, .inl a1] M = rI v M1 := e1
  have t2 : xF (998 + 1 + 1) 225 [.inr 62, .inl a1] M1 = rI y M2 := e2
  have Y1 := MG_thr (MG_Fr f1 k1 Y)
  rw [T_X_without, c_isThing7 (by omega) W X.1 (by omega) (by omega), pbI_rI, ite01pn] at t1
  rw [T_M_without, m_isThing (by omega) Y1.1.2.1 (by omega) (by omega) (by omega), pbI_rI, ite01pn] at t2
  by_cases q : 0 ≤ a1 ∧ a1 < (hT G : Int)
  · obtain ⟨t, rfl⟩ := natI q.1
    have p10 := pow10 (t := t) (by omega)
    have aT1 := aT_lt W
    have aS1 := aS_lt W
    have hn := nan_le (aT G) (2 ^ t)
    obtain ⟨N, u1, -, u2, u3⟩ := m_fcN (d := 998 + 1) (ns := 0) (g := 2 ^ t) (amo := nan (aT G) (2 ^ t)) (sets := aS G) (by omega) (gM_thr R1.1) W Y1.1 (by decide) p10 (hE G) (wo_A W t) (wo_B t)
    have YN : MG N G := MG_Fr u2 (by decide) Y1
    have e0 : jand ((2 ^ hT G - 1 : Nat) : Int) (jxor (jshl 1 (t : Int)) (-1)) = ((nan (aT G) (2 ^ t) : Nat) : Int) := brk_v (t := t) (v := aT G) (by omega) aT1
    rw [if_pos q, c_allThings (by omega) W X.1, pbI_rI, T_Numbers_start, pbN_rV, e0] at t1
    have Xs : XG (pset M 5 1 0) G := XG_ag (fun o i z => pset_ne (fun z' => by rw [z'] at z; cases z)) X
    obtain ⟨N3, u5, -, u6⟩ := x_tell (d := 998 + 1) (M := pset M 5 1 0) (n := 0) (by omega) (by decide) pset_eq ((sNo G (nan (aT G) (2 ^ t)) : Nat) : Int)
    have Xt : XG N3 G := XG_ag (fun o i z => u6 o i (fun z' => by rw [z'] at z; cases z) (fun z' => by rw [z'] at z; cases z)) Xs
    rw [c_setsNo (by omega) W Xs.1 (by omega), pbI_rI, u5, pbN_rV, c_allSets (by omega) W Xt.1, pbI_rI, show ((2 ^ hS G - 1 : Nat) : Int) = (aS G : Int) from rfl, c_clumpsBy (by omega) W Xt.1 (by omega) (by omega), pbI_rI] at t1
    rw [if_pos q, jshl_one t (by omega), show (.inl 0 : pV) = .inl ((0 : Nat) : Int) from rfl, u1, pbN_rV] at t2
    have b := m_wo19 (D := 998) (hS G) 0 _ N (by omega) w3 YN.1.2.2.1 t2
    rw [← (rI_inj t1).1, b, u3]
  · rw [if_neg q] at t1 t2
    rw [← (rI_inj t1).1, ← (rI_inj t2).1]
def tiB (h : pM) (s : Nat) : Bool := decide (nC h < (cbL h (aT h) (nan (aS h) (2 ^ s)) (hT h)).1)
theorem ti_E (h : pM) (s : Nat) : ∀ k, k < hS h → (nan (aS h) (2 ^ s)).testBit k = !(2 ^ s).testBit k := fun k hk => by
  unfold aS
  rw [nan_bit, Nat.testBit_two_pow_sub_one, decide_eq_true hk, Bool.true_and]
theorem x_ti4 (hD : 4 ≤ D) (W : WF h) (X : XH M h) (C : CL M h) : ∀ (m k : Nat), k + m = hS h → xE D 20 4 [.inr 2, .inl (bitsOf (tiB h) k : Nat), .inl (k : Int)] [] M = rI (bitsOf (tiB h) (hS h) : Nat) M
  | 0, k, hk => by
    have w3 := W.2.2.1
    have e : k = hS h := by omega
    rw [L_X_ties_4, X.2.2.1, if_pos (by rw [le32_iff] <;> omega), e]
  | m + 1, k, hk => by
    have w2 := W.2.1
    have w3 := W.2.2.1
    have n10 := nC_le W
    have aT1 := aT_lt W
    have aS1 := aS_lt W
    have hn := nan_le (aS h) (2 ^ k)
    have cl := (cbL_le (h := h) (amo := aT h) (sets := nan (aS h) (2 ^ k)) (hT h)).1
    have hb : bitsOf (tiB h) k < 2 ^ k := bitsOf_lt _ _
    have e0 : jand ((2 ^ hS h - 1 : Nat) : Int) (jxor (jshl 1 (k : Int)) (-1)) = ((nan (aS h) (2 ^ k) : Nat) : Int) := brk_v (t := k) (v := aS h) (by omega) (by omega)
    have ih := x_ti4 hD W X C m (k + 1) (by omega)
    rw [L_X_ties_4, X.2.2.1, if_neg (by rw [le32_iff] <;> omega), c_allThings (by omega) W X, pbI_rI, c_allSets (by omega) W X, pbI_rI, e0, show ((2 ^ hT h - 1 : Nat) : Int) = (aT h : Int) from rfl, c_clumpsBy (by omega) W X (by omega) (by omega), pbI_rI, C.1, show ((k : Int) + 1) = ((k + 1 : Nat) : Int) by omega]
    have u : bitsOf (tiB h) (k + 1) = if tiB h k then bitsOf (tiB h) k ||| 2 ^ k else bitsOf (tiB h) k := rfl
    rw [u] at ih
    by_cases q : nC h < (cbL h (aT h) (nan (aS h) (2 ^ k)) (hT h)).1
    · rw [if_neg (by rw [le32_iff] <;> omega), jor_shl hb (by omega)]
      rw [if_pos (show tiB h k = true from decide_eq_true q)] at ih
      exact ih
    · rw [if_pos (by rw [le32_iff] <;> omega)]
      rw [if_neg (show ¬ tiB h k = true from fun z => q (of_decide_eq_true z))] at ih
      exact ih
theorem m_ti14 (hD : 2 ≤ D) (W : WF h) : ∀ (m k : Nat) (M : pM), k + m = hS h → gM gAll M → MH M h → ∃ M', xE D 227 14 [.inr 62, .inl (nC h : Int), .inl (bitsOf (tiB h) k : Nat), .inl (k : Int)] [] M = rI (bitsOf (tiB h) (hS h) : Nat) M'
  | 0, k, M, hk, hM, X => by
    have w3 := W.2.2.1
    have e : k = hS h := by omega
    rw [L_M_ties_14, X.2.2.1, if_pos (by rw [le32_iff] <;> omega), e]
    exact ⟨M, rfl⟩
  | m + 1, k, M, hk, hM, X => by
    have w2 := W.2.1
    have w3 := W.2.2.1
    have n10 := nC_le W
    have p10 := pow10 (t := k) (by omega)
    have cl := (cbL_le (h := h) (amo := aT h) (sets := nan (aS h) (2 ^ k)) (hT h)).1
    have hb : bitsOf (tiB h) k < 2 ^ k := bitsOf_lt _ _
    obtain ⟨N, u1, u0, u2, u3⟩ := m_fcN (d := D) (ns := 2 ^ k) (g := 0) (amo := aT h) (sets := nan (aS h) (2 ^ k)) (by omega) hM W X (by omega) (by decide) (ti_E h k) (hA W) (hB h)
    have XN : MH N h := by
      obtain ⟨x1, x2, x3, x4, x5, x6, x7⟩ := X
      exact ⟨by rw [u2 60 0 (by decide)]; exact x1, by rw [u2 60 3 (by decide)]; exact x2, by rw [u2 60 8 (by decide)]; exact x3, fun r hr => by rw [u2 61 r rfl]; exact x4 r hr, fun p hp => by rw [u2 62 p rfl]; exact x5 p hp, fun t ht => by rw [u2 63 t rfl, u2 64 t rfl, u2 65 t rfl, u2 66 t rfl]; exact x6 t ht, fun s hs => by rw [u2 67 s rfl]; exact x7 s hs⟩
    obtain ⟨M', ih⟩ := m_ti14 hD W m (k + 1) N (by omega) u0 XN
    rw [L_M_ties_14, X.2.2.1, if_neg (by rw [le32_iff] <;> omega), jshl_one k (by omega), show (.inl 0 : pV) = .inl ((0 : Nat) : Int) from rfl, u1, pbN_rV, u3, show ((k : Int) + 1) = ((k + 1 : Nat) : Int) by omega]
    refine ⟨M', ?_⟩
    have u : bitsOf (tiB h) (k + 1) = if tiB h k then bitsOf (tiB h) k ||| 2 ^ k else bitsOf (tiB h) k := rfl
    rw [u] at ih
    by_cases q : nC h < (cbL h (aT h) (nan (aS h) (2 ^ k)) (hT h)).1
    · rw [if_neg (by rw [le32_iff] <;> omega), ← jshl_one k (by omega), jor_shl hb (by omega)]
      rw [if_pos (show tiB h k = true from decide_eq_true q)] at ih
      exact ih
    · rw [if_pos (by rw [le32_iff] <;> omega)]
      rw [if_neg (show ¬ tiB h k = true from fun z => q (of_decide_eq_true z))] at ih
      have p2 : 2 ^ k < 1024 := p10
      have z := jor_nat (a := bitsOf (tiB h) k) (b := 0) (by omega) (by omega)
      rw [Nat.or_zero] at z
      rw [show jor ((bitsOf (tiB h) k : Nat) : Int) 0 = ((bitsOf (tiB h) k : Nat) : Int) from z]
      exact ih
theorem kc_ties (R : RI0 M) (C : CI M) (K : CK M) (R1 : RI0 M1) (e1 : xF 1000 20 [.inr 2] M = rI v M1) (f1 : Fr w1 M M1) (k1 : okW cm cmo w1 = true) (e2 : xF 1000 227 [.inr 62] M1 = rI y M2) : v = y := by
  obtain ⟨G, X, Y⟩ := C
  obtain ⟨W, -⟩ := ci_facts R X Y
  have CL1 := CK_G K X.1
  have t1 : xF (999 + 1) 20 [.inr 2] M = rI v M1 := e1
  have t2 : xF (999 + 1) 227 [.inr 62] M1 = rI y M2 := e2
  have Y1 := MG_thr (MG_Fr f1 k1 Y)
  obtain ⟨N, u1, u0, u2, u3, -⟩ := m_fcF (d := 999) (by omega) (gM_thr R1.1) W Y1.1
  have YN : MG N G := MG_Fr u2 (by decide) Y1
  have a := x_ti4 (D := 999) (by decide) W X.1 CL1 (hS G) 0 (by omega)
  obtain ⟨N2, b⟩ := m_ti14 (D := 999) (by decide) W (hS G) 0 N (by omega) u0 YN.1
  rw [T_X_ties] at t1
  rw [T_M_ties, u1, pbN_rV, u3] at t2
  rw [← (rI_inj (a.symm.trans t1)).1, ← (rI_inj (b.symm.trans t2)).1]
end CLC
