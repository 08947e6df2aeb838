/-! the reference: sets that are parted, rooms that are too full (by program) -/
theorem nt2_dec : ((List.range 1024).all fun a => ntE ((a ||| 1024 : Nat) : Int) == (if a = 0 then 10 else ntz a)) = true := by decide +kernel
/-- the first thing of a set, or 10 -/
def fst1 (a : Nat) : Nat := if a = 0 then 10 else (ntz a).toNat
theorem ntz_lt {a : Nat} (ha : a < 1024) (h0 : a ≠ 0) : 0 ≤ ntz a ∧ ntz a < 10 := by
  unfold ntz
  rw [if_neg h0]
  rcases firstN_spec a.testBit 10 0 with ⟨-, h2⟩ | ⟨j, h1, -, h3, -⟩
  · refine absurd (Nat.eq_of_testBit_eq fun i => ?_) h0
    rw [Nat.zero_testBit]
    rcases Nat.lt_or_ge i 10 with y | y
    · exact h2 i (Nat.zero_le i) (by omega)
    · exact Nat.testBit_lt_two_pow (Nat.lt_of_lt_of_le ha (pow_le_of (k := 10) y))
  · rw [h1]; omega
theorem j_ntz2 {d : Nat} (hd : 1 ≤ d) {a : Nat} (ha : a < 1024) {M : pM} : xF d 271 [.inl ((a ||| 1024 : Nat) : Int)] M = rI (fst1 a : Nat) M := by
  obtain ⟨D, rfl, -⟩ := dsucc hd
  rw [T_I_numberOfTrailingZeros]
  have h := List.all_eq_true.mp nt2_dec a (List.mem_range.mpr ha)
  rw [beq_iff_eq] at h
  simp only [sI_ite]
  have e : ntE ((a ||| 1024 : Nat) : Int) = ((fst1 a : Nat) : Int) := by
    rw [h]; unfold fst1
    by_cases q : a = 0
    · rw [if_pos q, if_pos q]; rfl
    · rw [if_neg q, if_neg q]
      have := ntz_lt ha q
      omega
  unfold ntE at e
  rw [e]
/-- some thing below k of the set a is elsewhere than its first -/
def pdF (p : Nat → Int) (a : Nat) : Nat → Bool
  | 0 => false
  | k + 1 => pdF p a k || (a.testBit k && !decide (eq32 (p k) (p (fst1 a))))
def pdV (b s : Nat) (c : Bool) : Int := ((if c then b ||| 2 ^ s else b : Nat) : Int)
theorem pdV_or {b s : Nat} (hs : s < 8) (hb : b < 2 ^ s) (c : Bool) : jor (pdV b s c) (jshl 1 (s : Int)) = pdV b s true := by
  have h1 : 2 ^ s < 1024 := Nat.lt_of_lt_of_le (Nat.pow_lt_pow_right (by decide) hs) (by decide)
  unfold pdV
  rw [jshl_one s (by omega)]
  cases c with
  | false => rw [if_neg (by decide), if_pos rfl, jor_nat (by omega) (by omega)]
  | true =>
    rw [if_pos rfl, jor_nat (Nat.lt_trans (or_pow_lt hb) (by have := Nat.pow_lt_pow_right (show 1 < 2 by decide) (show s + 1 < 10 by omega); omega)) (by omega)]
    rw [show (b ||| 2 ^ s ||| 2 ^ s) = (b ||| 2 ^ s) by rw [Nat.or_assoc, Nat.or_self]]
theorem jor_0 {a : Nat} (h : a < 2147483648) : jor (a : Int) 0 = (a : Int) := by
  have := jor_nat (b := 0) h (by decide)
  rw [Nat.or_zero] at this
  exact this
/-- what is free in a room -/
def frF (M : pM) (p : Nat → Int) (r : Int) : Nat → Int
  | 0 => M 61 r.toNat
  | k + 1 => if eq32 (p k) r then frF M p r k - M 63 k else frF M p r k - 0
section MP
variable {D d S T : Nat} {sv : Nat → Nat} {M : pM}
theorem m_pd18_66 (hD : 1 ≤ D) (h : FCx M S T sv) {s b : Nat} (hs : s < S) (hb : b < 2 ^ s) : ∀ m k, k + m = T → xE D 210 18 [.inr 62, .inr 68, .inl (pdV b s (pdF (M 66) (sv s) k)), .inl (s : Int), .inl (fst1 (sv s) : Nat), .inl (k : Int)] [] M = xE D 210 4 [.inr 62, .inr 68, .inl (pdV b s (pdF (M 66) (sv s) T)), .inl ((s : Int) + 1), .inl (fst1 (sv s) : Nat), .inl (T : Int)] [] M := by
  obtain ⟨h8, hS, h3, hT, hv, hl⟩ := h
  intro m
  induction m with
  | zero =>
    intro k hk
    rw [L_M_partedSets_66_18, h3, if_pos (by rw [le32_iff] <;> omega), show k = T by omega]
  | succ m ih =>
    intro k hk
    have e1 : ((k : Int) + 1) = ((k + 1 : Nat) : Int) := by omega
    have hls := hl s hs
    rw [L_M_partedSets_66_18, h3, if_neg (by rw [le32_iff] <;> omega), if_pos (by omega), Int.toNat_natCast, hv s hs, m_has hD (by omega) (by omega), pbI_rI, ite01]
    cases hb2 : (sv s).testBit k with
    | false =>
      have e2 : pdF (M 66) (sv s) (k + 1) = pdF (M 66) (sv s) k := by
        show (pdF (M 66) (sv s) k || ((sv s).testBit k && _)) = _
        rw [hb2, Bool.false_and, Bool.or_false]
      rw [if_neg (by decide), e1, ← e2]
      exact ih (k + 1) (by omega)
    | true =>
      have h0 : sv s ≠ 0 := fun z => by rw [z, Nat.zero_testBit] at hb2; cases hb2
      have hf : fst1 (sv s) < 10 := by
        unfold fst1
        rw [if_neg h0]
        have := ntz_lt hls h0
        omega
      rw [if_pos rfl, if_pos (by omega), if_pos (by omega), Int.toNat_natCast, Int.toNat_natCast]
      by_cases q : eq32 (M 66 k) (M 66 (fst1 (sv s)))
      · have e2 : pdF (M 66) (sv s) (k + 1) = pdF (M 66) (sv s) k := by
          show (pdF (M 66) (sv s) k || ((sv s).testBit k && !decide (eq32 (M 66 k) (M 66 (fst1 (sv s)))))) = _
          rw [decide_eq_true q, Bool.not_true, Bool.and_false, Bool.or_false]
        rw [if_pos q, e1, ← e2]
        exact ih (k + 1) (by omega)
      · have e2 : pdF (M 66) (sv s) (k + 1) = true := by
          show (pdF (M 66) (sv s) k || ((sv s).testBit k && !decide (eq32 (M 66 k) (M 66 (fst1 (sv s)))))) = _
          rw [decide_eq_false q, hb2]
          cases pdF (M 66) (sv s) k <;> rfl
        rw [if_neg q, pdV_or (by omega) hb, e1, ← e2]
        exact ih (k + 1) (by omega)
theorem m_parted_66 (hd : 2 ≤ d) (h : FCx M S T sv) : xF d 210 [.inr 62, .inr 68] M = rI (bitsOf (fun s => pdF (M 66) (sv s) T) S : Nat) M := by
  obtain ⟨D, rfl, hD⟩ := dsucc hd
  have key : ∀ m s (y4 y5 : pV), s + m = S → xE D 210 4 [.inr 62, .inr 68, .inl (bitsOf (fun s => pdF (M 66) (sv s) T) s : Nat), .inl (s : Int), y4, y5] [] M = rI (bitsOf (fun s => pdF (M 66) (sv s) T) S : Nat) M := by
    intro m
    induction m with
    | zero =>
      intro s y4 y5 hs
      have := h.2.1
      rw [L_M_partedSets_66_4, h.1, if_pos (by rw [le32_iff] <;> omega), show s = S by omega]
    | succ m ih =>
      intro s y4 y5 hs
      have h8 := h.2.1
      have hls := h.2.2.2.2.2 s (by omega)
      have e1 : ((s : Int) + 1) = ((s + 1 : Nat) : Int) := by omega
      have hb := bitsOf_lt (fun s => pdF (M 66) (sv s) T) s
      rw [L_M_partedSets_66_4, h.1, if_neg (by rw [le32_iff] <;> omega), if_pos (by omega), Int.toNat_natCast, h.2.2.2.2.1 s (by omega), show (1024 : Int) = ((1024 : Nat) : Int) from rfl, jor_nat (by omega) (by omega), j_ntz2 hD hls, pbI_rI]
      have := m_pd18_66 hD h (s := s) (by omega) hb T 0 (by omega)
      rw [show pdV (bitsOf (fun s => pdF (M 66) (sv s) T) s) s (pdF (M 66) (sv s) 0) = (bitsOf (fun s => pdF (M 66) (sv s) T) s : Nat) from rfl] at this
      rw [show (.inl 0 : pV) = .inl ((0 : Nat) : Int) from rfl, this, e1]
      exact ih (s + 1) _ _ (by omega)
  rw [T_M_partedSets_66]
  exact key S 0 _ _ (by omega)
theorem m_freeIn_66 (hd : 1 ≤ d) (h3 : M 60 3 = (T : Int)) (hT : T ≤ 10) {r : Int} (hr : 0 ≤ r ∧ r < 6) : xF d 198 [.inr 62, .inr 68, .inl r] M = rI (frF M (M 66) r T) M := by
  obtain ⟨D, rfl, hD⟩ := dsucc hd
  have key : ∀ m k, k + m = T → xE D 198 7 [.inr 62, .inr 68, .inl r, .inl (frF M (M 66) r k), .inl (k : Int)] [] M = rI (frF M (M 66) r T) M := by
    intro m
    induction m with
    | zero =>
      intro k hk
      rw [L_M_freeIn_66_7, h3, if_pos (by rw [le32_iff] <;> omega), show k = T by omega]
    | succ m ih =>
      intro k hk
      have e1 : ((k : Int) + 1) = ((k + 1 : Nat) : Int) := by omega
      rw [L_M_freeIn_66_7, h3, if_neg (by rw [le32_iff] <;> omega), if_pos (by omega), Int.toNat_natCast]
      by_cases q : eq32 (M 66 k) r
      · have e2 : frF M (M 66) r (k + 1) = frF M (M 66) r k - M 63 k := if_pos q
        rw [if_neg (fun z => z q), if_pos (by omega), e1, ← e2]
        exact ih (k + 1) (by omega)
      · have e2 : frF M (M 66) r (k + 1) = frF M (M 66) r k - 0 := if_neg q
        rw [if_pos q, e1, ← e2]
        exact ih (k + 1) (by omega)
  rw [T_M_freeIn_66, if_pos hr]
  exact key T 0 (by omega)
theorem m_full_66 (hd : 2 ≤ d) (h3 : M 60 3 = (T : Int)) (hT : T ≤ 10) {N : Nat} (h0 : M 60 0 = (N : Int)) (hN : N ≤ 6) : xF d 211 [.inr 62, .inr 68] M = rI (bitsOf (fun r => decide (¬ le32 0 (frF M (M 66) r T))) N : Nat) M := by
  obtain ⟨D, rfl, hD⟩ := dsucc hd
  have key : ∀ m r, r + m = N → xE D 211 4 [.inr 62, .inr 68, .inl (bitsOf (fun r => decide (¬ le32 0 (frF M (M 66) r T))) r : Nat), .inl (r : Int)] [] M = rI (bitsOf (fun r => decide (¬ le32 0 (frF M (M 66) r T))) N : Nat) M := by
    intro m
    induction m with
    | zero =>
      intro r hr
      rw [L_M_fullRooms_66_4, h0, if_pos (by rw [le32_iff] <;> omega), show r = N by omega]
    | succ m ih =>
      intro r hr
      have e1 : ((r : Int) + 1) = ((r + 1 : Nat) : Int) := by omega
      have hb := bitsOf_lt (fun r => decide (¬ le32 0 (frF M (M 66) r T))) r
      have hb2 : 2 ^ r < 64 := show 2 ^ r < 2 ^ 6 from Nat.pow_lt_pow_right (by decide) (by omega)
      rw [L_M_fullRooms_66_4, h0, if_neg (by rw [le32_iff] <;> omega), m_freeIn_66 hD h3 hT (by omega), pbI_rI]
      by_cases q : le32 0 (frF M (M 66) r T)
      · have e2 : bitsOf (fun r => decide (¬ le32 0 (frF M (M 66) r T))) (r + 1) = bitsOf (fun r => decide (¬ le32 0 (frF M (M 66) r T))) r := if_neg (by simpa using q)
        rw [if_pos q, jor_0 (by omega), e1, ← e2]
        exact ih (r + 1) (by omega)
      · have e2 : bitsOf (fun r => decide (¬ le32 0 (frF M (M 66) r T))) (r + 1) = bitsOf (fun r => decide (¬ le32 0 (frF M (M 66) r T))) r ||| 2 ^ r := if_pos (by simpa using q)
        rw [if_neg q, jor_shl hb (by omega), e1, ← e2]
        exact ih (r + 1) (by omega)
  rw [T_M_fullRooms_66]
  exact key N 0 (by omega)
theorem m_pd18_78 (hD : 1 ≤ D) (h : FCx M S T sv) {s b : Nat} (hs : s < S) (hb : b < 2 ^ s) : ∀ m k, k + m = T → xE D 210 18 [.inr 62, .inr 80, .inl (pdV b s (pdF (M 78) (sv s) k)), .inl (s : Int), .inl (fst1 (sv s) : Nat), .inl (k : Int)] [] M = xE D 210 4 [.inr 62, .inr 80, .inl (pdV b s (pdF (M 78) (sv s) T)), .inl ((s : Int) + 1), .inl (fst1 (sv s) : Nat), .inl (T : Int)] [] M := by
  obtain ⟨h8, hS, h3, hT, hv, hl⟩ := h
  intro m
  induction m with
  | zero =>
    intro k hk
    rw [L_M_partedSets_78_18, h3, if_pos (by rw [le32_iff] <;> omega), show k = T by omega]
  | succ m ih =>
    intro k hk
    have e1 : ((k : Int) + 1) = ((k + 1 : Nat) : Int) := by omega
    have hls := hl s hs
    rw [L_M_partedSets_78_18, h3, if_neg (by rw [le32_iff] <;> omega), if_pos (by omega), Int.toNat_natCast, hv s hs, m_has hD (by omega) (by omega), pbI_rI, ite01]
    cases hb2 : (sv s).testBit k with
    | false =>
      have e2 : pdF (M 78) (sv s) (k + 1) = pdF (M 78) (sv s) k := by
        show (pdF (M 78) (sv s) k || ((sv s).testBit k && _)) = _
        rw [hb2, Bool.false_and, Bool.or_false]
      rw [if_neg (by decide), e1, ← e2]
      exact ih (k + 1) (by omega)
    | true =>
      have h0 : sv s ≠ 0 := fun z => by rw [z, Nat.zero_testBit] at hb2; cases hb2
      have hf : fst1 (sv s) < 10 := by
        unfold fst1
        rw [if_neg h0]
        have := ntz_lt hls h0
        omega
      rw [if_pos rfl, if_pos (by omega), if_pos (by omega), Int.toNat_natCast, Int.toNat_natCast]
      by_cases q : eq32 (M 78 k) (M 78 (fst1 (sv s)))
      · have e2 : pdF (M 78) (sv s) (k + 1) = pdF (M 78) (sv s) k := by
          show (pdF (M 78) (sv s) k || ((sv s).testBit k && !decide (eq32 (M 78 k) (M 78 (fst1 (sv s)))))) = _
          rw [decide_eq_true q, Bool.not_true, Bool.and_false, Bool.or_false]
        rw [if_pos q, e1, ← e2]
        exact ih (k + 1) (by omega)
      · have e2 : pdF (M 78) (sv s) (k + 1) = true := by
          show (pdF (M 78) (sv s) k || ((sv s).testBit k && !decide (eq32 (M 78 k) (M 78 (fst1 (sv s)))))) = _
          rw [decide_eq_false q, hb2]
          cases pdF (M 78) (sv s) k <;> rfl
        rw [if_neg q, pdV_or (by omega) hb, e1, ← e2]
        exact ih (k + 1) (by omega)
theorem m_parted_78 (hd : 2 ≤ d) (h : FCx M S T sv) : xF d 210 [.inr 62, .inr 80] M = rI (bitsOf (fun s => pdF (M 78) (sv s) T) S : Nat) M := by
  obtain ⟨D, rfl, hD⟩ := dsucc hd
  have key : ∀ m s (y4 y5 : pV), s + m = S → xE D 210 4 [.inr 62, .inr 80, .inl (bitsOf (fun s => pdF (M 78) (sv s) T) s : Nat), .inl (s : Int), y4, y5] [] M = rI (bitsOf (fun s => pdF (M 78) (sv s) T) S : Nat) M := by
    intro m
    induction m with
    | zero =>
      intro s y4 y5 hs
      have := h.2.1
      rw [L_M_partedSets_78_4, h.1, if_pos (by rw [le32_iff] <;> omega), show s = S by omega]
    | succ m ih =>
      intro s y4 y5 hs
      have h8 := h.2.1
      have hls := h.2.2.2.2.2 s (by omega)
      have e1 : ((s : Int) + 1) = ((s + 1 : Nat) : Int) := by omega
      have hb := bitsOf_lt (fun s => pdF (M 78) (sv s) T) s
      rw [L_M_partedSets_78_4, h.1, if_neg (by rw [le32_iff] <;> omega), if_pos (by omega), Int.toNat_natCast, h.2.2.2.2.1 s (by omega), show (1024 : Int) = ((1024 : Nat) : Int) from rfl, jor_nat (by omega) (by omega), j_ntz2 hD hls, pbI_rI]
      have := m_pd18_78 hD h (s := s) (by omega) hb T 0 (by omega)
      rw [show pdV (bitsOf (fun s => pdF (M 78) (sv s) T) s) s (pdF (M 78) (sv s) 0) = (bitsOf (fun s => pdF (M 78) (sv s) T) s : Nat) from rfl] at this
      rw [show (.inl 0 : pV) = .inl ((0 : Nat) : Int) from rfl, this, e1]
      exact ih (s + 1) _ _ (by omega)
  rw [T_M_partedSets_78]
  exact key S 0 _ _ (by omega)
theorem m_freeIn_78 (hd : 1 ≤ d) (h3 : M 60 3 = (T : Int)) (hT : T ≤ 10) {r : Int} (hr : 0 ≤ r ∧ r < 6) : xF d 198 [.inr 62, .inr 80, .inl r] M = rI (frF M (M 78) r T) M := by
  obtain ⟨D, rfl, hD⟩ := dsucc hd
  have key : ∀ m k, k + m = T → xE D 198 7 [.inr 62, .inr 80, .inl r, .inl (frF M (M 78) r k), .inl (k : Int)] [] M = rI (frF M (M 78) r T) M := by
    intro m
    induction m with
    | zero =>
      intro k hk
      rw [L_M_freeIn_78_7, h3, if_pos (by rw [le32_iff] <;> omega), show k = T by omega]
    | succ m ih =>
      intro k hk
      have e1 : ((k : Int) + 1) = ((k + 1 : Nat) : Int) := by omega
      rw [L_M_freeIn_78_7, h3, if_neg (by rw [le32_iff] <;> omega), if_pos (by omega), Int.toNat_natCast]
      by_cases q : eq32 (M 78 k) r
      · have e2 : frF M (M 78) r (k + 1) = frF M (M 78) r k - M 63 k := if_pos q
        rw [if_neg (fun z => z q), if_pos (by omega), e1, ← e2]
        exact ih (k + 1) (by omega)
      · have e2 : frF M (M 78) r (k + 1) = frF M (M 78) r k - 0 := if_neg q
        rw [if_pos q, e1, ← e2]
        exact ih (k + 1) (by omega)
  rw [T_M_freeIn_78, if_pos hr]
  exact key T 0 (by omega)
theorem m_full_78 (hd : 2 ≤ d) (h3 : M 60 3 = (T : Int)) (hT : T ≤ 10) {N : Nat} (h0 : M 60 0 = (N : Int)) (hN : N ≤ 6) : xF d 211 [.inr 62, .inr 80] M = rI (bitsOf (fun r => decide (¬ le32 0 (frF M (M 78) r T))) N : Nat) M := by
  obtain ⟨D, rfl, hD⟩ := dsucc hd
  have key : ∀ m r, r + m = N → xE D 211 4 [.inr 62, .inr 80, .inl (bitsOf (fun r => decide (¬ le32 0 (frF M (M 78) r T))) r : Nat), .inl (r : Int)] [] M = rI (bitsOf (fun r => decide (¬ le32 0 (frF M (M 78) r T))) N : Nat) M := by
    intro m
    induction m with
    | zero =>
      intro r hr
      rw [L_M_fullRooms_78_4, h0, if_pos (by rw [le32_iff] <;> omega), show r = N by omega]
    | succ m ih =>
      intro r hr
      have e1 : ((r : Int) + 1) = ((r + 1 : Nat) : Int) := by omega
      have hb := bitsOf_lt (fun r => decide (¬ le32 0 (frF M (M 78) r T))) r
      have hb2 : 2 ^ r < 64 := show 2 ^ r < 2 ^ 6 from Nat.pow_lt_pow_right (by decide) (by omega)
      rw [L_M_fullRooms_78_4, h0, if_neg (by rw [le32_iff] <;> omega), m_freeIn_78 hD h3 hT (by omega), pbI_rI]
      by_cases q : le32 0 (frF M (M 78) r T)
      · have e2 : bitsOf (fun r => decide (¬ le32 0 (frF M (M 78) r T))) (r + 1) = bitsOf (fun r => decide (¬ le32 0 (frF M (M 78) r T))) r := if_neg (by simpa using q)
        rw [if_pos q, jor_0 (by omega), e1, ← e2]
        exact ih (r + 1) (by omega)
      · have e2 : bitsOf (fun r => decide (¬ le32 0 (frF M (M 78) r T))) (r + 1) = bitsOf (fun r => decide (¬ le32 0 (frF M (M 78) r T))) r ||| 2 ^ r := if_pos (by simpa using q)
        rw [if_neg q, jor_shl hb (by omega), e1, ← e2]
        exact ih (r + 1) (by omega)
  rw [T_M_fullRooms_78]
  exact key N 0 (by omega)
theorem m_pd18_81 (hD : 1 ≤ D) (h : FCx M S T sv) {s b : Nat} (hs : s < S) (hb : b < 2 ^ s) : ∀ m k, k + m = T → xE D 210 18 [.inr 62, .inr 83, .inl (pdV b s (pdF (M 81) (sv s) k)), .inl (s : Int), .inl (fst1 (sv s) : Nat), .inl (k : Int)] [] M = xE D 210 4 [.inr 62, .inr 83, .inl (pdV b s (pdF (M 81) (sv s) T)), .inl ((s : Int) + 1), .inl (fst1 (sv s) : Nat), .inl (T : Int)] [] M := by
  obtain ⟨h8, hS, h3, hT, hv, hl⟩ := h
  intro m
  induction m with
  | zero =>
    intro k hk
    rw [L_M_partedSets_81_18, h3, if_pos (by rw [le32_iff] <;> omega), show k = T by omega]
  | succ m ih =>
    intro k hk
    have e1 : ((k : Int) + 1) = ((k + 1 : Nat) : Int) := by omega
    have hls := hl s hs
    rw [L_M_partedSets_81_18, h3, if_neg (by rw [le32_iff] <;> omega), if_pos (by omega), Int.toNat_natCast, hv s hs, m_has hD (by omega) (by omega), pbI_rI, ite01]
    cases hb2 : (sv s).testBit k with
    | false =>
      have e2 : pdF (M 81) (sv s) (k + 1) = pdF (M 81) (sv s) k := by
        show (pdF (M 81) (sv s) k || ((sv s).testBit k && _)) = _
        rw [hb2, Bool.false_and, Bool.or_false]
      rw [if_neg (by decide), e1, ← e2]
      exact ih (k + 1) (by omega)
    | true =>
      have h0 : sv s ≠ 0 := fun z => by rw [z, Nat.zero_testBit] at hb2; cases hb2
      have hf : fst1 (sv s) < 10 := by
        unfold fst1
        rw [if_neg h0]
        have := ntz_lt hls h0
        omega
      rw [if_pos rfl, if_pos (by omega), if_pos (by omega), Int.toNat_natCast, Int.toNat_natCast]
      by_cases q : eq32 (M 81 k) (M 81 (fst1 (sv s)))
      · have e2 : pdF (M 81) (sv s) (k + 1) = pdF (M 81) (sv s) k := by
          show (pdF (M 81) (sv s) k || ((sv s).testBit k && !decide (eq32 (M 81 k) (M 81 (fst1 (sv s)))))) = _
          rw [decide_eq_true q, Bool.not_true, Bool.and_false, Bool.or_false]
        rw [if_pos q, e1, ← e2]
        exact ih (k + 1) (by omega)
      · have e2 : pdF (M 81) (sv s) (k + 1) = true := by
          show (pdF (M 81) (sv s) k || ((sv s).testBit k && !decide (eq32 (M 81 k) (M 81 (fst1 (sv s)))))) = _
          rw [decide_eq_false q, hb2]
          cases pdF (M 81) (sv s) k <;> rfl
        rw [if_neg q, pdV_or (by omega) hb, e1, ← e2]
        exact ih (k + 1) (by omega)
theorem m_parted_81 (hd : 2 ≤ d) (h : FCx M S T sv) : xF d 210 [.inr 62, .inr 83] M = rI (bitsOf (fun s => pdF (M 81) (sv s) T) S : Nat) M := by
  obtain ⟨D, rfl, hD⟩ := dsucc hd
  have key : ∀ m s (y4 y5 : pV), s + m = S → xE D 210 4 [.inr 62, .inr 83, .inl (bitsOf (fun s => pdF (M 81) (sv s) T) s : Nat), .inl (s : Int), y4, y5] [] M = rI (bitsOf (fun s => pdF (M 81) (sv s) T) S : Nat) M := by
    intro m
    induction m with
    | zero =>
      intro s y4 y5 hs
      have := h.2.1
      rw [L_M_partedSets_81_4, h.1, if_pos (by rw [le32_iff] <;> omega), show s = S by omega]
    | succ m ih =>
      intro s y4 y5 hs
      have h8 := h.2.1
      have hls := h.2.2.2.2.2 s (by omega)
      have e1 : ((s : Int) + 1) = ((s + 1 : Nat) : Int) := by omega
      have hb := bitsOf_lt (fun s => pdF (M 81) (sv s) T) s
      rw [L_M_partedSets_81_4, h.1, if_neg (by rw [le32_iff] <;> omega), if_pos (by omega), Int.toNat_natCast, h.2.2.2.2.1 s (by omega), show (1024 : Int) = ((1024 : Nat) : Int) from rfl, jor_nat (by omega) (by omega), j_ntz2 hD hls, pbI_rI]
      have := m_pd18_81 hD h (s := s) (by omega) hb T 0 (by omega)
      rw [show pdV (bitsOf (fun s => pdF (M 81) (sv s) T) s) s (pdF (M 81) (sv s) 0) = (bitsOf (fun s => pdF (M 81) (sv s) T) s : Nat) from rfl] at this
      rw [show (.inl 0 : pV) = .inl ((0 : Nat) : Int) from rfl, this, e1]
      exact ih (s + 1) _ _ (by omega)
  rw [T_M_partedSets_81]
  exact key S 0 _ _ (by omega)
theorem m_freeIn_81 (hd : 1 ≤ d) (h3 : M 60 3 = (T : Int)) (hT : T ≤ 10) {r : Int} (hr : 0 ≤ r ∧ r < 6) : xF d 198 [.inr 62, .inr 83, .inl r] M = rI (frF M (M 81) r T) M := by
  obtain ⟨D, rfl, hD⟩ := dsucc hd
  have key : ∀ m k, k + m = T → xE D 198 7 [.inr 62, .inr 83, .inl r, .inl (frF M (M 81) r k), .inl (k : Int)] [] M = rI (frF M (M 81) r T) M := by
    intro m
    induction m with
    | zero =>
      intro k hk
      rw [L_M_freeIn_81_7, h3, if_pos (by rw [le32_iff] <;> omega), show k = T by omega]
    | succ m ih =>
      intro k hk
      have e1 : ((k : Int) + 1) = ((k + 1 : Nat) : Int) := by omega
      rw [L_M_freeIn_81_7, h3, if_neg (by rw [le32_iff] <;> omega), if_pos (by omega), Int.toNat_natCast]
      by_cases q : eq32 (M 81 k) r
      · have e2 : frF M (M 81) r (k + 1) = frF M (M 81) r k - M 63 k := if_pos q
        rw [if_neg (fun z => z q), if_pos (by omega), e1, ← e2]
        exact ih (k + 1) (by omega)
      · have e2 : frF M (M 81) r (k + 1) = frF M (M 81) r k - 0 := if_neg q
        rw [if_pos q, e1, ← e2]
        exact ih (k + 1) (by omega)
  rw [T_M_freeIn_81, if_pos hr]
  exact key T 0 (by omega)
theorem m_full_81 (hd : 2 ≤ d) (h3 : M 60 3 = (T : Int)) (hT : T ≤ 10) {N : Nat} (h0 : M 60 0 = (N : Int)) (hN : N ≤ 6) : xF d 211 [.inr 62, .inr 83] M = rI (bitsOf (fun r => decide (¬ le32 0 (frF M (M 81) r T))) N : Nat) M := by
  obtain ⟨D, rfl, hD⟩ := dsucc hd
  have key : ∀ m r, r + m = N → xE D 211 4 [.inr 62, .inr 83, .inl (bitsOf (fun r => decide (¬ le32 0 (frF M (M 81) r T))) r : Nat), .inl (r : Int)] [] M = rI (bitsOf (fun r => decide (¬ le32 0 (frF M (M 81) r T))) N : Nat) M := by
    intro m
    induction m with
    | zero =>
      intro r hr
      rw [L_M_fullRooms_81_4, h0, if_pos (by rw [le32_iff] <;> omega), show r = N by omega]
    | succ m ih =>
      intro r hr
      have e1 : ((r : Int) + 1) = ((r + 1 : Nat) : Int) := by omega
      have hb := bitsOf_lt (fun r => decide (¬ le32 0 (frF M (M 81) r T))) r
      have hb2 : 2 ^ r < 64 := show 2 ^ r < 2 ^ 6 from Nat.pow_lt_pow_right (by decide) (by omega)
      rw [L_M_fullRooms_81_4, h0, if_neg (by rw [le32_iff] <;> omega), m_freeIn_81 hD h3 hT (by omega), pbI_rI]
      by_cases q : le32 0 (frF M (M 81) r T)
      · have e2 : bitsOf (fun r => decide (¬ le32 0 (frF M (M 81) r T))) (r + 1) = bitsOf (fun r => decide (¬ le32 0 (frF M (M 81) r T))) r := if_neg (by simpa using q)
        rw [if_pos q, jor_0 (by omega), e1, ← e2]
        exact ih (r + 1) (by omega)
      · have e2 : bitsOf (fun r => decide (¬ le32 0 (frF M (M 81) r T))) (r + 1) = bitsOf (fun r => decide (¬ le32 0 (frF M (M 81) r T))) r ||| 2 ^ r := if_pos (by simpa using q)
        rw [if_neg q, jor_shl hb (by omega), e1, ← e2]
        exact ih (r + 1) (by omega)
  rw [T_M_fullRooms_81]
  exact key N 0 (by omega)
end MP
