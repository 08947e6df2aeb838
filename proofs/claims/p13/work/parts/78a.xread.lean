/-! the class's reader, sign by sign: the same states as the reference's (61a) -/
def ux (z : Int) : Int := if z < 0 then z + 256 else z
def hx (tx : Nat → Int) (st a : Nat) : Int := if a < st then ux (tx a) else -1
def XSt (tx : Nat → Int) (st : Nat) (M : pM) (s : rgs) : Prop := M 3 2 = (st : Int) ∧ st ≤ 76 ∧ (∀ i, i < 80 → M 2 i = ux (tx i)) ∧ (∀ i, i < 80 → -128 ≤ tx i ∧ tx i ≤ 127) ∧ 0 ≤ M 3 1 ∧ M 3 1 ≤ 80 ∧ (match s with
  | .inl p => M 3 3 = (p : Int) ∧ p ≤ 80
  | .inr a => M 3 1 = (a : Int) ∧ a ≤ st ∧ M 3 3 = -1)
/-- all but where the class's reader stands is the same -/
def AGx (M M' : pM) : Prop := ∀ o i, ¬ (o = 3 ∧ (i = 1 ∨ i = 3)) → M' o i = M o i
theorem AGx_rfl {M : pM} : AGx M M := fun _ _ _ => rfl
theorem AGx_tr {M M1 M2 : pM} (h1 : AGx M M1) (h2 : AGx M1 M2) : AGx M M2 := fun o i h => (h2 o i h).trans (h1 o i h)
theorem AGx_set {M M' : pM} (h : AGx M M') {k : Nat} {v : Int} (hk : k = 1 ∨ k = 3) : AGx M (pset M' 3 k v) := fun o i q => by
  unfold pset
  rw [if_neg (fun z => q ⟨z.1, by omega⟩)]
  exact h o i q
section XR
variable {tx : Nat → Int} {st d : Nat} {M : pM}
theorem hx_range {s : rgs} (h : XSt tx st M s) (a : Nat) : -1 ≤ hx tx st a ∧ hx tx st a ≤ 255 := by
  have h4 := h.2.2.2.1
  have h2 := h.2.1
  unfold hx ux
  by_cases q : a < st
  · have := h4 a (by omega)
    rw [if_pos q]; split <;> omega
  · rw [if_neg q]; omega
/-- a sign of 0 to 127 is the same on both sides -/
theorem hx_hc {s : rgs} (h : XSt tx st M s) {a : Nat} {lo hi : Int} (h1 : 0 ≤ lo) (h2 : hi ≤ 127) : (lo ≤ hx tx st a ∧ hx tx st a ≤ hi) ↔ (lo ≤ hc tx st a ∧ hc tx st a ≤ hi) := by
  have h4 := h.2.2.2.1
  have h3 := h.2.1
  unfold hx hc ux
  by_cases q : a < st
  · have := h4 a (by omega)
    rw [if_pos q, if_pos q]; split <;> omega
  · rw [if_neg q, if_neg q]
theorem hx_same {s : rgs} (h : XSt tx st M s) {a : Nat} (h1 : 0 ≤ hc tx st a) : hx tx st a = hc tx st a := by
  unfold hx
  unfold hc at h1 ⊢
  by_cases q : a < st
  · rw [if_pos q] at h1 ⊢
    rw [if_pos q]; unfold ux; rw [if_neg (by omega)]
  · rw [if_neg q, if_neg q]
theorem hx_is {s : rgs} (h : XSt tx st M s) {a : Nat} {c : Int} (h1 : 0 ≤ c) (h2 : c ≤ 127) : hx tx st a = c ↔ hc tx st a = c := by
  have := hx_hc h (a := a) h1 h2
  constructor
  · intro e
    have := this.mp ⟨by omega, by omega⟩; omega
  · intro e
    have := this.mpr ⟨by omega, by omega⟩; omega
theorem x_peekG (hd : 1 ≤ d) {a : Nat} (h : XSt tx st M (.inr a)) : xF d 133 [.inr 5] M = rI (hx tx st a) M := by
  obtain ⟨D, rfl, -⟩ := dsucc hd
  obtain ⟨h2, h3, h4, h5, h6, h7, h8, h9, h10⟩ := h
  rw [T_Reader_peek_3, h10, h8, h2, if_neg (fun z => z rfl), if_neg (by rw [lt32_iff] <;> omega)]
  unfold hx
  by_cases q : a < st
  · rw [if_neg (by rw [le32_iff] <;> omega), if_neg (by rw [le32_iff] <;> omega), if_pos (by omega), Int.toNat_natCast, h4 a (by omega), if_pos q]
  · rw [if_pos (by rw [le32_iff] <;> omega), if_neg q]
theorem x_peekB (hd : 1 ≤ d) {p : Nat} (h : XSt tx st M (.inl p)) : xF d 133 [.inr 5] M = rI (-1) M := by
  obtain ⟨D, rfl, -⟩ := dsucc hd
  obtain ⟨h2, h3, h4, h5, h6, h7, h8, h9⟩ := h
  rw [T_Reader_peek_3, h8, if_pos (by rw [eq32_iff] <;> omega)]
theorem x_goesG (hd : 1 ≤ d) {a : Nat} (h : XSt tx st M (.inr a)) : xF d 134 [.inr 5] M = rI (if a < st then 1 else 0) M := by
  obtain ⟨D, rfl, -⟩ := dsucc hd
  obtain ⟨h2, h3, h4, h5, h6, h7, h8, h9, h10⟩ := h
  rw [T_Reader_goesOn_3, h10, h8, h2, if_neg (fun z => z rfl)]
  by_cases q : a < st
  · rw [if_neg (by rw [le32_iff] <;> omega), if_pos q]
  · rw [if_pos (by rw [le32_iff] <;> omega), if_neg q]
theorem x_goesB (hd : 1 ≤ d) {p : Nat} (h : XSt tx st M (.inl p)) : xF d 134 [.inr 5] M = rI 0 M := by
  obtain ⟨D, rfl, -⟩ := dsucc hd
  obtain ⟨h2, h3, h4, h5, h6, h7, h8, h9⟩ := h
  rw [T_Reader_goesOn_3, h8, if_pos (by rw [eq32_iff] <;> omega)]
theorem x_failB (hd : 1 ≤ d) {p : Nat} (h : XSt tx st M (.inl p)) (v : Int) : xF d 135 [.inr 5, .inl v] M = rV M := by
  obtain ⟨D, rfl, -⟩ := dsucc hd
  obtain ⟨h2, h3, h4, h5, h6, h7, h8, h9⟩ := h
  rw [T_Reader_fail_3, h8, if_pos (by rw [eq32_iff] <;> omega)]
theorem x_failG (hd : 1 ≤ d) {a : Nat} (h : XSt tx st M (.inr a)) {p : Nat} (hp : p ≤ 80) : xF d 135 [.inr 5, .inl (p : Int)] M = rV (pset M 3 3 p) ∧ XSt tx st (pset M 3 3 p) (.inl p) := by
  obtain ⟨D, rfl, -⟩ := dsucc hd
  obtain ⟨h2, h3, h4, h5, h6, h7, h8, h9, h10⟩ := h
  rw [T_Reader_fail_3, h10, if_neg (fun z => z rfl)]
  exact ⟨rfl, by rw [pset_ne2 (by decide)]; exact h2, h3, fun i hi => by rw [pset_ne (by decide)]; exact h4 i hi, h5, by rw [pset_ne2 (by decide)]; exact h6, by rw [pset_ne2 (by decide)]; exact h7, pset_eq, hp⟩
theorem XSt_next {a : Nat} (h : XSt tx st M (.inr a)) (ha : a < st) : XSt tx st (pset M 3 1 ((a : Int) + 1)) (.inr (a + 1)) := by
  obtain ⟨h2, h3, h4, h5, h6, h7, h8, h9, h10⟩ := h
  exact ⟨by rw [pset_ne2 (by decide)]; exact h2, h3, fun i hi => by rw [pset_ne (by decide)]; exact h4 i hi, h5, by rw [pset_eq]; omega, by rw [pset_eq]; omega, by rw [pset_eq]; omega, by omega, by rw [pset_ne2 (by decide)]; exact h10⟩
theorem XSt_at {a : Nat} (h : XSt tx st M (.inr a)) : M 3 1 = (a : Int) := h.2.2.2.2.2.2.1
theorem x_take (hd : 2 ≤ d) {s : rgs} (h : XSt tx st M s) {c : Int} (hc0 : 0 ≤ c) (hc1 : c ≤ 127) : ∃ M', xF d 137 [.inr 5, .inl c] M = rV M' ∧ XSt tx st M' (sgN tx st c s) ∧ AGx M M' := by
  obtain ⟨D, rfl, hD⟩ := dsucc hd
  rw [T_Reader_take_3]
  cases s with
  | inl p =>
    have h8 := h.2.2.2.2.2.2.1
    have h9 := h.2.2.2.2.2.2.2
    rw [h8, if_pos (by rw [eq32_iff] <;> omega), x_failB (by omega) h, pbN_rV]
    exact ⟨M, rfl, h, AGx_rfl⟩
  | inr a =>
    have h10 := h.2.2.2.2.2.2.2.2
    have ha := h.2.2.2.2.2.2.2.1
    have hr := hx_range h a
    have h3 := h.2.1
    rw [h10, if_neg (fun z => z rfl), x_peekG (by omega) h, pbI_rI, XSt_at h]
    show ∃ M', _ ∧ XSt tx st M' (if hc tx st a = c then .inr (a + 1) else .inl a) ∧ AGx M M'
    by_cases q : hc tx st a = c
    · have q2 := (hx_is h hc0 hc1).mpr q
      have hl : a < st := hc_lt (tx := tx) (st := st) (by rw [q]; omega)
      rw [if_neg (fun z => z (by rw [q2])), if_pos q]
      exact ⟨_, rfl, XSt_next h hl, AGx_set AGx_rfl (Or.inl rfl)⟩
    · have q2 : hx tx st a ≠ c := fun z => q ((hx_is h hc0 hc1).mp z)
      obtain ⟨e, r⟩ := x_failG (d := D) (by omega) h (p := a) (by omega)
      rw [if_pos (by rw [eq32_iff] <;> omega), e, pbN_rV, if_neg q]
      exact ⟨_, rfl, r, AGx_set AGx_rfl (Or.inr rfl)⟩
/-- a digit of lo to hi: what it is when all is good -/
theorem x_digit (hd : 3 ≤ d) {s : rgs} (h : XSt tx st M s) {lo hi : Int} (h1 : 0 ≤ lo) (h2 : lo ≤ 9) (h3 : -1 ≤ hi) (h4 : hi ≤ 9) : ∃ v M', xF d 139 [.inr 5, .inl lo, .inl (hi + 1)] M = rI v M' ∧ XSt tx st M' (sgD tx st lo hi s) ∧ AGx M M' ∧ (-1 ≤ v ∧ v ≤ 9) ∧ (∀ b, sgD tx st lo hi s = .inr b → v = sgV tx st lo hi s) ∧ (∀ p, sgD tx st lo hi s = .inl p → v = -1) := by
  obtain ⟨D, rfl, hD⟩ := dsucc hd
  obtain ⟨D', rfl, hD'⟩ := dsucc (show 1 ≤ D by omega)
  rw [T_Reader_digit_3]
  cases s with
  | inl p =>
    rw [x_peekB (by omega) h, pbI_rI, T_Reader_counted_3, if_pos (by rw [lt32_iff] <;> omega), x_failB (by omega) h, pbN_rV, pbI_rI]
    exact ⟨_, M, rfl, h, AGx_rfl, by decide, fun b hb => (by cases hb), fun _ _ => rfl⟩
  | inr a =>
    have ha := h.2.2.2.2.2.2.2.1
    have hr := hx_range h a
    have hst := h.2.1
    rw [x_peekG (by omega) h, pbI_rI, T_Reader_counted_3, XSt_at h]
    show ∃ v M', _ ∧ XSt tx st M' (if 48 ≤ hc tx st a ∧ hc tx st a ≤ 57 ∧ lo ≤ hc tx st a - 48 ∧ hc tx st a - 48 ≤ hi then .inr (a + 1) else .inl a) ∧ AGx M M' ∧ (-1 ≤ v ∧ v ≤ 9) ∧ (∀ b, (if 48 ≤ hc tx st a ∧ hc tx st a ≤ 57 ∧ lo ≤ hc tx st a - 48 ∧ hc tx st a - 48 ≤ hi then (.inr (a + 1) : rgs) else .inl a) = .inr b → v = if 48 ≤ hc tx st a ∧ hc tx st a ≤ 57 ∧ lo ≤ hc tx st a - 48 ∧ hc tx st a - 48 ≤ hi then hc tx st a - 48 else 0) ∧ (∀ p, (if 48 ≤ hc tx st a ∧ hc tx st a ≤ 57 ∧ lo ≤ hc tx st a - 48 ∧ hc tx st a - 48 ≤ hi then (.inr (a + 1) : rgs) else .inl a) = .inl p → v = -1)
    by_cases q : 48 ≤ hc tx st a ∧ hc tx st a ≤ 57 ∧ lo ≤ hc tx st a - 48 ∧ hc tx st a - 48 ≤ hi
    · have q2 := hx_same h (a := a) (by omega)
      have hl : a < st := hc_lt (tx := tx) (st := st) (by omega)
      rw [q2, if_neg (by rw [lt32_iff] <;> omega), if_pos (by rw [lt32_iff] <;> omega), pbI_rI, if_pos q, if_pos q]
      exact ⟨_, _, rfl, XSt_next h hl, AGx_set AGx_rfl (Or.inl rfl), by omega, fun _ _ => rfl, fun p hp => (by cases hp)⟩
    · have q2 : ¬ (lo + 48 ≤ hx tx st a ∧ hx tx st a ≤ hi + 48) := fun z => by
        have := (hx_hc h (a := a) (lo := lo + 48) (hi := hi + 48) (by omega) (by omega)).mp z
        omega
      obtain ⟨e, r⟩ := x_failG (d := D') (by omega) h (p := a) (by omega)
      rw [if_neg q, if_neg q]
      by_cases q3 : hx tx st a - 48 < lo
      · rw [if_pos (by rw [lt32_iff] <;> omega), e, pbN_rV, pbI_rI]
        exact ⟨_, _, rfl, r, AGx_set AGx_rfl (Or.inr rfl), by decide, fun b hb => (by cases hb), fun _ _ => rfl⟩
      · rw [if_neg (by rw [lt32_iff] <;> omega), if_neg (by rw [lt32_iff] <;> omega), e, pbN_rV, pbI_rI]
        exact ⟨_, _, rfl, r, AGx_set AGx_rfl (Or.inr rfl), by decide, fun b hb => (by cases hb), fun _ _ => rfl⟩
theorem x_seesG (hd : 2 ≤ d) {a : Nat} (h : XSt tx st M (.inr a)) : xF d 138 [.inr 5] M = rI (if 48 ≤ hc tx st a ∧ hc tx st a ≤ 57 then 1 else 0) M := by
  obtain ⟨D, rfl, hD⟩ := dsucc hd
  have hr := hx_range h a
  have e := hx_hc h (a := a) (lo := 48) (hi := 57) (by decide) (by decide)
  rw [T_Reader_seesDigit_3, x_peekG (by omega) h, pbI_rI]
  by_cases q : 48 ≤ hc tx st a ∧ hc tx st a ≤ 57
  · have := e.mpr q
    rw [if_neg (by rw [lt32_iff] <;> omega), if_neg (by rw [lt32_iff] <;> omega), if_pos q]
  · have q2 : ¬ (48 ≤ hx tx st a ∧ hx tx st a ≤ 57) := fun z => q (e.mp z)
    rw [if_neg q]
    by_cases q3 : hx tx st a < 48
    · rw [if_pos (by rw [lt32_iff] <;> omega)]
    · rw [if_neg (by rw [lt32_iff] <;> omega), if_pos (by rw [lt32_iff] <;> omega)]
theorem x_seesB (hd : 2 ≤ d) {p : Nat} (h : XSt tx st M (.inl p)) : xF d 138 [.inr 5] M = rI 0 M := by
  obtain ⟨D, rfl, hD⟩ := dsucc hd
  rw [T_Reader_seesDigit_3, x_peekB (by omega) h, pbI_rI, if_pos (by decide)]
/-- 1 or 2 digits, not 0 -/
theorem x_inches (hd : 4 ≤ d) {s : rgs} (h : XSt tx st M s) : ∃ v M', xF d 142 [.inr 5] M = rI v M' ∧ XSt tx st M' (sgI tx st s) ∧ AGx M M' ∧ (-11 ≤ v ∧ v ≤ 99) ∧ (∀ b, sgI tx st s = .inr b → v = sgIv tx st s) := by
  obtain ⟨D, rfl, hD⟩ := dsucc hd
  rw [T_Reader_inches]
  obtain ⟨v, M1, e1, r1, a1, b1, i1, j1⟩ := x_digit (d := D) (by omega) h (lo := 0) (hi := 9) (by decide) (by decide) (by decide) (by decide)
  have e1' : xF D 139 [.inr 5, .inl 0, .inl 10] M = rI v M1 := e1
  rw [e1', pbI_rI]
  cases s with
  | inl p =>
    have r1 : XSt tx st M1 (.inl p) := r1
    have := j1 p rfl
    rw [x_seesB (by omega) r1, pbI_rI, if_pos rfl, if_pos (by rw [eq32_iff] <;> omega)]
    exact ⟨_, M1, rfl, r1, a1, by omega, fun b hb => (by cases hb)⟩
  | inr a =>
    have g1 : sgD tx st 0 9 (.inr a) = if 48 ≤ hc tx st a ∧ hc tx st a ≤ 57 then .inr (a + 1) else .inl a := by
      show (if 48 ≤ hc tx st a ∧ hc tx st a ≤ 57 ∧ 0 ≤ hc tx st a - 48 ∧ hc tx st a - 48 ≤ 9 then (.inr (a + 1) : rgs) else .inl a) = _
      by_cases q : 48 ≤ hc tx st a ∧ hc tx st a ≤ 57
      · rw [if_pos q, if_pos (by omega)]
      · rw [if_neg q, if_neg (by omega)]
    have g2 : sgV tx st 0 9 (.inr a) = if 48 ≤ hc tx st a ∧ hc tx st a ≤ 57 then hc tx st a - 48 else 0 := by
      show (if 48 ≤ hc tx st a ∧ hc tx st a ≤ 57 ∧ 0 ≤ hc tx st a - 48 ∧ hc tx st a - 48 ≤ 9 then hc tx st a - 48 else 0) = _
      by_cases q : 48 ≤ hc tx st a ∧ hc tx st a ≤ 57
      · rw [if_pos q, if_pos (by omega)]
      · rw [if_neg q, if_neg (by omega)]
    rw [g1] at r1 i1 j1
    rw [g2] at i1
    show ∃ v M', _ ∧ XSt tx st M' (if 48 ≤ hc tx st a ∧ hc tx st a ≤ 57 then (if 48 ≤ hc tx st (a + 1) ∧ hc tx st (a + 1) ≤ 57 then (if 10 * (hc tx st a - 48) + (hc tx st (a + 1) - 48) = 0 then .inl (a + 1) else .inr (a + 2)) else (if hc tx st a - 48 = 0 then .inl a else .inr (a + 1))) else .inl a) ∧ AGx M M' ∧ (-11 ≤ v ∧ v ≤ 99) ∧ (∀ b, (if 48 ≤ hc tx st a ∧ hc tx st a ≤ 57 then (if 48 ≤ hc tx st (a + 1) ∧ hc tx st (a + 1) ≤ 57 then (if 10 * (hc tx st a - 48) + (hc tx st (a + 1) - 48) = 0 then (.inl (a + 1) : rgs) else .inr (a + 2)) else (if hc tx st a - 48 = 0 then .inl a else .inr (a + 1))) else .inl a) = .inr b → v = if 48 ≤ hc tx st a ∧ hc tx st a ≤ 57 then (if 48 ≤ hc tx st (a + 1) ∧ hc tx st (a + 1) ≤ 57 then 10 * (hc tx st a - 48) + (hc tx st (a + 1) - 48) else hc tx st a - 48) else 0)
    by_cases q : 48 ≤ hc tx st a ∧ hc tx st a ≤ 57
    · rw [if_pos q] at r1 i1 j1
      rw [if_pos q] at i1
      have hv := i1 (a + 1) rfl
      have hst := r1.2.1
      have ha1 := r1.2.2.2.2.2.2.2.1
      simp only [if_pos q]
      rw [x_seesG (by omega) r1, pbI_rI]
      by_cases q2 : 48 ≤ hc tx st (a + 1) ∧ hc tx st (a + 1) ≤ 57
      · obtain ⟨w, M2, e2, r2, a2, b2, i2, j2⟩ := x_digit (d := D) (by omega) r1 (lo := 0) (hi := 9) (by decide) (by decide) (by decide) (by decide)
        have e2' : xF D 139 [.inr 5, .inl 0, .inl 10] M1 = rI w M2 := e2
        have g3 : sgD tx st 0 9 (.inr (a + 1)) = .inr (a + 2) := if_pos ⟨q2.1, q2.2, by omega, by omega⟩
        have g4 : sgV tx st 0 9 (.inr (a + 1)) = hc tx st (a + 1) - 48 := if_pos ⟨q2.1, q2.2, by omega, by omega⟩
        rw [g3] at r2 i2
        have hw := i2 (a + 2) rfl
        rw [g4] at hw
        simp only [if_pos q2]
        rw [if_neg (by decide), e2', pbI_rI]
        by_cases q3 : 10 * (hc tx st a - 48) + (hc tx st (a + 1) - 48) = 0
        · obtain ⟨e, r⟩ := x_failG (d := D) (by omega) r2 (p := a + 1) (by omega)
          simp only [if_pos q3]
          rw [if_neg (fun z => z (by rw [eq32_iff] <;> omega)), XSt_at r2, show (((a + 2 : Nat) : Int) - 1) = ((a + 1 : Nat) : Int) by omega, e, pbN_rV]
          exact ⟨_, _, rfl, r, AGx_tr a1 (AGx_set a2 (Or.inr rfl)), by omega, fun b hb => (by cases hb)⟩
        · simp only [if_neg q3]
          rw [if_pos (by rw [eq32_iff] <;> omega)]
          exact ⟨_, _, rfl, r2, AGx_tr a1 a2, by omega, fun b _ => by omega⟩
      · simp only [if_neg q2]
        rw [if_pos trivial]
        by_cases q3 : hc tx st a - 48 = 0
        · obtain ⟨e, r⟩ := x_failG (d := D) (by omega) r1 (p := a) (by omega)
          simp only [if_pos q3]
          rw [if_neg (fun z => z (by rw [eq32_iff] <;> omega)), XSt_at r1, show (((a + 1 : Nat) : Int) - 1) = (a : Int) by omega, e, pbN_rV]
          exact ⟨_, _, rfl, r, AGx_set a1 (Or.inr rfl), by omega, fun b hb => (by cases hb)⟩
        · simp only [if_neg q3]
          rw [if_pos (by rw [eq32_iff] <;> omega)]
          exact ⟨_, _, rfl, r1, a1, by omega, fun b _ => by omega⟩
    · rw [if_neg q] at r1 j1
      have := j1 a rfl
      simp only [if_neg q]
      rw [x_seesB (by omega) r1, pbI_rI, if_pos rfl, if_pos (by rw [eq32_iff] <;> omega)]
      exact ⟨_, M1, rfl, r1, a1, by omega, fun b hb => (by cases hb)⟩
end XR
