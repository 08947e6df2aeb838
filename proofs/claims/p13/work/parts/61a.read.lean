/-! the reference reads signs, numbers -/
section RD
variable {tx : Nat → Int} {L top d : Nat} {M : pM}
theorem hc_range {s : rgs} (h : RSt tx L top M s) (a : Nat) : -128 ≤ hc tx (min L top) a ∧ hc tx (min L top) a ≤ 127 := by
  unfold hc
  by_cases q : a < min L top
  · rw [if_pos q]
    exact h.2.2.2.2.2.2.1 a (by have := h.2.2.2.1; omega)
  · rw [if_neg q]; omega
theorem m_here (hd : 1 ≤ d) {a : Nat} (h : RSt tx L top M (.inr a)) : xF d 178 [.inr 62] M = rI (hc tx (min L top) a) M := by
  obtain ⟨D, rfl, -⟩ := dsucc hd
  obtain ⟨h1, h2, h3, h4, h5, h6, h7, h8, h9, h10, h11, h12⟩ := h
  rw [T_M_here, h2, h3, h10]
  unfold hc
  by_cases q1 : L ≤ a
  · rw [if_pos (by rw [le32_iff] <;> omega), if_neg (by omega)]
  · rw [if_neg (by rw [le32_iff] <;> omega)]
    by_cases q2 : top ≤ a
    · rw [if_pos (by rw [le32_iff] <;> omega), if_neg (by omega)]
    · rw [if_neg (by rw [le32_iff] <;> omega), h1, show (70 : Int).toNat = 70 from rfl, m_here12, h10, if_pos (by omega), Int.toNat_natCast, h6 a (by omega), if_pos (by omega)]
theorem m_fineG (hd : 1 ≤ d) {a : Nat} (h : RSt tx L top M (.inr a)) : xF d 179 [.inr 62] M = rI 1 M := by
  obtain ⟨D, rfl, -⟩ := dsucc hd
  rw [T_M_fine, h.2.2.2.2.2.2.2.2.2.2.2, if_neg (fun z => z rfl)]
theorem m_fineB (hd : 1 ≤ d) {p : Nat} (h : RSt tx L top M (.inl p)) : xF d 179 [.inr 62] M = rI 0 M := by
  obtain ⟨D, rfl, -⟩ := dsucc hd
  have h2 := h.2.2.2.2.2.2.2.2.2.2
  rw [T_M_fine, h.2.2.2.2.2.2.2.2.2.1, if_pos (by rw [eq32_iff] <;> omega)]
theorem m_faultB (hd : 2 ≤ d) {p : Nat} (h : RSt tx L top M (.inl p)) (v : Int) : xF d 180 [.inr 62, .inl v] M = rV M := by
  obtain ⟨D, rfl, hD⟩ := dsucc hd
  rw [T_M_fault, m_fineB hD h, pbI_rI, if_pos rfl]
theorem m_faultG (hd : 2 ≤ d) {a : Nat} (h : RSt tx L top M (.inr a)) {p : Nat} (hp : p ≤ 80) : xF d 180 [.inr 62, .inl (p : Int)] M = rV (pset M 60 22 p) ∧ RSt tx L top (pset M 60 22 p) (.inl p) := by
  obtain ⟨D, rfl, hD⟩ := dsucc hd
  rw [T_M_fault, m_fineG hD h, pbI_rI, if_neg (by decide)]
  obtain ⟨h1, h2, h3, h4, h5, h6, h7, h8, h9, h10⟩ := h
  exact ⟨rfl, by rw [pset_ne2 (by decide)]; exact h1, by rw [pset_ne2 (by decide)]; exact h2, by rw [pset_ne2 (by decide)]; exact h3, h4, h5, fun i hi => by rw [pset_ne (by decide)]; exact h6 i hi, h7, by rw [pset_ne2 (by decide)]; exact h8, by rw [pset_ne2 (by decide)]; exact h9, pset_eq, hp⟩
theorem RSt_next {a : Nat} (h : RSt tx L top M (.inr a)) (ha : a < min L top) : RSt tx L top (pset M 60 21 ((a : Int) + 1)) (.inr (a + 1)) := by
  obtain ⟨h1, h2, h3, h4, h5, h6, h7, h8, h9, h10, h11, h12⟩ := h
  exact ⟨by rw [pset_ne2 (by decide)]; exact h1, by rw [pset_ne2 (by decide)]; exact h2, by rw [pset_ne2 (by decide)]; exact h3, h4, h5, fun i hi => by rw [pset_ne (by decide)]; exact h6 i hi, h7, by rw [pset_eq]; omega, by rw [pset_eq]; omega, by rw [pset_eq]; omega, by omega, by rw [pset_ne2 (by decide)]; exact h12⟩
/-- passes: 1 and on, or 0 -/
theorem m_passesG (hd : 2 ≤ d) {a : Nat} (h : RSt tx L top M (.inr a)) {c : Int} (hc0 : 0 ≤ c) (hc1 : c ≤ 127) : xF d 181 [.inr 62, .inl c] M = if hc tx (min L top) a = c then rI 1 (pset M 60 21 ((a : Int) + 1)) else rI 0 M := by
  obtain ⟨D, rfl, hD⟩ := dsucc hd
  have hr := hc_range h a
  rw [T_M_passes, m_fineG hD h, pbI_rI, if_neg (by decide), m_here hD h, pbI_rI, h.2.2.2.2.2.2.2.2.2.1]
  by_cases q : hc tx (min L top) a = c
  · rw [if_pos q, if_pos (by rw [q])]
  · rw [if_neg q, if_neg (by rw [eq32_iff] <;> omega)]
theorem m_passesB (hd : 2 ≤ d) {p : Nat} (h : RSt tx L top M (.inl p)) (c : Int) : xF d 181 [.inr 62, .inl c] M = rI 0 M := by
  obtain ⟨D, rfl, hD⟩ := dsucc hd
  rw [T_M_passes, m_fineB hD h, pbI_rI, if_pos rfl]
theorem m_need (hd : 3 ≤ d) {s : rgs} (h : RSt tx L top M s) {c : Int} (hc0 : 0 ≤ c) (hc1 : c ≤ 127) : ∃ M', xF d 182 [.inr 62, .inl c] M = rV M' ∧ RSt tx L top M' (sgN tx (min L top) c s) ∧ AGr M M' := by
  obtain ⟨D, rfl, hD⟩ := dsucc hd
  rw [T_M_need]
  cases s with
  | inl p =>
    rw [m_passesB hD h, pbI_rI, if_neg (fun z => z rfl), m_faultB hD h, pbN_rV]
    exact ⟨M, rfl, h, AGr_rfl⟩
  | inr a =>
    rw [m_passesG hD h hc0 hc1]
    by_cases q : hc tx (min L top) a = c
    · have ha : a < min L top := hc_lt (tx := tx) (st := min L top) (by rw [q]; omega)
      rw [if_pos q, pbI_rI, if_pos (by decide)]
      exact ⟨_, rfl, by
        show RSt tx L top _ (if hc tx (min L top) a = c then .inr (a + 1) else .inl a)
        rw [if_pos q]; exact RSt_next h ha, AGr_at AGr_rfl⟩
    · have h11 := h.2.2.2.2.2.2.2.2.2.2.1
      have h5 := h.2.2.2.2.1
      obtain ⟨e, r⟩ := m_faultG hD h (p := a) (by omega)
      rw [if_neg q, pbI_rI, if_neg (fun z => z rfl), h.2.2.2.2.2.2.2.2.2.1, e, pbN_rV]
      exact ⟨_, rfl, by
        show RSt tx L top _ (if hc tx (min L top) a = c then .inr (a + 1) else .inl a)
        rw [if_neg q]; exact r, AGr_bad AGr_rfl⟩
/-- the end of number: what was read is in range or not -/
theorem m_inD {v : Int} (hd : 1 ≤ d) (h1 : -1000 ≤ v) (h2 : v ≤ 1000) {lo hi : Int} (h3 : -1000 ≤ lo) (h4 : lo ≤ 1000) (h5 : -1000 ≤ hi) (h6 : hi ≤ 1000) : xF d 169 [.inl v, .inl lo, .inl hi] M = rI (if lo ≤ v ∧ v ≤ hi then 1 else 0) M := by
  have e1 : lt32 v lo ↔ v < lo := lt32_iff (by omega) (by omega) (by omega) (by omega)
  have e2 : lt32 hi v ↔ hi < v := lt32_iff (by omega) (by omega) (by omega) (by omega)
  rw [m_in hd]
  by_cases q : lo ≤ v ∧ v ≤ hi
  · rw [if_pos q, if_neg (fun z => z.elim (fun y => by have := e1.mp y; omega) (fun y => by have := e2.mp y; omega))]
  · rw [if_neg q]
    by_cases z : v < lo
    · rw [if_pos (Or.inl (e1.mpr z))]
    · rw [if_pos (Or.inr (e2.mpr (by omega)))]
/-- what is done with a number that has been read up to b, from a on -/
theorem m_nEnd (hD : 2 ≤ d) {a b : Nat} (hab : a < b) (h : RSt tx L top M (.inr b)) {v lo hi : Int} (h1 : -1000 ≤ v) (h2 : v ≤ 1000) (h3 : -1000 ≤ lo) (h4 : lo ≤ 1000) (h5 : -1000 ≤ hi) (h6 : hi ≤ 1000) : ∃ M', (if ¬ eq32 (M 60 21) (a : Int) then (pbI (xF d 169 [.inl v, .inl lo, .inl hi] M) fun v16 M15 => if ¬ eq32 v16 0 then (pbI (xF d 179 [.inr 62] M15) fun v18 M17 => if eq32 v18 0 then some (some (.inl 0), M17) else some (some (.inl v), M17)) else (pbN (xF d 180 [.inr 62, .inl ((M15 60 21) - 1)] M15) fun M19 => pbI (xF d 179 [.inr 62] M19) fun v21 M20 => if eq32 v21 0 then some (some (.inl 0), M20) else some (some (.inl v), M20))) else (pbN (xF d 180 [.inr 62, .inl (M 60 21)] M) fun M22 => pbI (xF d 179 [.inr 62] M22) fun v24 M23 => if eq32 v24 0 then some (some (.inl 0), M23) else some (some (.inl v), M23))) = rI (if lo ≤ v ∧ v ≤ hi then v else 0) M' ∧ RSt tx L top M' (if lo ≤ v ∧ v ≤ hi then .inr b else .inl (b - 1)) ∧ AGr M M' := by
  have h5' := h.2.2.2.2.1
  have h11 := h.2.2.2.2.2.2.2.2.2.2.1
  have hat := h.2.2.2.2.2.2.2.2.2.1
  rw [hat, if_pos (by rw [eq32_iff] <;> omega), m_inD (by omega) h1 h2 h3 h4 h5 h6, pbI_rI]
  by_cases q : lo ≤ v ∧ v ≤ hi
  · rw [if_pos q, if_pos (by decide), m_fineG (by omega) h, pbI_rI, if_neg (by decide), if_pos q, if_pos q]
    exact ⟨M, rfl, h, AGr_rfl⟩
  · obtain ⟨e, r⟩ := m_faultG hD h (p := b - 1) (by omega)
    rw [if_neg q, if_neg (fun z => z rfl), hat, show (b : Int) - 1 = ((b - 1 : Nat) : Int) by omega, e, pbN_rV, m_fineB (by omega) r, pbI_rI, if_pos rfl, if_neg q, if_neg q]
    exact ⟨_, rfl, r, AGr_bad AGr_rfl⟩
theorem m_num1 (hd : 3 ≤ d) {s : rgs} (h : RSt tx L top M s) {lo hi : Int} (h3 : 0 ≤ lo) (h4 : lo ≤ 9) (h5 : -1 ≤ hi) (h6 : hi ≤ 9) : ∃ M', xF d 183 [.inr 62, .inl 1, .inl lo, .inl hi] M = rI (sgV tx (min L top) lo hi s) M' ∧ RSt tx L top M' (sgD tx (min L top) lo hi s) ∧ AGr M M' := by
  obtain ⟨D, rfl, hD⟩ := dsucc hd
  rw [T_M_number]
  cases s with
  | inl p =>
    rw [m_fineB (by omega) h, pbI_rI, if_neg (fun z => z rfl)]
    exact ⟨M, rfl, h, AGr_rfl⟩
  | inr a =>
    have h11 := h.2.2.2.2.2.2.2.2.2.2.1
    have h5' := h.2.2.2.2.1
    have hat := h.2.2.2.2.2.2.2.2.2.1
    have hr := hc_range h a
    rw [m_fineG (by omega) h, pbI_rI, if_pos (by decide), hat, L_M_number_10, hat, if_neg (by rw [le32_iff] <;> omega), m_here (by omega) h, pbI_rI, m_inD (by omega) (by omega) (by omega) (by omega) (by omega) (by omega) (by omega), pbI_rI]
    by_cases q : 48 ≤ hc tx (min L top) a ∧ hc tx (min L top) a ≤ 57
    · have ha : a < min L top := hc_lt (tx := tx) (st := min L top) (by omega)
      have r1 := RSt_next h ha
      rw [if_pos q, if_neg (by decide), m_here (by omega) h, pbI_rI, show 10 * 0 + hc tx (min L top) a - 48 = hc tx (min L top) a - 48 by omega, hat, L_M_number_10, if_pos (by rw [pset_eq, le32_iff] <;> omega)]
      obtain ⟨M', e, r, g⟩ := m_nEnd (d := D) (M := pset M 60 21 ((a : Int) + 1)) (by omega) (show a < a + 1 by omega) r1 (v := hc tx (min L top) a - 48) (lo := lo) (hi := hi) (by omega) (by omega) (by omega) (by omega) (by omega) (by omega)
      refine ⟨M', e.trans ?_, ?_, AGr_tr (AGr_at AGr_rfl) g⟩
      · show _ = rI (if _ ∧ _ ∧ _ ∧ _ then hc tx (min L top) a - 48 else 0) M'
        by_cases z : lo ≤ hc tx (min L top) a - 48 ∧ hc tx (min L top) a - 48 ≤ hi
        · rw [if_pos z, if_pos ⟨q.1, q.2, z.1, z.2⟩]
        · rw [if_neg z, if_neg (fun y => z ⟨y.2.2.1, y.2.2.2⟩)]
      · show RSt tx L top M' (if _ ∧ _ ∧ _ ∧ _ then .inr (a + 1) else .inl a)
        by_cases z : lo ≤ hc tx (min L top) a - 48 ∧ hc tx (min L top) a - 48 ≤ hi
        · rw [if_pos z] at r
          rw [if_pos ⟨q.1, q.2, z.1, z.2⟩]; exact r
        · rw [if_neg z] at r
          rw [if_neg (fun y => z ⟨y.2.2.1, y.2.2.2⟩)]; exact r
    · obtain ⟨e, r⟩ := m_faultG hD h (p := a) (by omega)
      rw [if_neg q, if_pos rfl, hat, if_neg (fun z => z rfl), e, pbN_rV, m_fineB (by omega) r, pbI_rI, if_pos rfl]
      refine ⟨pset M 60 22 (a : Int), ?_, ?_, AGr_bad AGr_rfl⟩
      · show _ = rI (if _ ∧ _ ∧ _ ∧ _ then hc tx (min L top) a - 48 else 0) _
        rw [if_neg (fun y => q ⟨y.1, y.2.1⟩)]
      · show RSt tx L top _ (if _ ∧ _ ∧ _ ∧ _ then .inr (a + 1) else .inl a)
        rw [if_neg (fun y => q ⟨y.1, y.2.1⟩)]; exact r
theorem m_num2 (hd : 3 ≤ d) {s : rgs} (h : RSt tx L top M s) : ∃ M' v, xF d 183 [.inr 62, .inl 2, .inl 1, .inl 99] M = rI v M' ∧ (0 ≤ v ∧ v ≤ 99) ∧ (∀ b, sgI tx (min L top) s = .inr b → v = sgIv tx (min L top) s) ∧ RSt tx L top M' (sgI tx (min L top) s) ∧ AGr M M' := by
  obtain ⟨D, rfl, hD⟩ := dsucc hd
  rw [T_M_number]
  cases s with
  | inl p =>
    rw [m_fineB (by omega) h, pbI_rI, if_neg (fun z => z rfl)]
    exact ⟨M, 0, rfl, by omega, (fun b hb => by cases hb), h, AGr_rfl⟩
  | inr a =>
    have h11 := h.2.2.2.2.2.2.2.2.2.2.1
    have h5' := h.2.2.2.2.1
    have hat := h.2.2.2.2.2.2.2.2.2.1
    have hr := hc_range h a
    rw [m_fineG (by omega) h, pbI_rI, if_pos (by decide), hat, L_M_number_10, hat, if_neg (by rw [le32_iff] <;> omega), m_here (by omega) h, pbI_rI, m_inD (by omega) (by omega) (by omega) (by omega) (by omega) (by omega) (by omega), pbI_rI]
    by_cases q : 48 ≤ hc tx (min L top) a ∧ hc tx (min L top) a ≤ 57
    · have ha : a < min L top := hc_lt (tx := tx) (st := min L top) (by omega)
      have r1 := RSt_next h ha
      have hr1 := hc_range r1 (a + 1)
      have hat1 := r1.2.2.2.2.2.2.2.2.2.1
      rw [if_pos q, if_neg (by decide), m_here (by omega) h, pbI_rI, show 10 * 0 + hc tx (min L top) a - 48 = hc tx (min L top) a - 48 by omega, hat, L_M_number_10, if_neg (by rw [hat1, le32_iff] <;> omega), m_here (by omega) r1, pbI_rI, m_inD (by omega) (by omega) (by omega) (by omega) (by omega) (by omega) (by omega), pbI_rI]
      by_cases q2 : 48 ≤ hc tx (min L top) (a + 1) ∧ hc tx (min L top) (a + 1) ≤ 57
      · have ha1 : a + 1 < min L top := hc_lt (tx := tx) (st := min L top) (by omega)
        have r2 := RSt_next r1 ha1
        rw [if_pos q2, if_neg (by decide), m_here (by omega) r1, pbI_rI, hat1, L_M_number_10, if_pos (by rw [pset_eq, le32_iff] <;> omega)]
        obtain ⟨M', e, r, g⟩ := m_nEnd (d := D) (M := pset (pset M 60 21 ((a : Int) + 1)) 60 21 (((a + 1 : Nat) : Int) + 1)) (by omega) (show a < a + 1 + 1 by omega) r2 (v := 10 * (hc tx (min L top) a - 48) + hc tx (min L top) (a + 1) - 48) (lo := 1) (hi := 99) (by omega) (by omega) (by omega) (by omega) (by omega) (by omega)
        refine ⟨M', _, e, ?_, ?_, ?_, AGr_tr (AGr_at (AGr_at AGr_rfl)) g⟩
        · split <;> omega
        · intro b hb
          simp only [sgI, sgIv, if_pos q, if_pos q2] at hb ⊢
          by_cases z : 10 * (hc tx (min L top) a - 48) + (hc tx (min L top) (a + 1) - 48) = 0
          · rw [if_pos z] at hb; cases hb
          · rw [if_pos (by omega)]; omega
        · simp only [sgI, if_pos q, if_pos q2]
          by_cases z : 10 * (hc tx (min L top) a - 48) + (hc tx (min L top) (a + 1) - 48) = 0
          · rw [if_neg (by omega)] at r
            rw [if_pos z]; exact r
          · rw [if_pos (by omega)] at r
            rw [if_neg z]; exact r
      · rw [if_neg q2, if_pos rfl]
        obtain ⟨M', e, r, g⟩ := m_nEnd (d := D) (M := pset M 60 21 ((a : Int) + 1)) (by omega) (show a < a + 1 by omega) r1 (v := hc tx (min L top) a - 48) (lo := 1) (hi := 99) (by omega) (by omega) (by omega) (by omega) (by omega) (by omega)
        refine ⟨M', _, e, ?_, ?_, ?_, AGr_tr (AGr_at AGr_rfl) g⟩
        · split <;> omega
        · intro b hb
          simp only [sgI, sgIv, if_pos q, if_neg q2] at hb ⊢
          by_cases z : hc tx (min L top) a - 48 = 0
          · rw [if_pos z] at hb; cases hb
          · rw [if_pos (by omega)]
        · simp only [sgI, if_pos q, if_neg q2]
          by_cases z : hc tx (min L top) a - 48 = 0
          · rw [if_neg (by omega)] at r
            rw [if_pos z]; exact r
          · rw [if_pos (by omega)] at r
            rw [if_neg z]; exact r
    · obtain ⟨e, r⟩ := m_faultG hD h (p := a) (by omega)
      rw [if_neg q, if_pos rfl, hat, if_neg (fun z => z rfl), e, pbN_rV, m_fineB (by omega) r, pbI_rI, if_pos rfl]
      refine ⟨_, 0, rfl, by omega, ?_, ?_, AGr_bad AGr_rfl⟩
      · intro b hb
        simp only [sgI, if_neg q] at hb
        cases hb
      · simp only [sgI, if_neg q]; exact r
end RD
