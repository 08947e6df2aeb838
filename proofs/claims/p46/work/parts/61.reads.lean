section
/-! the reference reads signs, numbers -/
section RD
variable {tx : Nat → Int} {L top d : Nat} {M : pM}
theorem hc_range {s : rgs} (h : RSt tx L top M s) (a : Nat) : -128 ≤ hc tx (min L top) a ∧ hc tx (min L top) a ≤ 127 := by
  unfold hc
  by_cases q : a < min L top
  · rw [if_pos q]
    exact h.2.2.2.2.2.2.1 a (by have := h.2.2.2.1; omega)
  · rw [if_neg q]; omega
theorem m_here (hd : 1 ≤ d) {a : Nat} (h : RSt tx L top M (.inr a)) : xF d 178 [.inr 62] M = rI (hc tx (min L top) a) M := by
  obtain ⟨D, rfl, -⟩ := dsucc hd
  obtain ⟨h1, h2, h3, h4, h5, h6, h7, h8, h9, h10, h11, h12⟩ := h
  rw [T_M_here, h2, h3, h10]
  unfold hc
  by_cases q1 : L ≤ a
  · rw [if_pos (by rw [le32_iff] <;> omega), if_neg (by omega)]
  · rw [if_neg (by rw [le32_iff] <;> omega)]
    by_cases q2 : top ≤ a
    · rw [if_pos (by rw [le32_iff] <;> omega), if_neg (by omega)]
    · rw [if_neg (by rw [le32_iff] <;> omega), h1, show (70 : Int).toNat = 70 from rfl, m_here12, h10, if_pos (by omega), Int.toNat_natCast, h6 a (by omega), if_pos (by omega)]
theorem m_fineG (hd : 1 ≤ d) {a : Nat} (h : RSt tx L top M (.inr a)) : xF d 179 [.inr 62] M = rI 1 M := by
  obtain ⟨D, rfl, -⟩ := dsucc hd
  rw [T_M_fine, h.2.2.2.2.2.2.2.2.2.2.2, if_neg (fun z => z rfl)]
theorem m_fineB (hd : 1 ≤ d) {p : Nat} (h : RSt tx L top M (.inl p)) : xF d 179 [.inr 62] M = rI 0 M := by
  obtain ⟨D, rfl, -⟩ := dsucc hd
  have h2 := h.2.2.2.2.2.2.2.2.2.2
  rw [T_M_fine, h.2.2.2.2.2.2.2.2.2.1, if_pos (by rw [eq32_iff] <;> omega)]
theorem m_faultB (hd : 2 ≤ d) {p : Nat} (h : RSt tx L top M (.inl p)) (v : Int) : xF d 180 [.inr 62, .inl v] M = rV M := by
  obtain ⟨D, rfl, hD⟩ := dsucc hd
  rw [T_M_fault, m_fineB hD h, pbI_rI, if_pos rfl]
theorem m_faultG (hd : 2 ≤ d) {a : Nat} (h : RSt tx L top M (.inr a)) {p : Nat} (hp : p ≤ 80) : xF d 180 [.inr 62, .inl (p : Int)] M = rV (pset M 60 22 p) ∧ RSt tx L top (pset M 60 22 p) (.inl p) := by
  obtain ⟨D, rfl, hD⟩ := dsucc hd
  rw [T_M_fault, m_fineG hD h, pbI_rI, if_neg (by decide)]
  obtain ⟨h1, h2, h3, h4, h5, h6, h7, h8, h9, h10⟩ := h
  exact ⟨rfl, by rw [pset_ne2 (by decide)]; exact h1, by rw [pset_ne2 (by decide)]; exact h2, by rw [pset_ne2 (by decide)]; exact h3, h4, h5, fun i hi => by rw [pset_ne (by decide)]; exact h6 i hi, h7, by rw [pset_ne2 (by decide)]; exact h8, by rw [pset_ne2 (by decide)]; exact h9, pset_eq, hp⟩
theorem RSt_next {a : Nat} (h : RSt tx L top M (.inr a)) (ha : a < min L top) : RSt tx L top (pset M 60 21 ((a : Int) + 1)) (.inr (a + 1)) := by
  obtain ⟨h1, h2, h3, h4, h5, h6, h7, h8, h9, h10, h11, h12⟩ := h
  exact ⟨by rw [pset_ne2 (by decide)]; exact h1, by rw [pset_ne2 (by decide)]; exact h2, by rw [pset_ne2 (by decide)]; exact h3, h4, h5, fun i hi => by rw [pset_ne (by decide)]; exact h6 i hi, h7, by rw [pset_eq]; omega, by rw [pset_eq]; omega, by rw [pset_eq]; omega, by omega, by rw [pset_ne2 (by decide)]; exact h12⟩
/-- passes: 1 and on, or 0 -/
theorem m_passesG (hd : 2 ≤ d) {a : Nat} (h : RSt tx L top M (.inr a)) {c : Int} (hc0 : 0 ≤ c) (hc1 : c ≤ 127) : xF d 181 [.inr 62, .inl c] M = if hc tx (min L top) a = c then rI 1 (pset M 60 21 ((a : Int) + 1)) else rI 0 M := by
  obtain ⟨D, rfl, hD⟩ := dsucc hd
  have hr := hc_range h a
  rw [T_M_passes, m_fineG hD h, pbI_rI, if_neg (by decide), m_here hD h, pbI_rI, h.2.2.2.2.2.2.2.2.2.1]
  by_cases q : hc tx (min L top) a = c
  · rw [if_pos q, if_pos (by rw [q])]
  · rw [if_neg q, if_neg (by rw [eq32_iff] <;> omega)]
theorem m_passesB (hd : 2 ≤ d) {p : Nat} (h : RSt tx L top M (.inl p)) (c : Int) : xF d 181 [.inr 62, .inl c] M = rI 0 M := by
  obtain ⟨D, rfl, hD⟩ := dsucc hd
  rw [T_M_passes, m_fineB hD h, pbI_rI, if_pos rfl]
theorem m_need (hd : 3 ≤ d) {s : rgs} (h : RSt tx L top M s) {c : Int} (hc0 : 0 ≤ c) (hc1 : c ≤ 127) : ∃ M', xF d 182 [.inr 62, .inl c] M = rV M' ∧ RSt tx L top M' (sgN tx (min L top) c s) ∧ AGr M M' := by
  obtain ⟨D, rfl, hD⟩ := dsucc hd
  rw [T_M_need]
  cases s with
  | inl p =>
    rw [m_passesB hD h, pbI_rI, if_neg (fun z => z rfl), m_faultB hD h, pbN_rV]
    exact ⟨M, rfl, h, AGr_rfl⟩
  | inr a =>
    rw [m_passesG hD h hc0 hc1]
    by_cases q : hc tx (min L top) a = c
    · have ha : a < min L top := hc_lt (tx := tx) (st := min L top) (by rw [q]; omega)
      rw [if_pos q, pbI_rI, if_pos (by decide)]
      exact ⟨_, rfl, by
        show RSt tx L top _ (if hc tx (min L top) a = c then .inr (a + 1) else .inl a)
        rw [if_pos q]; exact RSt_next h ha, AGr_at AGr_rfl⟩
    · have h11 := h.2.2.2.2.2.2.2.2.2.2.1
      have h5 := h.2.2.2.2.1
      obtain ⟨e, r⟩ := m_faultG hD h (p := a) (by omega)
      rw [if_neg q, pbI_rI, if_neg (fun z => z rfl), h.2.2.2.2.2.2.2.2.2.1, e, pbN_rV]
      exact ⟨_, rfl, by
        show RSt tx L top _ (if hc tx (min L top) a = c then .inr (a + 1) else .inl a)
        rw [if_neg q]; exact r, AGr_bad AGr_rfl⟩
/-- the end of number: what was read is in range or not -/
theorem m_inD {v : Int} (hd : 1 ≤ d) (h1 : -1000 ≤ v) (h2 : v ≤ 1000) {lo hi : Int} (h3 : -1000 ≤ lo) (h4 : lo ≤ 1000) (h5 : -1000 ≤ hi) (h6 : hi ≤ 1000) : xF d 169 [.inl v, .inl lo, .inl hi] M = rI (if lo ≤ v ∧ v ≤ hi then 1 else 0) M := by
  have e1 : lt32 v lo ↔ v < lo := lt32_iff (by omega) (by omega) (by omega) (by omega)
  have e2 : lt32 hi v ↔ hi < v := lt32_iff (by omega) (by omega) (by omega) (by omega)
  rw [m_in hd]
  by_cases q : lo ≤ v ∧ v ≤ hi
  · rw [if_pos q, if_neg (fun z => z.elim (fun y => by have := e1.mp y; omega) (fun y => by have := e2.mp y; omega))]
  · rw [if_neg q]
    by_cases z : v < lo
    · rw [if_pos (Or.inl (e1.mpr z))]
    · rw [if_pos (Or.inr (e2.mpr (by omega)))]
/-- what is done with a number that has been read up to b, from a on -/
theorem m_nEnd (hD : 2 ≤ d) {a b : Nat} (hab : a < b) (h : RSt tx L top M (.inr b)) {v lo hi : Int} (h1 : -1000 ≤ v) (h2 : v ≤ 1000) (h3 : -1000 ≤ lo) (h4 : lo ≤ 1000) (h5 : -1000 ≤ hi) (h6 : hi ≤ 1000) : ∃ M', (if ¬ eq32 (M 60 21) (a : Int) then (pbI (xF d 169 [.inl v, .inl lo, .inl hi] M) fun v16 M15 => if ¬ eq32 v16 0 then (pbI (xF d 179 [.inr 62] M15) fun v18 M17 => if eq32 v18 0 then some (some (.inl 0), M17) else some (some (.inl v), M17)) else (pbN (xF d 180 [.inr 62, .inl ((M15 60 21) - 1)] M15) fun M19 => pbI (xF d 179 [.inr 62] M19) fun v21 M20 => if eq32 v21 0 then some (some (.inl 0), M20) else some (some (.inl v), M20))) else (pbN (xF d 180 [.inr 62, .inl (M 60 21)] M) fun M22 => pbI (xF d 179 [.inr 62] M22) fun v24 M23 => if eq32 v24 0 then some (some (.inl 0), M23) else some (some (.inl v), M23))) = rI (if lo ≤ v ∧ v ≤ hi then v else 0) M' ∧ RSt tx L top M' (if lo ≤ v ∧ v ≤ hi then .inr b else .inl (b - 1)) ∧ AGr M M' := by
  have h5' := h.2.2.2.2.1
  have h11 := h.2.2.2.2.2.2.2.2.2.2.1
  have hat := h.2.2.2.2.2.2.2.2.2.1
  rw [hat, if_pos (by rw [eq32_iff] <;> omega), m_inD (by omega) h1 h2 h3 h4 h5 h6, pbI_rI]
  by_cases q : lo ≤ v ∧ v ≤ hi
  · rw [if_pos q, if_pos (by decide), m_fineG (by omega) h, pbI_rI, if_neg (by decide), if_pos q, if_pos q]
    exact ⟨M, rfl, h, AGr_rfl⟩
  · obtain ⟨e, r⟩ := m_faultG hD h (p := b - 1) (by omega)
    rw [if_neg q, if_neg (fun z => z rfl), hat, show (b : Int) - 1 = ((b - 1 : Nat) : Int) by omega, e, pbN_rV, m_fineB (by omega) r, pbI_rI, if_pos rfl, if_neg q, if_neg q]
    exact ⟨_, rfl, r, AGr_bad AGr_rfl⟩
theorem m_num1 (hd : 3 ≤ d) {s : rgs} (h : RSt tx L top M s) {lo hi : Int} (h3 : 0 ≤ lo) (h4 : lo ≤ 9) (h5 : -1 ≤ hi) (h6 : hi ≤ 9) : ∃ M', xF d 183 [.inr 62, .inl 1, .inl lo, .inl hi] M = rI (sgV tx (min L top) lo hi s) M' ∧ RSt tx L top M' (sgD tx (min L top) lo hi s) ∧ AGr M M' := by
  obtain ⟨D, rfl, hD⟩ := dsucc hd
  rw [T_M_number]
  cases s with
  | inl p =>
    rw [m_fineB (by omega) h, pbI_rI, if_neg (fun z => z rfl)]
    exact ⟨M, rfl, h, AGr_rfl⟩
  | inr a =>
    have h11 := h.2.2.2.2.2.2.2.2.2.2.1
    have h5' := h.2.2.2.2.1
    have hat := h.2.2.2.2.2.2.2.2.2.1
    have hr := hc_range h a
    rw [m_fineG (by omega) h, pbI_rI, if_pos (by decide), hat, L_M_number_10, hat, if_neg (by rw [le32_iff] <;> omega), m_here (by omega) h, pbI_rI, m_inD (by omega) (by omega) (by omega) (by omega) (by omega) (by omega) (by omega), pbI_rI]
    by_cases q : 48 ≤ hc tx (min L top) a ∧ hc tx (min L top) a ≤ 57
    · have ha : a < min L top := hc_lt (tx := tx) (st := min L top) (by omega)
      have r1 := RSt_next h ha
      rw [if_pos q, if_neg (by decide), m_here (by omega) h, pbI_rI, show 10 * 0 + hc tx (min L top) a - 48 = hc tx (min L top) a - 48 by omega, hat, L_M_number_10, if_pos (by rw [pset_eq, le32_iff] <;> omega)]
      obtain ⟨M', e, r, g⟩ := m_nEnd (d := D) (M := pset M 60 21 ((a : Int) + 1)) (by omega) (show a < a + 1 by omega) r1 (v := hc tx (min L top) a - 48) (lo := lo) (hi := hi) (by omega) (by omega) (by omega) (by omega) (by omega) (by omega)
      refine ⟨M', e.trans ?_, ?_, AGr_tr (AGr_at AGr_rfl) g⟩
      · show _ = rI (if _ ∧ _ ∧ _ ∧ _ then hc tx (min L top) a - 48 else 0) M'
        by_cases z : lo ≤ hc tx (min L top) a - 48 ∧ hc tx (min L top) a - 48 ≤ hi
        · rw [if_pos z, if_pos ⟨q.1, q.2, z.1, z.2⟩]
        · rw [if_neg z, if_neg (fun y => z ⟨y.2.2.1, y.2.2.2⟩)]
      · show RSt tx L top M' (if _ ∧ _ ∧ _ ∧ _ then .inr (a + 1) else .inl a)
        by_cases z : lo ≤ hc tx (min L top) a - 48 ∧ hc tx (min L top) a - 48 ≤ hi
        · rw [if_pos z] at r
          rw [if_pos ⟨q.1, q.2, z.1, z.2⟩]; exact r
        · rw [if_neg z] at r
          rw [if_neg (fun y => z ⟨y.2.2.1, y.2.2.2⟩)]; exact r
    · obtain ⟨e, r⟩ := m_faultG hD h (p := a) (by omega)
      rw [if_neg q, if_pos rfl, hat, if_neg (fun z => z rfl), e, pbN_rV, m_fineB (by omega) r, pbI_rI, if_pos rfl]
      refine ⟨pset M 60 22 (a : Int), ?_, ?_, AGr_bad AGr_rfl⟩
      · show _ = rI (if _ ∧ _ ∧ _ ∧ _ then hc tx (min L top) a - 48 else 0) _
        rw [if_neg (fun y => q ⟨y.1, y.2.1⟩)]
      · show RSt tx L top _ (if _ ∧ _ ∧ _ ∧ _ then .inr (a + 1) else .inl a)
        rw [if_neg (fun y => q ⟨y.1, y.2.1⟩)]; exact r
theorem m_num2 (hd : 3 ≤ d) {s : rgs} (h : RSt tx L top M s) : ∃ M' v, xF d 183 [.inr 62, .inl 2, .inl 1, .inl 99] M = rI v M' ∧ (0 ≤ v ∧ v ≤ 99) ∧ (∀ b, sgI tx (min L top) s = .inr b → v = sgIv tx (min L top) s) ∧ RSt tx L top M' (sgI tx (min L top) s) ∧ AGr M M' := by
  obtain ⟨D, rfl, hD⟩ := dsucc hd
  rw [T_M_number]
  cases s with
  | inl p =>
    rw [m_fineB (by omega) h, pbI_rI, if_neg (fun z => z rfl)]
    exact ⟨M, 0, rfl, by omega, (fun b hb => by cases hb), h, AGr_rfl⟩
  | inr a =>
    have h11 := h.2.2.2.2.2.2.2.2.2.2.1
    have h5' := h.2.2.2.2.1
    have hat := h.2.2.2.2.2.2.2.2.2.1
    have hr := hc_range h a
    rw [m_fineG (by omega) h, pbI_rI, if_pos (by decide), hat, L_M_number_10, hat, if_neg (by rw [le32_iff] <;> omega), m_here (by omega) h, pbI_rI, m_inD (by omega) (by omega) (by omega) (by omega) (by omega) (by omega) (by omega), pbI_rI]
    by_cases q : 48 ≤ hc tx (min L top) a ∧ hc tx (min L top) a ≤ 57
    · have ha : a < min L top := hc_lt (tx := tx) (st := min L top) (by omega)
      have r1 := RSt_next h ha
      have hr1 := hc_range r1 (a + 1)
      have hat1 := r1.2.2.2.2.2.2.2.2.2.1
      rw [if_pos q, if_neg (by decide), m_here (by omega) h, pbI_rI, show 10 * 0 + hc tx (min L top) a - 48 = hc tx (min L top) a - 48 by omega, hat, L_M_number_10, if_neg (by rw [hat1, le32_iff] <;> omega), m_here (by omega) r1, pbI_rI, m_inD (by omega) (by omega) (by omega) (by omega) (by omega) (by omega) (by omega), pbI_rI]
      by_cases q2 : 48 ≤ hc tx (min L top) (a + 1) ∧ hc tx (min L top) (a + 1) ≤ 57
      · have ha1 : a + 1 < min L top := hc_lt (tx := tx) (st := min L top) (by omega)
        have r2 := RSt_next r1 ha1
        rw [if_pos q2, if_neg (by decide), m_here (by omega) r1, pbI_rI, hat1, L_M_number_10, if_pos (by rw [pset_eq, le32_iff] <;> omega)]
        obtain ⟨M', e, r, g⟩ := m_nEnd (d := D) (M := pset (pset M 60 21 ((a : Int) + 1)) 60 21 (((a + 1 : Nat) : Int) + 1)) (by omega) (show a < a + 1 + 1 by omega) r2 (v := 10 * (hc tx (min L top) a - 48) + hc tx (min L top) (a + 1) - 48) (lo := 1) (hi := 99) (by omega) (by omega) (by omega) (by omega) (by omega) (by omega)
        refine ⟨M', _, e, ?_, ?_, ?_, AGr_tr (AGr_at (AGr_at AGr_rfl)) g⟩
        · split <;> omega
        · intro b hb
          simp only [sgI, sgIv, if_pos q, if_pos q2] at hb ⊢
          by_cases z : 10 * (hc tx (min L top) a - 48) + (hc tx (min L top) (a + 1) - 48) = 0
          · rw [if_pos z] at hb; cases hb
          · rw [if_pos (by omega)]; omega
        · simp only [sgI, if_pos q, if_pos q2]
          by_cases z : 10 * (hc tx (min L top) a - 48) + (hc tx (min L top) (a + 1) - 48) = 0
          · rw [if_neg (by omega)] at r
            rw [if_pos z]; exact r
          · rw [if_pos (by omega)] at r
            rw [if_neg z]; exact r
      · rw [if_neg q2, if_pos rfl]
        obtain ⟨M', e, r, g⟩ := m_nEnd (d := D) (M := pset M 60 21 ((a : Int) + 1)) (by omega) (show a < a + 1 by omega) r1 (v := hc tx (min L top) a - 48) (lo := 1) (hi := 99) (by omega) (by omega) (by omega) (by omega) (by omega) (by omega)
        refine ⟨M', _, e, ?_, ?_, ?_, AGr_tr (AGr_at AGr_rfl) g⟩
        · split <;> omega
        · intro b hb
          simp only [sgI, sgIv, if_pos q, if_neg q2] at hb ⊢
          by_cases z : hc tx (min L top) a - 48 = 0
          · rw [if_pos z] at hb; cases hb
          · rw [if_pos (by omega)]
        · simp only [sgI, if_pos q, if_neg q2]
          by_cases z : hc tx (min L top) a - 48 = 0
          · rw [if_neg (by omega)] at r
            rw [if_pos z]; exact r
          · rw [if_pos (by omega)] at r
            rw [if_neg z]; exact r
    · obtain ⟨e, r⟩ := m_faultG hD h (p := a) (by omega)
      rw [if_neg q, if_pos rfl, hat, if_neg (fun z => z rfl), e, pbN_rV, m_fineB (by omega) r, pbI_rI, if_pos rfl]
      refine ⟨_, 0, rfl, by omega, ?_, ?_, AGr_bad AGr_rfl⟩
      · intro b hb
        simp only [sgI, if_neg q] at hb
        cases hb
      · simp only [sgI, if_neg q]; exact r
end RD
end
section
/-! the reference's lines: things and sets -/
noncomputable def sgT (tx : Nat → Int) (st R : Nat) (s : rgs) : rgs := sgD tx st 0 ((R : Int) - 1) (sgN tx st 64 (sgD tx st 1 9 (sgN tx st 44 (sgD tx st 1 9 (sgN tx st 44 (sgI tx st s))))))
noncomputable def tvW (tx : Nat → Int) (st : Nat) (s : rgs) : Int := sgV tx st 1 9 (sgN tx st 44 (sgI tx st s))
noncomputable def tvG (tx : Nat → Int) (st : Nat) (s : rgs) : Int := sgV tx st 1 9 (sgN tx st 44 (sgD tx st 1 9 (sgN tx st 44 (sgI tx st s))))
noncomputable def tvR (tx : Nat → Int) (st R : Nat) (s : rgs) : Int := sgV tx st 0 ((R : Int) - 1) (sgN tx st 64 (sgD tx st 1 9 (sgN tx st 44 (sgD tx st 1 9 (sgN tx st 44 (sgI tx st s))))))
theorem sgV_range {tx : Nat → Int} {st : Nat} {lo hi : Int} (h : 0 ≤ lo) (h2 : 0 ≤ hi ∨ lo ≤ hi ∨ True) (s : rgs) : 0 ≤ sgV tx st lo hi s ∧ sgV tx st lo hi s ≤ max hi 0 := by
  cases s with
  | inl p => exact ⟨Int.le_refl _, by show (0 : Int) ≤ max hi 0; omega⟩
  | inr a =>
    show 0 ≤ (if _ ∧ _ ∧ _ ∧ _ then hc tx st a - 48 else 0) ∧ (if _ ∧ _ ∧ _ ∧ _ then hc tx st a - 48 else 0) ≤ max hi 0
    split <;> omega
theorem sgN_inr {tx : Nat → Int} {st b : Nat} {c : Int} {s : rgs} (h : sgN tx st c s = .inr b) : ∃ a, s = .inr a ∧ b = a + 1 ∧ hc tx st a = c := by
  cases s with
  | inl p => cases h
  | inr a =>
    have h : (if hc tx st a = c then .inr (a + 1) else .inl a : rgs) = .inr b := h
    by_cases q : hc tx st a = c
    · rw [if_pos q] at h; cases h; exact ⟨a, rfl, rfl, q⟩
    · rw [if_neg q] at h; cases h
theorem sgD_inr {tx : Nat → Int} {st b : Nat} {lo hi : Int} {s : rgs} (h : sgD tx st lo hi s = .inr b) : ∃ a, s = .inr a ∧ b = a + 1 ∧ lo ≤ sgV tx st lo hi s ∧ sgV tx st lo hi s ≤ hi ∧ sgV tx st lo hi s = hc tx st a - 48 ∧ a < st := by
  cases s with
  | inl p => cases h
  | inr a =>
    by_cases q : 48 ≤ hc tx st a ∧ hc tx st a ≤ 57 ∧ lo ≤ hc tx st a - 48 ∧ hc tx st a - 48 ≤ hi
    · have h : (if _ ∧ _ ∧ _ ∧ _ then .inr (a + 1) else .inl a : rgs) = .inr b := h
      rw [if_pos q] at h
      cases h
      have e : sgV tx st lo hi (.inr a) = hc tx st a - 48 := if_pos q
      rw [e]
      exact ⟨a, rfl, rfl, q.2.2.1, q.2.2.2, rfl, hc_lt (tx := tx) (st := st) (by omega)⟩
    · have h : (if _ ∧ _ ∧ _ ∧ _ then .inr (a + 1) else .inl a : rgs) = .inr b := h
      rw [if_neg q] at h
      cases h
theorem sgI_inr {tx : Nat → Int} {st b : Nat} {s : rgs} (h : sgI tx st s = .inr b) : ∃ a, s = .inr a ∧ (b = a + 1 ∨ b = a + 2) ∧ 1 ≤ sgIv tx st s ∧ sgIv tx st s ≤ 99 := by
  cases s with
  | inl p => cases h
  | inr a =>
    simp only [sgI, sgIv] at h ⊢
    by_cases q : 48 ≤ hc tx st a ∧ hc tx st a ≤ 57
    · rw [if_pos q] at h ⊢
      by_cases q2 : 48 ≤ hc tx st (a + 1) ∧ hc tx st (a + 1) ≤ 57
      · rw [if_pos q2] at h ⊢
        by_cases z : 10 * (hc tx st a - 48) + (hc tx st (a + 1) - 48) = 0
        · rw [if_pos z] at h; cases h
        · rw [if_neg z] at h; cases h
          exact ⟨a, rfl, Or.inr rfl, by omega, by omega⟩
      · rw [if_neg q2] at h ⊢
        by_cases z : hc tx st a - 48 = 0
        · rw [if_pos z] at h; cases h
        · rw [if_neg z] at h; cases h
          exact ⟨a, rfl, Or.inl rfl, by omega, by omega⟩
    · rw [if_neg q] at h; cases h
/-- letters from a on: the sign that can't stand, or where they end; the set -/
noncomputable def sgL (tx : Nat → Int) (st T : Nat) : Nat → Nat → Nat → Int → rgs × Nat
  | 0, a, bits, _ => (.inl a, bits)
  | f + 1, a, bits, last => if 97 ≤ hc tx st a ∧ hc tx st a ≤ 106 then (if hc tx st a - 97 ≤ last ∨ (T : Int) ≤ hc tx st a - 97 then (.inl a, bits) else sgL tx st T f (a + 1) (bits ||| 2 ^ (hc tx st a - 97).toNat) (hc tx st a - 97)) else (if bits = 0 then .inl a else .inr a, bits)
section LN
variable {tx : Nat → Int} {L top d T R : Nat} {M : pM}
theorem RSt_ne {s : rgs} (h : RSt tx L top M s) {o i : Nat} {v : Int} (h1 : o ≠ 60) (h2 : o ≠ 68) : RSt tx L top (pset M o i v) s := by
  obtain ⟨a1, a2, a3, a4, a5, a6, a7, a8, a9, a10⟩ := h
  refine ⟨by rw [pset_ne h1.symm]; exact a1, by rw [pset_ne h1.symm]; exact a2, by rw [pset_ne h1.symm]; exact a3, a4, a5, fun i hi => by rw [pset_ne h2.symm]; exact a6 i hi, a7, by rw [pset_ne h1.symm]; exact a8, by rw [pset_ne h1.symm]; exact a9, ?_⟩
  cases s with
  | inl p => exact ⟨by rw [pset_ne h1.symm]; exact a10.1, a10.2⟩
  | inr a => exact ⟨by rw [pset_ne h1.symm]; exact a10.1, a10.2.1, by rw [pset_ne h1.symm]; exact a10.2.2⟩
theorem gM_RSt {M' : pM} {s : rgs} (hM : gM gAll M) (a : AGr M M') (h : RSt tx L top M' s) : gM gAll M' := by
  intro o k hk
  by_cases q : o = 60 ∧ (k = 21 ∨ k = 22)
  · obtain ⟨rfl, q⟩ := q
    rcases q with rfl | rfl
    · rw [show gAll 60 21 = (0, 0, 80, 0, 0, 0) by decide +kernel]
      exact gR_i h.2.2.2.2.2.2.2.1 h.2.2.2.2.2.2.2.2.1
    · rw [show gAll 60 22 = (0, -1, 80, 0, 0, 0) by decide +kernel]
      have := h.2.2.2.2.2.2.2.2.2
      cases s with
      | inl p => exact gR_i (by have := this.1; omega) (by have := this; omega)
      | inr a => exact gR_i (by have := this.2.2; omega) (by have := this.2.2; omega)
  · rw [a o k q]; exact hM o k hk
/-- all but where it stands and what is told of thing t is the same -/
def AGt (t : Nat) (M M' : pM) : Prop := ∀ o i, ¬ (o = 60 ∧ (i = 21 ∨ i = 22)) → ¬ (63 ≤ o ∧ o ≤ 66 ∧ i = t) → M' o i = M o i
theorem AGt_r {t : Nat} {M1 M2 : pM} (h : AGt t M M1) (a : AGr M1 M2) : AGt t M M2 := fun o i q1 q2 => (a o i q1).trans (h o i q1 q2)
theorem AGt_s {t o' : Nat} {M1 : pM} {v : Int} (h : AGt t M M1) (h1 : 63 ≤ o') (h2 : o' ≤ 66) : AGt t M (pset M1 o' t v) := fun o i q1 q2 => by
  unfold pset
  rw [if_neg (fun z => q2 ⟨by omega, by omega, z.2⟩)]
  exact h o i q1 q2
theorem m_readThing (hd : 4 ≤ d) {t : Nat} (ht : t < 10) (hR : R ≤ 6) {s : rgs} (hM : gM gAll M) (h : RSt tx L top M s) : ∃ M', xF d 186 [.inr 62, .inl (t : Int), .inl (R : Int)] M = rV M' ∧ RSt tx L top M' (sgT tx (min L top) R s) ∧ AGt t M M' ∧ gM gAll M' ∧ ∀ b, sgT tx (min L top) R s = .inr b → M' 63 t = sgIv tx (min L top) s ∧ M' 64 t = tvW tx (min L top) s ∧ M' 65 t = tvG tx (min L top) s ∧ M' 66 t = tvR tx (min L top) R s := by
  obtain ⟨D, rfl, hD⟩ := dsucc hd
  obtain ⟨M1, v1, e1, r1, k1, s1, a1⟩ := m_num2 (d := D) (by omega) h
  have g1 := gM_RSt hM a1 s1
  have s1' := RSt_ne s1 (o := 63) (i := t) (v := v1) (by decide) (by decide)
  have g1' : gM gAll (pset M1 63 t v1) := gM_r g1 (lo := 0) (hi := 99) (by decide +kernel) (by decide +kernel) r1.1 r1.2
  obtain ⟨M3, e3, s3, a3⟩ := m_need (d := D) (by omega) s1' (c := 44) (by decide) (by decide)
  have g3 := gM_RSt g1' a3 s3
  obtain ⟨M4, e4, s4, a4⟩ := m_num1 (d := D) (by omega) s3 (lo := 1) (hi := 9) (by decide) (by decide) (by decide) (by decide)
  have g4 := gM_RSt g3 a4 s4
  have v4 := sgV_range (tx := tx) (st := min L top) (lo := 1) (hi := 9) (by decide) (Or.inr (Or.inr trivial)) (sgN tx (min L top) 44 (sgI tx (min L top) s))
  have s4' := RSt_ne s4 (o := 64) (i := t) (v := sgV tx (min L top) 1 9 (sgN tx (min L top) 44 (sgI tx (min L top) s))) (by decide) (by decide)
  have g4' : gM gAll (pset M4 64 t (sgV tx (min L top) 1 9 (sgN tx (min L top) 44 (sgI tx (min L top) s)))) := gM_r g4 (lo := 0) (hi := 9) (by decide +kernel) (by decide +kernel) v4.1 (by omega)
  obtain ⟨M6, e6, s6, a6⟩ := m_need (d := D) (by omega) s4' (c := 44) (by decide) (by decide)
  have g6 := gM_RSt g4' a6 s6
  obtain ⟨M7, e7, s7, a7⟩ := m_num1 (d := D) (by omega) s6 (lo := 1) (hi := 9) (by decide) (by decide) (by decide) (by decide)
  have g7 := gM_RSt g6 a7 s7
  have v7 := sgV_range (tx := tx) (st := min L top) (lo := 1) (hi := 9) (by decide) (Or.inr (Or.inr trivial)) (sgN tx (min L top) 44 (sgD tx (min L top) 1 9 (sgN tx (min L top) 44 (sgI tx (min L top) s))))
  have s7' := RSt_ne s7 (o := 65) (i := t) (v := sgV tx (min L top) 1 9 (sgN tx (min L top) 44 (sgD tx (min L top) 1 9 (sgN tx (min L top) 44 (sgI tx (min L top) s))))) (by decide) (by decide)
  have g7' : gM gAll (pset M7 65 t (sgV tx (min L top) 1 9 (sgN tx (min L top) 44 (sgD tx (min L top) 1 9 (sgN tx (min L top) 44 (sgI tx (min L top) s)))))) := gM_r g7 (lo := 0) (hi := 9) (by decide +kernel) (by decide +kernel) v7.1 (by omega)
  obtain ⟨M9, e9, s9, a9⟩ := m_need (d := D) (by omega) s7' (c := 64) (by decide) (by decide)
  have g9 := gM_RSt g7' a9 s9
  obtain ⟨M10, e10, s10, a10⟩ := m_num1 (d := D) (by omega) s9 (lo := 0) (hi := (R : Int) - 1) (by decide) (by decide) (by omega) (by omega)
  have g10 := gM_RSt g9 a10 s10
  have v10 := sgV_range (tx := tx) (st := min L top) (lo := 0) (hi := (R : Int) - 1) (by decide) (Or.inr (Or.inr trivial)) (sgN tx (min L top) 64 (sgD tx (min L top) 1 9 (sgN tx (min L top) 44 (sgD tx (min L top) 1 9 (sgN tx (min L top) 44 (sgI tx (min L top) s))))))
  have ht2 : (0 : Int) ≤ (t : Int) ∧ (t : Int) < 10 := by omega
  rw [T_M_readThing, e1, pbI_rI, if_pos ht2, Int.toNat_natCast, e3, pbN_rV, e4, pbI_rI, if_pos ht2, e6, pbN_rV, e7, pbI_rI, if_pos ht2, e9, pbN_rV, e10, pbI_rI, if_pos ht2]
  refine ⟨_, rfl, RSt_ne s10 (by decide) (by decide), ?_, gM_r g10 (lo := 0) (hi := 5) (by decide +kernel) (by decide +kernel) v10.1 (by omega), fun b hb => ?_⟩
  · exact AGt_s (AGt_r (AGt_r (AGt_s (AGt_r (AGt_r (AGt_s (AGt_r (AGt_r (AGt_s (AGt_r (fun _ _ _ _ => rfl) a1) (by decide) (by decide)) a3) a4) (by decide) (by decide)) a6) a7) (by decide) (by decide)) a9) a10) (by decide) (by decide)
  · obtain ⟨b6, x6, -⟩ := sgD_inr (show sgD tx (min L top) 0 ((R : Int) - 1) _ = .inr b from hb)
    obtain ⟨b5, x5, -⟩ := sgN_inr x6
    obtain ⟨b4, x4, -⟩ := sgD_inr x5
    obtain ⟨b3, x3, -⟩ := sgN_inr x4
    obtain ⟨b2, x2, -⟩ := sgD_inr x3
    obtain ⟨b1, x1, -⟩ := sgN_inr x2
    refine ⟨?_, ?_, ?_, pset_eq⟩
    · rw [pset_ne (by decide), a10 63 t (by omega), a9 63 t (by omega), pset_ne (by decide), a7 63 t (by omega), a6 63 t (by omega), pset_ne (by decide), a4 63 t (by omega), a3 63 t (by omega), pset_eq]
      exact k1 b1 x1
    · rw [pset_ne (by decide), a10 64 t (by omega), a9 64 t (by omega), pset_ne (by decide), a7 64 t (by omega), a6 64 t (by omega), pset_eq]
      rfl
    · rw [pset_ne (by decide), a10 65 t (by omega), a9 65 t (by omega), pset_eq]
      rfl
/-- all but where it stands and set s is the same -/
def AGs (s : Nat) (M M' : pM) : Prop := ∀ o i, ¬ (o = 60 ∧ (i = 21 ∨ i = 22)) → ¬ (o = 67 ∧ i = s) → M' o i = M o i
theorem m_rs10 (hD : 3 ≤ d) {sn : Nat} (hsn : sn < 8) (hT : T ≤ 10) : ∀ (f a bits : Nat) (last : Int) (y5 : pV) (M : pM), 10 ≤ (f : Int) + last → -1 ≤ last → last ≤ 9 → bits < 1024 → gM gAll M → RSt tx L top M (.inr a) → ∃ M', xE d 187 10 [.inr 62, .inl (sn : Int), .inl (T : Int), .inl (bits : Int), .inl last, y5] [] M = rV M' ∧ RSt tx L top M' (sgL tx (min L top) T f a bits last).1 ∧ AGs sn M M' ∧ gM gAll M' ∧ (sgL tx (min L top) T f a bits last).2 < 1024 ∧ ∀ b, (sgL tx (min L top) T f a bits last).1 = .inr b → M' 67 sn = ((sgL tx (min L top) T f a bits last).2 : Int) := by
  have fin : ∀ (a bits : Nat) (M : pM), bits < 1024 → gM gAll M → RSt tx L top M (.inr a) → ∃ M', (if ¬ eq32 (bits : Int) 0 then (if 0 ≤ (sn : Int) ∧ (sn : Int) < 8 then some (none, pset M 67 (sn : Int).toNat (bits : Int)) else none) else (pbN (xF d 180 [.inr 62, .inl (M 60 21)] M) fun M8 => if 0 ≤ (sn : Int) ∧ (sn : Int) < 8 then some (none, pset M8 67 (sn : Int).toNat (bits : Int)) else none)) = rV M' ∧ RSt tx L top M' (if bits = 0 then .inl a else .inr a) ∧ AGs sn M M' ∧ gM gAll M' ∧ M' 67 sn = (bits : Int) := by
    intro a bits M hb hM h
    have h11 := h.2.2.2.2.2.2.2.2.2.2.1
    have h5' := h.2.2.2.2.1
    by_cases q : bits = 0
    · obtain ⟨e, r⟩ := m_faultG (d := d) (by omega) h (p := a) (by omega)
      have g := gM_RSt hM (AGr_bad (v := (a : Int)) AGr_rfl) r
      rw [if_neg (fun z => z (by rw [q]; rfl)), h.2.2.2.2.2.2.2.2.2.1, e, pbN_rV, if_pos (by omega), Int.toNat_natCast, if_pos q]
      exact ⟨_, rfl, RSt_ne r (by decide) (by decide), fun o i q1 q2 => by
        rw [show pset (pset M 60 22 (a : Int)) 67 sn (bits : Int) o i = pset M 60 22 (a : Int) o i from if_neg q2]
        exact if_neg (fun z => q1 ⟨z.1, Or.inr z.2⟩), gM_r g (lo := 0) (hi := 1023) (by decide +kernel) (by decide +kernel) (by omega) (by omega), pset_eq⟩
    · rw [if_pos (by rw [eq32_iff] <;> omega), if_pos (by omega), Int.toNat_natCast, if_neg q]
      exact ⟨_, rfl, RSt_ne h (by decide) (by decide), fun o i q1 q2 => if_neg q2, gM_r hM (lo := 0) (hi := 1023) (by decide +kernel) (by decide +kernel) (by omega) (by omega), pset_eq⟩
  intro f
  induction f with
  | zero =>
    intro a bits last y5 M hf hl hl2 hb hM h
    omega
  | succ f ih =>
    intro a bits last y5 M hf hl hl2 hb hM h
    have h11 := h.2.2.2.2.2.2.2.2.2.2.1
    have h5' := h.2.2.2.2.1
    have hat := h.2.2.2.2.2.2.2.2.2.1
    have hr := hc_range h a
    rw [L_M_readSet_10, m_fineG (by omega) h, pbI_rI, if_neg (by decide), m_here (by omega) h, pbI_rI, m_inD (by omega) (by omega) (by omega) (by omega) (by omega) (by omega) (by omega), pbI_rI]
    by_cases q : 97 ≤ hc tx (min L top) a ∧ hc tx (min L top) a ≤ 106
    · rw [if_pos q, if_neg (by decide), m_here (by omega) h, pbI_rI]
      by_cases q1 : hc tx (min L top) a - 97 ≤ last ∨ (T : Int) ≤ hc tx (min L top) a - 97
      · have eL : sgL tx (min L top) T (f + 1) a bits last = (.inl a, bits) := by
          show (if _ ∧ _ then (if _ ∨ _ then _ else _) else _) = _
          rw [if_pos q, if_pos q1]
        obtain ⟨e, r⟩ := m_faultG (d := d) (by omega) h (p := a) (by omega)
        rw [eL]
        by_cases q2 : hc tx (min L top) a - 97 ≤ last
        · rw [if_pos (by rw [le32_iff] <;> omega), hat, e, pbN_rV]
          exact ⟨_, rfl, r, fun o i q1 q2 => if_neg (fun z => q1 ⟨z.1, Or.inr z.2⟩), gM_RSt hM (AGr_bad AGr_rfl) r, hb, fun b hb => by cases hb⟩
        · rw [if_neg (by rw [le32_iff] <;> omega), if_neg (by rw [lt32_iff] <;> omega), hat, e, pbN_rV]
          exact ⟨_, rfl, r, fun o i q1 q2 => if_neg (fun z => q1 ⟨z.1, Or.inr z.2⟩), gM_RSt hM (AGr_bad AGr_rfl) r, hb, fun b hb => by cases hb⟩
      · have ha : a < min L top := hc_lt (tx := tx) (st := min L top) (by omega)
        have r1 := RSt_next h ha
        have eL : sgL tx (min L top) T (f + 1) a bits last = sgL tx (min L top) T f (a + 1) (bits ||| 2 ^ (hc tx (min L top) a - 97).toNat) (hc tx (min L top) a - 97) := by
          show (if _ ∧ _ then (if _ ∨ _ then _ else _) else _) = _
          rw [if_pos q, if_neg q1]
        obtain ⟨k, hk⟩ := natI (show 0 ≤ hc tx (min L top) a - 97 by omega)
        rw [eL, hk, Int.toNat_natCast]
        have hb2 : bits ||| 2 ^ k < 1024 := Nat.or_lt_two_pow (n := 10) hb (Nat.pow_lt_pow_right (by decide) (by omega))
        have hp : 2 ^ k < 1024 := show 2 ^ k < 2 ^ 10 from Nat.pow_lt_pow_right (by decide) (by omega)
        rw [if_neg (by rw [le32_iff] <;> omega), if_pos (by rw [lt32_iff] <;> omega), jshl_one k (by omega), jor_nat (by omega) (by omega), hat]
        obtain ⟨M', e, r, g, gm, hb3, hv⟩ := ih (a + 1) (bits ||| 2 ^ k) (k : Int) (.inl (k : Int)) _ (by omega) (by omega) (by omega) hb2 (gM_RSt hM (AGr_at AGr_rfl) r1) r1
        exact ⟨M', e, r, fun o i q1 q2 => by
          rw [g o i q1 q2]
          exact if_neg (fun z => q1 ⟨z.1, Or.inl z.2⟩), gm, hb3, hv⟩
    · have eL : sgL tx (min L top) T (f + 1) a bits last = (if bits = 0 then .inl a else .inr a, bits) := by
        show (if _ ∧ _ then _ else _) = _
        rw [if_neg q]
      rw [if_neg q, if_pos rfl, eL]
      obtain ⟨M', e, r, g, gm, hv⟩ := fin a bits M hb hM h
      exact ⟨M', e, r, g, gm, hb, fun b _ => hv⟩
theorem m_readSet (hd : 4 ≤ d) {sn : Nat} (hsn : sn < 8) (hT : T ≤ 10) {a : Nat} (ha : a < min L top) (hM : gM gAll M) (h : RSt tx L top M (.inr a)) : ∃ M', xF d 187 [.inr 62, .inl (sn : Int), .inl (T : Int)] M = rV M' ∧ RSt tx L top M' (sgL tx (min L top) T 11 (a + 1) 0 (-1)).1 ∧ AGs sn M M' ∧ gM gAll M' ∧ (sgL tx (min L top) T 11 (a + 1) 0 (-1)).2 < 1024 ∧ ∀ b, (sgL tx (min L top) T 11 (a + 1) 0 (-1)).1 = .inr b → M' 67 sn = ((sgL tx (min L top) T 11 (a + 1) 0 (-1)).2 : Int) := by
  obtain ⟨D, rfl, hD⟩ := dsucc hd
  have r1 := RSt_next h ha
  rw [T_M_readSet, h.2.2.2.2.2.2.2.2.2.1, show (.inl 0 : pV) = .inl ((0 : Nat) : Int) from rfl]
  obtain ⟨M', e, r, g, gm, hb, hv⟩ := m_rs10 (d := D) (T := T) hD hsn hT 11 (a + 1) 0 (-1) (.inr 0) _ (by decide) (by decide) (by decide) (by decide) (gM_RSt hM (AGr_at AGr_rfl) r1) r1
  exact ⟨M', e, r, fun o i q1 q2 => by
    rw [g o i q1 q2]
    exact if_neg (fun z => q1 ⟨z.1, Or.inl z.2⟩), gm, hb, hv⟩
end LN
end
section
/-! a house without a machine: 0: [rooms, things, sets], 1 size, 2 door (6 a + b), 3 bulk, 4 girth, 5 weight, 6 where, 7 members -/
def hR (h : pM) : Nat := (h 0 0).toNat
def hT (h : pM) : Nat := (h 0 1).toNat
def hS (h : pM) : Nat := (h 0 2).toNat
def me (h : pM) (s : Nat) : Nat := (h 7 s).toNat
def WF (h : pM) : Prop := hR h ≤ 6 ∧ hT h ≤ 10 ∧ hS h ≤ 8 ∧ (∀ r, r < hR h → 1 ≤ h 1 r ∧ h 1 r ≤ 99) ∧ (∀ p, p < 36 → 0 ≤ h 2 p ∧ h 2 p ≤ 9) ∧ (∀ a b, a < 6 → b < 6 → h 2 (6 * a + b) = h 2 (6 * b + a)) ∧ (∀ a b, a < 6 → b < 6 → (hR h ≤ a ∨ hR h ≤ b ∨ a = b) → h 2 (6 * a + b) = 0) ∧ (∀ t, t < hT h → (1 ≤ h 3 t ∧ h 3 t ≤ 99) ∧ (1 ≤ h 4 t ∧ h 4 t ≤ 9) ∧ (1 ≤ h 5 t ∧ h 5 t ≤ 9) ∧ (0 ≤ h 6 t ∧ h 6 t < hR h)) ∧ (∀ s, s < hS h → me h s < 2 ^ hT h)
/-- the class's house is h -/
def XH (M h : pM) : Prop := M 7 9 = hR h ∧ M 7 10 = hT h ∧ M 7 11 = hS h ∧ (∀ r, r < hR h → M 8 r = h 1 r) ∧ (∀ p, p < 36 → M 9 p = h 2 p) ∧ (∀ t, t < hT h → M 10 t = h 3 t ∧ M 11 t = h 4 t ∧ M 12 t = h 5 t ∧ M 13 t = h 6 t) ∧ (∀ s, s < hS h → M 14 s = me h s)
/-- object o tells a place for each thing, and it is p -/
def PL (M h : pM) (o : Nat) (p : Nat → Int) : Prop := ∀ t, t < hT h → M o t = p t ∧ 0 ≤ p t ∧ p t < hR h
/-- the memory changes at places of C alone -/
def ag (C : Nat → Nat → Bool) (M M' : pM) : Prop := ∀ o i, C o i = false → M' o i = M o i
section HX
variable {d : Nat} {M h : pM}
theorem c_isRoom7 (hd : 1 ≤ d) (W : WF h) (X : XH M h) {b : Int} (h1 : -2147483648 ≤ b) (h2 : b < 2147483648) : xF d 63 [.inr 9, .inl b] M = rI (if 0 ≤ b ∧ b < hR h then 1 else 0) M := by
  obtain ⟨D, rfl, -⟩ := dsucc hd
  have w1 := W.1
  rw [T_House_isRoom_7, X.1]
  simp (disch := omega) only [lt32_iff, le32_iff]
  by_cases q : b < 0
  · rw [if_pos q, if_neg (by omega)]
  · rw [if_neg q]
    by_cases q2 : (hR h : Int) ≤ b
    · rw [if_pos q2, if_neg (by omega)]
    · rw [if_neg q2, if_pos (by omega)]
theorem c_isThing7 (hd : 1 ≤ d) (W : WF h) (X : XH M h) {b : Int} (h1 : -2147483648 ≤ b) (h2 : b < 2147483648) : xF d 64 [.inr 9, .inl b] M = rI (if 0 ≤ b ∧ b < hT h then 1 else 0) M := by
  obtain ⟨D, rfl, -⟩ := dsucc hd
  have w1 := W.2.1
  rw [T_House_isThing, X.2.1]
  simp (disch := omega) only [lt32_iff, le32_iff]
  by_cases q : b < 0
  · rw [if_pos q, if_neg (by omega)]
  · rw [if_neg q]
    by_cases q2 : (hT h : Int) ≤ b
    · rw [if_pos q2, if_neg (by omega)]
    · rw [if_neg q2, if_pos (by omega)]
theorem c_unlike7 (hd : 2 ≤ d) (W : WF h) (X : XH M h) {a b : Int} (h1 : -2147483648 ≤ a) (h2 : a < 2147483648) (h3 : -2147483648 ≤ b) (h4 : b < 2147483648) : xF d 65 [.inr 9, .inl a, .inl b] M = rI (if (0 ≤ a ∧ a < hR h) ∧ (0 ≤ b ∧ b < hR h) ∧ a ≠ b then 1 else 0) M := by
  obtain ⟨D, rfl, hD⟩ := dsucc hd
  rw [T_House_areUnlikeRooms_7, c_isRoom7 hD W X h1 h2, pbI_rI, ite01p, c_isRoom7 hD W X h3 h4, pbI_rI, ite01p]
  simp only [eq32_iff h1 h2 h3 h4]
  by_cases qa : 0 ≤ a ∧ a < hR h
  · rw [if_pos qa]
    by_cases qb : 0 ≤ b ∧ b < hR h
    · rw [if_pos qb]
      by_cases e : a = b
      · rw [if_pos e, if_neg (fun q => q.2.2 e)]
      · rw [if_neg e, if_pos ⟨qa, qb, e⟩]
    · rw [if_neg qb, if_neg (fun q => qb q.2.1)]
  · rw [if_neg qa, if_neg (fun q => qa q.1)]
theorem c_doorWidth7 (hd : 3 ≤ d) (W : WF h) (X : XH M h) {a b : Int} (h1 : -2147483648 ≤ a) (h2 : a < 2147483648) (h3 : -2147483648 ≤ b) (h4 : b < 2147483648) : xF d 74 [.inr 9, .inl a, .inl b] M = rI (if (0 ≤ a ∧ a < hR h) ∧ (0 ≤ b ∧ b < hR h) ∧ a ≠ b then h 2 (6 * a.toNat + b.toNat) else 0) M := by
  obtain ⟨D, rfl, hD⟩ := dsucc hd
  have w1 := W.1
  rw [T_House_doorWidth, c_unlike7 hD W X h1 h2 h3 h4, pbI_rI, ite01p]
  by_cases q : (0 ≤ a ∧ a < hR h) ∧ (0 ≤ b ∧ b < hR h) ∧ a ≠ b
  · rw [if_pos q, if_pos q, if_pos (by omega)]
    have e : ((a * 6) + b).toNat = 6 * a.toNat + b.toNat := by omega
    rw [e, X.2.2.2.2.1 _ (by omega)]
  · rw [if_neg q, if_neg q]
theorem c_doorWidth7n (hd : 3 ≤ d) (W : WF h) (X : XH M h) {a b : Nat} (ha : a < 6) (hb : b < 6) : xF d 74 [.inr 9, .inl (a : Int), .inl (b : Int)] M = rI (h 2 (6 * a + b)) M := by
  rw [c_doorWidth7 hd W X (by omega) (by omega) (by omega) (by omega)]
  by_cases q : (0 ≤ (a : Int) ∧ (a : Int) < hR h) ∧ (0 ≤ (b : Int) ∧ (b : Int) < hR h) ∧ (a : Int) ≠ b
  · rw [if_pos q, Int.toNat_natCast, Int.toNat_natCast]
  · rw [if_neg q, W.2.2.2.2.2.2.1 a b ha hb (by omega)]
/-- one step on: what is seen, and what lies behind a door of that width from it -/
def oneL (seen : Nat) (dw : Nat → Bool) : Nat → Nat
  | 0 => seen
  | k + 1 => if seen.testBit (k / 6) && dw k then oneL seen dw k ||| 2 ^ (k % 6) else oneL seen dw k
theorem oneL_lt {seen : Nat} {dw : Nat → Bool} (hs : seen < 64) : ∀ k, oneL seen dw k < 64
  | 0 => hs
  | k + 1 => by
    unfold oneL
    split
    · exact Nat.or_lt_two_pow (n := 6) (oneL_lt hs k) (Nat.pow_lt_pow_right (by decide) (Nat.mod_lt _ (by decide)))
    · exact oneL_lt hs k
theorem oneL_bit {seen : Nat} {dw : Nat → Bool} {b : Nat} : ∀ k, (oneL seen dw k).testBit b = true ↔ seen.testBit b = true ∨ ∃ p, p < k ∧ p % 6 = b ∧ seen.testBit (p / 6) = true ∧ dw p = true
  | 0 => by
    unfold oneL
    constructor
    · exact Or.inl
    · rintro (h1 | ⟨p, h1, -⟩)
      · exact h1
      · omega
  | k + 1 => by
    have ih := oneL_bit (seen := seen) (dw := dw) (b := b) k
    unfold oneL
    split
    · rename_i hc
      rw [Bool.and_eq_true] at hc
      rw [Nat.testBit_or, Bool.or_eq_true, ih]
      constructor
      · rintro ((h1 | ⟨p, h1, h2⟩) | h1)
        · exact Or.inl h1
        · exact Or.inr ⟨p, by omega, h2⟩
        · have e := Nat.testBit_two_pow.symm ▸ h1
          rw [Nat.testBit_two_pow] at h1
          exact Or.inr ⟨k, Nat.lt_succ_self k, of_decide_eq_true h1, hc.1, hc.2⟩
      · rintro (h1 | ⟨p, h1, h2, h3, h4⟩)
        · exact Or.inl (Or.inl h1)
        · rcases Nat.lt_or_ge p k with q | q
          · exact Or.inl (Or.inr ⟨p, q, h2, h3, h4⟩)
          · have : p = k := by omega
            subst this
            exact Or.inr (by rw [Nat.testBit_two_pow]; exact decide_eq_true h2)
    · rename_i hc
      rw [ih]
      constructor
      · rintro (h1 | ⟨p, h1, h2⟩)
        · exact Or.inl h1
        · exact Or.inr ⟨p, by omega, h2⟩
      · rintro (h1 | ⟨p, h1, h2, h3, h4⟩)
        · exact Or.inl h1
        · rcases Nat.lt_or_ge p k with q | q
          · exact Or.inr ⟨p, q, h2, h3, h4⟩
          · have : p = k := by omega
            subst this
            exact absurd (by rw [h3, h4]; rfl) hc
theorem oneL_succ (seen : Nat) (dw : Nat → Bool) (k : Nat) : oneL seen dw (k + 1) = if seen.testBit (k / 6) && dw k then oneL seen dw k ||| 2 ^ (k % 6) else oneL seen dw k := rfl
def oneS (h : pM) (w : Int) (seen : Nat) : Nat := oneL seen (fun p => decide (w ≤ h 2 p)) 36
theorem oneS_lt {w : Int} {seen : Nat} (hs : seen < 64) : oneS h w seen < 64 := oneL_lt hs 36
theorem c_oneStep (hd : 2 ≤ d) (W : WF h) (X : XH M h) {seen : Nat} (hs : seen < 64) {w : Int} (hw1 : 0 ≤ w) (hw2 : w ≤ 9) : xF d 78 [.inr 9, .inl (seen : Int), .inl w] M = rI (oneS h w seen) M := by
  obtain ⟨D, rfl, hD⟩ := dsucc hd
  rw [T_House_oneStepFrom]
  have key : ∀ k : Nat, k ≤ 36 → xE D 78 4 [.inr 9, .inl (seen : Int), .inl w, .inl (seen : Int), .inl 0] [] M = xE D 78 4 [.inr 9, .inl (seen : Int), .inl w, .inl (oneL seen (fun p => decide (w ≤ h 2 p)) k : Nat), .inl (k : Int)] [] M := by
    intro k
    induction k with
    | zero => intro _; rfl
    | succ k ih =>
      intro hk
      have hv := W.2.2.2.2.1 k (by omega)
      have hx := X.2.2.2.2.1 k (by omega)
      have hl := oneL_lt (dw := fun p => decide (w ≤ h 2 p)) hs k
      rw [ih (by omega), L_House_oneStepFrom_4, if_neg (by rw [le32_iff] <;> omega), show (6 : Int) = ((6 : Nat) : Int) from rfl, jdiv_nat (by omega) (by decide) (by decide), c_has hD (by omega) (by omega), pbI_rI, ite01]
      rw [oneL_succ]
      generalize oneL seen (fun p => decide (w ≤ h 2 p)) k = acc at hl ⊢
      cases hb : seen.testBit (k / 6) with
      | false => rfl
      | true =>
        rw [if_pos rfl, if_pos (by omega), Int.toNat_natCast, hx, jrem_nat (by omega) (by decide) (by decide)]
        have h6 : k % 6 < 6 := Nat.mod_lt _ (by decide)
        have h7 : 2 ^ (k % 6) < 64 := Nat.pow_lt_pow_right (n := 6) (by decide) h6
        simp (disch := omega) only [lt32_iff]
        by_cases q : h 2 k < w
        · rw [if_pos q, if_neg (by simp; omega)]; rfl
        · rw [if_neg q, if_pos (by simp; omega), jshl_one _ (by omega), jor_nat (by omega) (by omega)]; rfl
  rw [key 36 (by decide), L_House_oneStepFrom_4, if_pos (by rw [le32_iff] <;> omega)]
  rfl
/-- rooms that a thing of that width comes to in so many steps -/
def rch (h : pM) (w : Int) (a : Nat) : Nat → Nat
  | 0 => 2 ^ a
  | n + 1 => oneS h w (rch h w a n)
theorem rch_lt {w : Int} {a : Nat} (ha : a < 6) : ∀ n, rch h w a n < 64
  | 0 => Nat.pow_lt_pow_right (n := 6) (by decide) ha
  | n + 1 => oneS_lt (rch_lt ha n)
/-- steps from a to b, -1: none -/
def stp (h : pM) (w : Int) (a b : Nat) : Int := firstN (fun n => (rch h w a n).testBit b) 0 (hR h)
theorem c_steps (hd : 3 ≤ d) (W : WF h) (X : XH M h) {a b : Nat} (ha : a < hR h) (hb : b < hR h) {w : Int} (hw1 : 0 ≤ w) (hw2 : w ≤ 9) : xF d 80 [.inr 9, .inl w, .inl (a : Int), .inl (b : Int)] M = rI (stp h w a b) M := by
  obtain ⟨D, rfl, hD⟩ := dsucc hd
  have w1 := W.1
  rw [T_House_steps, c_isRoom7 (by omega) W X (by omega) (by omega), pbI_rI, ite01p, if_pos (by omega), c_isRoom7 (by omega) W X (by omega) (by omega), pbI_rI, ite01pn, if_pos (by omega), jshl_one _ (by omega)]
  have key : ∀ m k : Nat, k + m = hR h → xE D 80 16 [.inr 9, .inl w, .inl (a : Int), .inl (b : Int), .inl (rch h w a k : Nat), .inl (k : Int)] [] M = rI (firstN (fun n => (rch h w a n).testBit b) k m) M := by
    intro m
    induction m with
    | zero =>
      intro k hk
      rw [L_House_steps_16, X.1, if_pos (by rw [le32_iff] <;> omega)]; rfl
    | succ m ih =>
      intro k hk
      have hl := rch_lt (h := h) (w := w) (a := a) (by omega) k
      rw [L_House_steps_16, X.1, if_neg (by rw [le32_iff] <;> omega), c_has (by omega) (by omega) (by omega), pbI_rI, ite01]
      unfold firstN
      cases hc : (rch h w a k).testBit b with
      | true => rw [if_pos rfl, if_pos rfl]
      | false =>
        rw [if_neg (by simp), if_neg (by simp), c_oneStep (by omega) W X hl hw1 hw2, pbI_rI]
        exact ih (k + 1) (by omega)
  exact key (hR h) 0 (by omega)
theorem stp_range (W : WF h) (w : Int) (a b : Nat) : -1 ≤ stp h w a b ∧ stp h w a b ≤ 5 := by
  have w1 := W.1
  unfold stp
  rcases firstN_range (fun n => (rch h w a n).testBit b) (hR h) with q | q <;> omega
/-- what carrying a thing from a to b costs, -1: it does not get there -/
def cst (h : pM) (t : Nat) (a b : Nat) : Int := if stp h (h 4 t) a b < 0 then -1 else stp h (h 4 t) a b * h 5 t
theorem cst_range (W : WF h) {t : Nat} (ht : t < hT h) (a b : Nat) : -1 ≤ cst h t a b ∧ cst h t a b ≤ 45 := by
  have h1 := stp_range W (h 4 t) a b
  have h2 := (W.2.2.2.2.2.2.2.1 t ht).2.2.1
  unfold cst
  split
  · omega
  · have h3 : 0 ≤ stp h (h 4 t) a b * h 5 t := Int.mul_nonneg (by omega) (by omega)
    have h4 : stp h (h 4 t) a b * h 5 t ≤ 5 * 9 := Int.mul_le_mul h1.2 h2.2 (by omega) (by omega)
    omega
theorem c_cost (hd : 4 ≤ d) (W : WF h) (X : XH M h) {t a b : Nat} (ht : t < hT h) (ha : a < hR h) (hb : b < hR h) : xF d 82 [.inr 9, .inl (t : Int), .inl (a : Int), .inl (b : Int)] M = rI (cst h t a b) M := by
  obtain ⟨D, rfl, hD⟩ := dsucc hd
  have w2 := W.2.1
  have hw := W.2.2.2.2.2.2.2.1 t ht
  have hx := X.2.2.2.2.2.1 t ht
  have hs := stp_range W (h 4 t) a b
  rw [T_House_cost, c_isThing7 (by omega) W X (by omega) (by omega), pbI_rI, ite01pn, if_pos (by omega), if_pos (by omega), Int.toNat_natCast, hx.2.1, c_steps (by omega) W X ha hb (by omega) (by omega), pbI_rI]
  simp (disch := omega) only [le32_iff]
  unfold cst
  by_cases q : 0 ≤ stp h (h 4 t) a b
  · rw [if_pos q, if_pos (by omega), if_neg (by omega), hx.2.2.1]
  · rw [if_neg q, if_pos (by omega)]
end HX
end
section
/-! lines read into a house -/
def addR (h : pM) (v : Int) : pM := pset (pset h 1 (hR h) v) 0 0 ((hR h : Int) + 1)
def addD (h : pM) (x y : Nat) (w : Int) : pM := pset (pset h 2 (6 * x + y) w) 2 (6 * y + x) w
def addS (h : pM) (b : Nat) : pM := pset (pset h 7 (hS h) (b : Int)) 0 2 ((hS h : Int) + 1)
def addT (h : pM) (b w g r : Int) : pM := pset (pset (pset (pset (pset h 3 (hT h) b) 4 (hT h) w) 5 (hT h) g) 6 (hT h) r) 0 1 ((hT h : Int) + 1)
/-- two rooms again: the second one can't stand -/
noncomputable def sgE (x y : Int) (s : rgs) : rgs := match s with
  | .inl p => .inl p
  | .inr b => if x = y then .inl (b - 1) else .inr b
noncomputable def d1V (tx : Nat → Int) (st R a : Nat) : Int := sgV tx st 0 ((R : Int) - 1) (.inr (a + 1))
noncomputable def d2S (tx : Nat → Int) (st R a : Nat) : rgs := sgN tx st 45 (sgD tx st 0 ((R : Int) - 1) (.inr (a + 1)))
noncomputable def d2V (tx : Nat → Int) (st R a : Nat) : Int := sgV tx st 0 ((R : Int) - 1) (d2S tx st R a)
noncomputable def d3S (tx : Nat → Int) (st R a : Nat) : rgs := sgN tx st 61 (sgE (d1V tx st R a) (d2V tx st R a) (sgD tx st 0 ((R : Int) - 1) (d2S tx st R a)))
noncomputable def d3V (tx : Nat → Int) (st R a : Nat) : Int := sgV tx st 1 9 (d3S tx st R a)
/-- a line at a -/
noncomputable def lnS (tx : Nat → Int) (st : Nat) (h : pM) (a : Nat) : rgs × pM :=
  if hc tx st a = 114 then (if hR h = 6 then (.inl a, h) else (sgI tx st (.inr (a + 1)), addR h (sgIv tx st (.inr (a + 1)))))
  else if hc tx st a = 100 then (sgD tx st 1 9 (d3S tx st (hR h) a), addD h (d1V tx st (hR h) a).toNat (d2V tx st (hR h) a).toNat (d3V tx st (hR h) a))
  else if hc tx st a = 115 then (if hS h = 8 then (.inl a, h) else ((sgL tx st (hT h) 11 (a + 1) 0 (-1)).1, addS h (sgL tx st (hT h) 11 (a + 1) 0 (-1)).2))
  else if hT h = 10 then (.inl a, h) else (sgT tx st (hR h) (.inr a), addT h (sgIv tx st (.inr a)) (tvW tx st (.inr a)) (tvG tx st (.inr a)) (tvR tx st (hR h) (.inr a)))
/-- all lines: where it ends, the house, how many -/
noncomputable def phS (tx : Nat → Int) (st : Nat) : Nat → Nat → pM → Nat → rgs × pM × Nat
  | 0, a, h, n => (.inl a, h, n)
  | f + 1, a, h, n => match (lnS tx st h a).1 with
    | .inl p => (.inl p, (lnS tx st h a).2, n + 1)
    | .inr b => if hc tx st b = 59 then phS tx st f (b + 1) (lnS tx st h a).2 (n + 1) else (.inr b, (lnS tx st h a).2, n + 1)
/-- the whole text: a fault, or all of it -/
def phE (L : Nat) (s : rgs) : rgs := match s with
  | .inl p => .inl p
  | .inr b => if b < L then .inl b else .inr b
theorem sgE_inr {x y : Int} {s : rgs} {b : Nat} (h : sgE x y s = .inr b) : s = .inr b ∧ x ≠ y := by
  cases s with
  | inl p => cases h
  | inr a =>
    have h : (if x = y then .inl (a - 1) else .inr a : rgs) = .inr b := h
    by_cases q : x = y
    · rw [if_pos q] at h; cases h
    · rw [if_neg q] at h; cases h; exact ⟨rfl, q⟩
theorem sgL_inr {tx : Nat → Int} {st T : Nat} : ∀ (f a bits : Nat) (last : Int) (b : Nat), T ≤ 10 → bits < 2 ^ T → (bits ≠ 0 ∨ True) → (sgL tx st T f a bits last).1 = .inr b → a ≤ b ∧ (sgL tx st T f a bits last).2 < 2 ^ T ∧ (sgL tx st T f a bits last).2 ≠ 0
  | 0, a, bits, last, b, _, _, _, h => by cases h
  | f + 1, a, bits, last, b, hT, hb, hn, h => by
    by_cases q : 97 ≤ hc tx st a ∧ hc tx st a ≤ 106
    · by_cases q1 : hc tx st a - 97 ≤ last ∨ (T : Int) ≤ hc tx st a - 97
      · have eL : sgL tx st T (f + 1) a bits last = (.inl a, bits) := by
          show (if _ ∧ _ then (if _ ∨ _ then _ else _) else _) = _
          rw [if_pos q, if_pos q1]
        rw [eL] at h; cases h
      · have eL : sgL tx st T (f + 1) a bits last = sgL tx st T f (a + 1) (bits ||| 2 ^ (hc tx st a - 97).toNat) (hc tx st a - 97) := by
          show (if _ ∧ _ then (if _ ∨ _ then _ else _) else _) = _
          rw [if_pos q, if_neg q1]
        rw [eL] at h ⊢
        obtain ⟨k, hk⟩ := natI (show 0 ≤ hc tx st a - 97 by omega)
        rw [hk, Int.toNat_natCast] at h ⊢
        have := sgL_inr f (a + 1) (bits ||| 2 ^ k) k b hT (Nat.or_lt_two_pow hb (Nat.pow_lt_pow_right (by decide) (by omega))) (Or.inr trivial) h
        exact ⟨by omega, this.2⟩
    · have eL : sgL tx st T (f + 1) a bits last = (if bits = 0 then .inl a else .inr a, bits) := by
        show (if _ ∧ _ then _ else _) = _
        rw [if_neg q]
      rw [eL] at h ⊢
      by_cases z : bits = 0
      · rw [if_pos z] at h; cases h
      · rw [if_neg z] at h; cases h
        exact ⟨Nat.le_refl _, hb, z⟩
/-- how far a line goes -/
theorem lnS_gt {tx : Nat → Int} {st : Nat} {h : pM} {a b : Nat} (hT : hT h ≤ 10) (hl : (lnS tx st h a).1 = .inr b) : a < b := by
  unfold lnS at hl
  split at hl
  · split at hl
    · cases hl
    · dsimp only at hl
      obtain ⟨a1, e1, e2, -⟩ := sgI_inr hl
      cases e1; omega
  · split at hl
    · dsimp only at hl
      obtain ⟨a1, e1, e2, -⟩ := sgD_inr hl
      obtain ⟨a2, e3, e4, -⟩ := sgN_inr e1
      obtain ⟨e5, -⟩ := sgE_inr e3
      obtain ⟨a4, e6, e7, -⟩ := sgD_inr e5
      obtain ⟨a5, e8, e9, -⟩ := sgN_inr e6
      obtain ⟨a6, e10, e11, -⟩ := sgD_inr e8
      cases e10; omega
    · split at hl
      · split at hl
        · cases hl
        · dsimp only at hl
          have := sgL_inr 11 (a + 1) 0 (-1) b hT (Nat.two_pow_pos _) (Or.inr trivial) hl
          omega
      · split at hl
        · cases hl
        · dsimp only at hl
          obtain ⟨a1, e1, e2, -⟩ := sgD_inr hl
          obtain ⟨a2, e3, e4, -⟩ := sgN_inr e1
          obtain ⟨a3, e5, e6, -⟩ := sgD_inr e3
          obtain ⟨a4, e7, e8, -⟩ := sgN_inr e5
          obtain ⟨a5, e9, e10, -⟩ := sgD_inr e7
          obtain ⟨a6, e11, e12, -⟩ := sgN_inr e9
          obtain ⟨a7, e13, e14, -⟩ := sgI_inr e11
          cases e13; omega
section HC
variable {h : pM}
theorem hR_addR (v : Int) : hR (addR h v) = hR h + 1 := by
  unfold addR
  show ((pset _ 0 0 _ 0 0 : Int)).toNat = _
  rw [pset_eq]; omega
theorem hT_addR (v : Int) : hT (addR h v) = hT h := by
  unfold addR hT
  rw [pset_ne2 (by decide), pset_ne (by decide)]
theorem hS_addR (v : Int) : hS (addR h v) = hS h := by
  unfold addR hS
  rw [pset_ne2 (by decide), pset_ne (by decide)]
theorem hx_addD (x y : Nat) (w : Int) (i : Nat) : addD h x y w 0 i = h 0 i := by
  unfold addD
  rw [pset_ne (by decide), pset_ne (by decide)]
theorem hR_addS (b : Nat) : hR (addS h b) = hR h := by
  unfold addS hR
  rw [pset_ne2 (by decide), pset_ne (by decide)]
theorem hT_addS (b : Nat) : hT (addS h b) = hT h := by
  unfold addS hT
  rw [pset_ne2 (by decide), pset_ne (by decide)]
theorem hS_addS (b : Nat) : hS (addS h b) = hS h + 1 := by
  unfold addS
  show ((pset _ 0 2 _ 0 2 : Int)).toNat = _
  rw [pset_eq]; omega
theorem hR_addT (b w g r : Int) : hR (addT h b w g r) = hR h := by
  unfold addT hR
  rw [pset_ne2 (by decide), pset_ne (by decide), pset_ne (by decide), pset_ne (by decide), pset_ne (by decide)]
theorem hS_addT (b w g r : Int) : hS (addT h b w g r) = hS h := by
  unfold addT hS
  rw [pset_ne2 (by decide), pset_ne (by decide), pset_ne (by decide), pset_ne (by decide), pset_ne (by decide)]
theorem hT_addT (b w g r : Int) : hT (addT h b w g r) = hT h + 1 := by
  unfold addT
  show ((pset _ 0 1 _ 0 1 : Int)).toNat = _
  rw [pset_eq]; omega
end HC
/-- the house after a good line is a house -/
theorem WF_ln {tx : Nat → Int} {st : Nat} {h : pM} {a b : Nat} (W : WF h) (hl : (lnS tx st h a).1 = .inr b) : WF (lnS tx st h a).2 := by
  obtain ⟨w1, w2, w3, w4, w5, w6, w7, w8, w9⟩ := W
  unfold lnS at hl ⊢
  split at hl
  · rename_i c1
    rw [if_pos c1]
    split at hl
    · cases hl
    · rename_i c2
      rw [if_neg c2]
      dsimp only at hl ⊢
      obtain ⟨a1, e1, e2, e3, e4⟩ := sgI_inr hl
      refine ⟨by rw [hR_addR]; omega, by rw [hT_addR]; exact w2, by rw [hS_addR]; exact w3, fun r hr => ?_, fun p hp => ?_, fun x y hx hy => ?_, fun x y hx hy hxy => ?_, fun t ht => ?_, fun s hs => ?_⟩
      · rw [hR_addR] at hr
        unfold addR
        rw [pset_ne (by decide)]
        by_cases q : r = hR h
        · rw [q, pset_eq]; exact ⟨e3, e4⟩
        · rw [pset_ne2 q]; exact w4 r (by omega)
      · unfold addR
        rw [pset_ne (by decide), pset_ne (by decide)]; exact w5 p hp
      · unfold addR
        rw [pset_ne (by decide), pset_ne (by decide), pset_ne (by decide), pset_ne (by decide)]; exact w6 x y hx hy
      · rw [hR_addR] at hxy
        unfold addR
        rw [pset_ne (by decide), pset_ne (by decide)]; exact w7 x y hx hy (by omega)
      · rw [hT_addR] at ht
        rw [hR_addR]
        unfold addR
        simp only [pset_ne (show (3 : Nat) ≠ 0 by decide), pset_ne (show (3 : Nat) ≠ 1 by decide), pset_ne (show (4 : Nat) ≠ 0 by decide), pset_ne (show (4 : Nat) ≠ 1 by decide), pset_ne (show (5 : Nat) ≠ 0 by decide), pset_ne (show (5 : Nat) ≠ 1 by decide), pset_ne (show (6 : Nat) ≠ 0 by decide), pset_ne (show (6 : Nat) ≠ 1 by decide)]
        have := w8 t ht
        exact ⟨this.1, this.2.1, this.2.2.1, this.2.2.2.1, by have := this.2.2.2.2; omega⟩
      · rw [hS_addR] at hs
        rw [hT_addR]
        have e : me (addR h (sgIv tx st (.inr (a + 1)))) s = me h s := by
          unfold me addR
          rw [pset_ne (by decide), pset_ne (by decide)]
        rw [e]; exact w9 s hs
  · rename_i c1
    rw [if_neg c1]
    split at hl
    · rename_i c2
      rw [if_pos c2]
      dsimp only at hl ⊢
      obtain ⟨a1, e1, e2, v3a, v3b, -⟩ := sgD_inr hl
      obtain ⟨a2, e3, e4, -⟩ := sgN_inr e1
      obtain ⟨e5, hne⟩ := sgE_inr e3
      obtain ⟨a4, e6, e7, v2a, v2b, -⟩ := sgD_inr e5
      obtain ⟨a5, e8, e9, -⟩ := sgN_inr e6
      obtain ⟨a6, e10, e11, v1a, v1b, -⟩ := sgD_inr e8
      have hx0 : 0 ≤ d1V tx st (hR h) a ∧ d1V tx st (hR h) a < hR h := ⟨v1a, by unfold d1V; omega⟩
      have hy0 : 0 ≤ d2V tx st (hR h) a ∧ d2V tx st (hR h) a < hR h := ⟨v2a, by unfold d2V; omega⟩
      have hw0 : 1 ≤ d3V tx st (hR h) a ∧ d3V tx st (hR h) a ≤ 9 := ⟨v3a, v3b⟩
      generalize d3V tx st (hR h) a = w at hw0
      obtain ⟨x, hx⟩ := natI hx0.1
      obtain ⟨y, hy⟩ := natI hy0.1
      rw [hx, hy] at hne
      rw [hx] at hx0
      rw [hy] at hy0
      rw [hx, hy, Int.toNat_natCast, Int.toNat_natCast]
      have hxy : x ≠ y := fun z => hne (by rw [z])
      have eR : hR (addD h x y w) = hR h := by unfold hR; rw [hx_addD]
      have eT : hT (addD h x y w) = hT h := by unfold hT; rw [hx_addD]
      have eS : hS (addD h x y w) = hS h := by unfold hS; rw [hx_addD]
      have e2v : ∀ p, addD h x y w 2 p = if p = 6 * y + x ∨ p = 6 * x + y then w else h 2 p := by
        intro p
        unfold addD
        by_cases q : p = 6 * y + x
        · rw [q, pset_eq, if_pos (Or.inl rfl)]
        · rw [pset_ne2 q]
          by_cases q2 : p = 6 * x + y
          · rw [q2, pset_eq, if_pos (Or.inr rfl)]
          · rw [pset_ne2 q2, if_neg (fun z => z.elim q q2)]
      have eo : ∀ o i, o ≠ 2 → addD h x y w o i = h o i := fun o i ho => by
        unfold addD
        rw [pset_ne ho, pset_ne ho]
      refine ⟨by rw [eR]; exact w1, by rw [eT]; exact w2, by rw [eS]; exact w3, fun r hr => ?_, fun p hp => ?_, fun x' y' hx' hy' => ?_, fun x' y' hx' hy' hxy' => ?_, fun t ht => ?_, fun s hs => ?_⟩
      · rw [eR] at hr; rw [eo 1 r (by decide)]; exact w4 r hr
      · rw [e2v]
        split
        · omega
        · exact w5 p hp
      · rw [e2v, e2v]
        by_cases q : 6 * x' + y' = 6 * y + x ∨ 6 * x' + y' = 6 * x + y
        · rw [if_pos q, if_pos (by omega)]
        · rw [if_neg q, if_neg (by omega)]; exact w6 x' y' hx' hy'
      · rw [eR] at hxy'
        rw [e2v, if_neg (by omega)]
        exact w7 x' y' hx' hy' hxy'
      · rw [eT] at ht
        rw [eR, eo 3 t (by decide), eo 4 t (by decide), eo 5 t (by decide), eo 6 t (by decide)]
        exact w8 t ht
      · rw [eS] at hs
        rw [eT]
        have e : me (addD h x y w) s = me h s := by unfold me; rw [eo 7 s (by decide)]
        rw [e]; exact w9 s hs
    · rename_i c2
      rw [if_neg c2]
      split at hl
      · rename_i c3
        rw [if_pos c3]
        split at hl
        · cases hl
        · rename_i c4
          rw [if_neg c4]
          dsimp only at hl ⊢
          have k := sgL_inr 11 (a + 1) 0 (-1) b w2 (Nat.two_pow_pos _) (Or.inr trivial) hl
          generalize (sgL tx st (hT h) 11 (a + 1) 0 (-1)).2 = bits at k
          have eo : ∀ o i, o ≠ 0 → o ≠ 7 → addS h bits o i = h o i := fun o i h0 h7 => by
            unfold addS
            rw [pset_ne h0, pset_ne h7]
          refine ⟨by rw [hR_addS]; exact w1, by rw [hT_addS]; exact w2, by rw [hS_addS]; omega, fun r hr => ?_, fun p hp => ?_, fun x' y' hx' hy' => ?_, fun x' y' hx' hy' hxy' => ?_, fun t ht => ?_, fun s hs => ?_⟩
          · rw [hR_addS] at hr; rw [eo 1 r (by decide) (by decide)]; exact w4 r hr
          · rw [eo 2 p (by decide) (by decide)]; exact w5 p hp
          · rw [eo 2 _ (by decide) (by decide), eo 2 _ (by decide) (by decide)]; exact w6 x' y' hx' hy'
          · rw [hR_addS] at hxy'; rw [eo 2 _ (by decide) (by decide)]; exact w7 x' y' hx' hy' hxy'
          · rw [hT_addS] at ht
            rw [hR_addS, eo 3 t (by decide) (by decide), eo 4 t (by decide) (by decide), eo 5 t (by decide) (by decide), eo 6 t (by decide) (by decide)]
            exact w8 t ht
          · rw [hS_addS] at hs
            rw [hT_addS]
            unfold me addS
            rw [pset_ne (by decide)]
            by_cases q : s = hS h
            · rw [q, pset_eq, Int.toNat_natCast]; exact k.2.1
            · rw [pset_ne2 q]; exact w9 s (by omega)
      · rename_i c3
        rw [if_neg c3]
        split at hl
        · cases hl
        · rename_i c4
          rw [if_neg c4]
          dsimp only at hl ⊢
          obtain ⟨a1, e1, e2, vra, vrb, -⟩ := sgD_inr hl
          obtain ⟨a2, e3, e4, -⟩ := sgN_inr e1
          obtain ⟨a3, e5, e6, vga, vgb, -⟩ := sgD_inr e3
          obtain ⟨a4, e7, e8, -⟩ := sgN_inr e5
          obtain ⟨a5, e9, e10, vwa, vwb, -⟩ := sgD_inr e7
          obtain ⟨a6, e11, e12, -⟩ := sgN_inr e9
          obtain ⟨a7, e13, e14, vba, vbb⟩ := sgI_inr e11
          have kr : 0 ≤ tvR tx st (hR h) (.inr a) ∧ tvR tx st (hR h) (.inr a) < hR h := ⟨vra, by unfold tvR; omega⟩
          have kg : 1 ≤ tvG tx st (.inr a) ∧ tvG tx st (.inr a) ≤ 9 := ⟨vga, vgb⟩
          have kw : 1 ≤ tvW tx st (.inr a) ∧ tvW tx st (.inr a) ≤ 9 := ⟨vwa, vwb⟩
          generalize tvR tx st (hR h) (.inr a) = r at kr
          generalize tvG tx st (.inr a) = g at kg
          generalize tvW tx st (.inr a) = w at kw
          generalize sgIv tx st (.inr a) = bu at vba vbb
          have eo : ∀ o i, o ≠ 0 → (o < 3 ∨ 6 < o) → addT h bu w g r o i = h o i := fun o i h0 h7 => by
            unfold addT
            rw [pset_ne h0, pset_ne (by omega), pset_ne (by omega), pset_ne (by omega), pset_ne (by omega)]
          refine ⟨by rw [hR_addT]; exact w1, by rw [hT_addT]; omega, by rw [hS_addT]; exact w3, fun x hx => ?_, fun p hp => ?_, fun x' y' hx' hy' => ?_, fun x' y' hx' hy' hxy' => ?_, fun t ht => ?_, fun s hs => ?_⟩
          · rw [hR_addT] at hx; rw [eo 1 x (by decide) (by decide)]; exact w4 x hx
          · rw [eo 2 p (by decide) (by decide)]; exact w5 p hp
          · rw [eo 2 _ (by decide) (by decide), eo 2 _ (by decide) (by decide)]; exact w6 x' y' hx' hy'
          · rw [hR_addT] at hxy'; rw [eo 2 _ (by decide) (by decide)]; exact w7 x' y' hx' hy' hxy'
          · rw [hT_addT] at ht
            rw [hR_addT]
            by_cases q : t = hT h
            · have v3 : addT h bu w g r 3 t = bu := by unfold addT; rw [q, pset_ne (by decide), pset_ne (by decide), pset_ne (by decide), pset_ne (by decide), pset_eq]
              have v4 : addT h bu w g r 4 t = w := by unfold addT; rw [q, pset_ne (by decide), pset_ne (by decide), pset_ne (by decide), pset_eq]
              have v5 : addT h bu w g r 5 t = g := by unfold addT; rw [q, pset_ne (by decide), pset_ne (by decide), pset_eq]
              have v6 : addT h bu w g r 6 t = r := by unfold addT; rw [q, pset_ne (by decide), pset_eq]
              rw [v3, v4, v5, v6]
              exact ⟨⟨vba, vbb⟩, kw, kg, kr⟩
            · have v3 : addT h bu w g r 3 t = h 3 t := by unfold addT; rw [pset_ne (by decide), pset_ne (by decide), pset_ne (by decide), pset_ne (by decide), pset_ne2 q]
              have v4 : addT h bu w g r 4 t = h 4 t := by unfold addT; rw [pset_ne (by decide), pset_ne (by decide), pset_ne (by decide), pset_ne2 q, pset_ne (by decide)]
              have v5 : addT h bu w g r 5 t = h 5 t := by unfold addT; rw [pset_ne (by decide), pset_ne (by decide), pset_ne2 q, pset_ne (by decide), pset_ne (by decide)]
              have v6 : addT h bu w g r 6 t = h 6 t := by unfold addT; rw [pset_ne (by decide), pset_ne2 q, pset_ne (by decide), pset_ne (by decide), pset_ne (by decide)]
              rw [v3, v4, v5, v6]
              exact w8 t (by omega)
          · rw [hS_addT] at hs
            rw [hT_addT]
            have e : me (addT h bu w g r) s = me h s := by unfold me; rw [eo 7 s (by decide) (by decide)]
            rw [e]
            exact Nat.lt_trans (w9 s hs) (Nat.pow_lt_pow_right (by decide) (by omega))
end
section
/-! the reference reads a house -/
/-- the reference's house is h -/
def MH (M h : pM) : Prop := M 60 0 = hR h ∧ M 60 3 = hT h ∧ M 60 8 = hS h ∧ (∀ r, r < hR h → M 61 r = h 1 r) ∧ (∀ p, p < 36 → M 62 p = h 2 p) ∧ (∀ t, t < hT h → M 63 t = h 3 t ∧ M 64 t = h 4 t ∧ M 65 t = h 5 t ∧ M 66 t = h 6 t) ∧ (∀ s, s < hS h → M 67 s = me h s)
/-- doors told so far, one behind the other -/
def dAp (nd f : Nat → Int) : Nat → Nat → Int
  | 0 => f
  | i + 1 => fun p => if p = 6 * (nd (3 * i + 1)).toNat + (nd (3 * i)).toNat ∨ p = 6 * (nd (3 * i)).toNat + (nd (3 * i + 1)).toNat then nd (3 * i + 2) else dAp nd f i p
theorem dAp_cg {nd nd' f : Nat → Int} : ∀ k p, (∀ i, i < 3 * k → nd' i = nd i) → dAp nd' f k p = dAp nd f k p
  | 0, _, _ => rfl
  | k + 1, p, h => by
    show (if _ ∨ _ then nd' (3 * k + 2) else dAp nd' f k p) = (if _ ∨ _ then nd (3 * k + 2) else dAp nd f k p)
    rw [h (3 * k) (by omega), h (3 * k + 1) (by omega), h (3 * k + 2) (by omega), dAp_cg k p (fun i hi => h i (by omega))]
/-- the draft h, read from h0 on, with k doors told -/
def LI (h0 h : pM) (k : Nat) (M : pM) : Prop := (∀ r, r < hR h → M 61 r = h 1 r) ∧ (∀ t, t < hT h → M 63 t = h 3 t ∧ M 64 t = h 4 t ∧ M 65 t = h 5 t ∧ M 66 t = h 6 t) ∧ (∀ s, s < hS h → M 67 s = me h s) ∧ (∀ p, p < 36 → h 2 p = dAp (M 70) (h0 2) k p) ∧ ∀ i, i < k → ∃ x y : Nat, M 70 (3 * i) = (x : Int) ∧ M 70 (3 * i + 1) = (y : Int) ∧ x < 6 ∧ y < 6 ∧ 0 ≤ M 70 (3 * i + 2) ∧ M 70 (3 * i + 2) ≤ 9
/-- what reading may change -/
def BF (h0 M0 M : pM) : Prop := ∀ o i, o ≠ 70 → ¬ (o = 60 ∧ (i = 21 ∨ i = 22)) → ¬ (o = 61 ∧ hR h0 ≤ i) → ¬ (63 ≤ o ∧ o ≤ 66 ∧ hT h0 ≤ i) → ¬ (o = 67 ∧ hS h0 ≤ i) → M o i = M0 o i
theorem gM_70 {M : pM} (hM : gM gAll M) {i : Nat} {v : Int} (h0 : 0 ≤ v) (h1 : v ≤ 9) (h2 : i % 3 ≠ 2 → v ≤ 5) : gM gAll (pset M 70 i v) := by
  intro o k hk
  unfold pset
  split
  · rename_i q
    obtain ⟨rfl, rfl⟩ := q
    have hk2 : k < 100000 := Nat.lt_of_lt_of_le hk (pL_le _)
    have n1 : Nat.beq k 100000 = false := by
      cases q : Nat.beq k 100000
      · rfl
      · have := Nat.eq_of_beq_eq_true q; omega
    have n2 : Nat.beq k 100001 = false := by
      cases q : Nat.beq k 100001
      · rfl
      · have := Nat.eq_of_beq_eq_true q; omega
    have e : gAll 70 k = ([(0, 0, 5, 0, 0, 0), (0, 0, 5, 0, 0, 0), (0, 0, 9, 0, 0, 0)] : List aV).getD (k % 3) eT := by
      have e0 : gT 70 = [(0, 0, 5, 0, 0, 0), (0, 0, 5, 0, 0, 0), (0, 0, 9, 0, 0, 0)] := by decide +kernel
      unfold gAll
      rw [show Nat.ble 100 (pK 70) = true by decide +kernel, n1, n2]
      show (gT 70).getD (k % (gT 70).length) eT = _
      rw [e0]; rfl
    rw [e]
    have h3 : k % 3 < 3 := Nat.mod_lt _ (by decide)
    rcases (show k % 3 = 0 ∨ k % 3 = 1 ∨ k % 3 = 2 by omega) with z | z | z
    · rw [z]; exact gR_i h0 (h2 (by omega))
    · rw [z]; exact gR_i h0 (h2 (by omega))
    · rw [z]; exact gR_i h0 h1
  · exact hM o k hk
section RH
variable {tx : Nat → Int} {L D : Nat} {h0 M0 : pM}
theorem BF_r {M M1 : pM} (b : BF h0 M0 M) (a : AGr M M1) : BF h0 M0 M1 := fun o i q1 q2 q3 q4 q5 => (a o i q2).trans (b o i q1 q2 q3 q4 q5)
theorem BF_t {M M1 : pM} {t : Nat} (b : BF h0 M0 M) (ht : hT h0 ≤ t) (a : AGt t M M1) : BF h0 M0 M1 := fun o i q1 q2 q3 q4 q5 => (a o i q2 (fun z => q4 ⟨z.1, z.2.1, by omega⟩)).trans (b o i q1 q2 q3 q4 q5)
theorem BF_s {M M1 : pM} {s : Nat} (b : BF h0 M0 M) (hs : hS h0 ≤ s) (a : AGs s M M1) : BF h0 M0 M1 := fun o i q1 q2 q3 q4 q5 => (a o i q2 (fun z => q5 ⟨z.1, by omega⟩)).trans (b o i q1 q2 q3 q4 q5)
theorem BF_61 {M : pM} {r : Nat} {v : Int} (b : BF h0 M0 M) (hr : hR h0 ≤ r) : BF h0 M0 (pset M 61 r v) := fun o i q1 q2 q3 q4 q5 => (if_neg (fun z => q3 ⟨z.1, by omega⟩)).trans (b o i q1 q2 q3 q4 q5)
theorem BF_70 {M : pM} {r : Nat} {v : Int} (b : BF h0 M0 M) : BF h0 M0 (pset M 70 r v) := fun o i q1 q2 q3 q4 q5 => (if_neg (fun z => q1 z.1)).trans (b o i q1 q2 q3 q4 q5)
theorem LI_r {h : pM} {k : Nat} {M M1 : pM} (l : LI h0 h k M) (a : AGr M M1) : LI h0 h k M1 := by
  obtain ⟨l1, l2, l3, l4, l5⟩ := l
  have e70 : M1 70 = M 70 := funext fun i => a 70 i (by omega)
  refine ⟨fun r hr => by rw [a 61 r (by omega)]; exact l1 r hr, fun t ht => by rw [a 63 t (by omega), a 64 t (by omega), a 65 t (by omega), a 66 t (by omega)]; exact l2 t ht, fun s hs => by rw [a 67 s (by omega)]; exact l3 s hs, fun p hp => by rw [e70]; exact l4 p hp, fun i hi => by rw [e70]; exact l5 i hi⟩
/-- the state behind a line, ahead of its ; -/
def LNo (tx : Nat → Int) (L : Nat) (h0 M0 h : pM) (a : Nat) (M1 : pM) (r1 t1 s1 k1 : Int) : Prop := RSt tx L 76 M1 (lnS tx (min L 76) h a).1 ∧ BF h0 M0 M1 ∧ gM gAll M1 ∧ ∀ b, (lnS tx (min L 76) h a).1 = .inr b → r1 = hR (lnS tx (min L 76) h a).2 ∧ t1 = hT (lnS tx (min L 76) h a).2 ∧ s1 = hS (lnS tx (min L 76) h a).2 ∧ ∃ k : Nat, k1 = (k : Int) ∧ k ≤ b ∧ LI h0 (lnS tx (min L 76) h a).2 k M1
theorem m_line (hD : 6 ≤ D) {h M : pM} {a k n : Nat} (W : WF h) (ha : a ≤ min L 76) (hr0 : hR h0 ≤ hR h) (ht0 : hT h0 ≤ hT h) (hs0 : hS h0 ≤ hS h) (hk : k ≤ a) (hM : gM gAll M) (hs : RSt tx L 76 M (.inr a)) (hl : LI h0 h k M) (hb : BF h0 M0 M) (y7 y8 : pV) : ∃ (M1 : pM) (r1 t1 s1 k1 : Int) (y7' y8' : pV), xE D 184 33 [.inr 62, .inl (hR h : Int), .inl (hT h : Int), .inl (hS h : Int), .inl (k : Int), .inl (n : Int), .inl 1, y7, y8] [] M = (pbI (xF D 181 [.inr 62, .inl 59] M1) fun v M2 => xE D 184 33 [.inr 62, .inl r1, .inl t1, .inl s1, .inl k1, .inl ((n : Int) + 1), .inl v, y7', y8'] [] M2) ∧ LNo tx L h0 M0 h a M1 r1 t1 s1 k1 := by
  have w1 := W.1
  have w2 := W.2.1
  have w3 := W.2.2.1
  have hr := hc_range hs a
  have hat := hs.2.2.2.2.2.2.2.2.2.1
  obtain ⟨l1, l2, l3, l4, l5⟩ := hl
  rw [L_M_house_33, if_neg (by decide), m_fineG (by omega) hs, pbI_rI, if_neg (by decide), m_here (by omega) hs, pbI_rI]
  by_cases c1 : hc tx (min L 76) a = 114
  · have hlt : a < min L 76 := hc_lt (tx := tx) (st := min L 76) (by omega)
    rw [if_neg (fun z => z (by rw [c1]))]
    by_cases c2 : hR h = 6
    · have eL : lnS tx (min L 76) h a = (.inl a, h) := by unfold lnS; rw [if_pos c1, if_pos c2]
      obtain ⟨e, r⟩ := m_faultG (d := D) (by omega) hs (p := a) (by omega)
      rw [if_neg (fun z => z (by rw [c2]; rfl)), hat, e, pbN_rV]
      refine ⟨_, _, _, _, _, _, _, rfl, ?_, BF_r hb (AGr_bad AGr_rfl), gM_RSt hM (AGr_bad AGr_rfl) r, fun b hb2 => ?_⟩
      · rw [eL]; exact r
      · rw [eL] at hb2; cases hb2
    · have eL : lnS tx (min L 76) h a = (sgI tx (min L 76) (.inr (a + 1)), addR h (sgIv tx (min L 76) (.inr (a + 1)))) := by unfold lnS; rw [if_pos c1, if_neg c2]
      have r1 := RSt_next hs hlt
      obtain ⟨M1, v1, e1, k1, k2, s1, a1⟩ := m_num2 (d := D) (by omega) r1
      have A1 : AGr M M1 := AGr_tr (AGr_at AGr_rfl) a1
      have g1 := gM_RSt hM A1 s1
      rw [if_pos (by rw [eq32_iff] <;> omega), hat, e1, pbI_rI, if_pos (by omega), Int.toNat_natCast]
      have hG : AGr M M1 := A1
      refine ⟨_, _, _, _, _, _, _, rfl, ?_, BF_61 (BF_r hb A1) hr0, gM_r1 g1 (by decide +kernel) (by decide +kernel), fun b hb2 => ?_⟩
      · rw [eL]; exact RSt_ne s1 (by decide) (by decide)
      · rw [eL] at hb2 ⊢
        dsimp only at hb2 ⊢
        have hv := k2 b hb2
        obtain ⟨a2, x1, x2, -⟩ := sgI_inr hb2
        cases x1
        refine ⟨by rw [hR_addR]; omega, by rw [hT_addR], by rw [hS_addR], k, rfl, by omega, fun r hr1 => ?_, fun t ht => ?_, fun s hs1 => ?_, fun p hp => ?_, fun i hi => ?_⟩
        · rw [hR_addR] at hr1
          unfold addR
          rw [pset_ne (show (1 : Nat) ≠ 0 by decide)]
          by_cases q : r = hR h
          · rw [q, pset_eq, pset_eq]; exact hv
          · rw [pset_ne2 q, pset_ne2 q, A1 61 r (by omega)]; exact l1 r (by omega)
        · rw [hT_addR] at ht
          unfold addR
          simp only [pset_ne (show (3 : Nat) ≠ 0 by decide), pset_ne (show (3 : Nat) ≠ 1 by decide), pset_ne (show (4 : Nat) ≠ 0 by decide), pset_ne (show (4 : Nat) ≠ 1 by decide), pset_ne (show (5 : Nat) ≠ 0 by decide), pset_ne (show (5 : Nat) ≠ 1 by decide), pset_ne (show (6 : Nat) ≠ 0 by decide), pset_ne (show (6 : Nat) ≠ 1 by decide), pset_ne (show (63 : Nat) ≠ 61 by decide), pset_ne (show (64 : Nat) ≠ 61 by decide), pset_ne (show (65 : Nat) ≠ 61 by decide), pset_ne (show (66 : Nat) ≠ 61 by decide)]
          rw [A1 63 t (by omega), A1 64 t (by omega), A1 65 t (by omega), A1 66 t (by omega)]
          exact l2 t ht
        · rw [hS_addR] at hs1
          have e : me (addR h (sgIv tx (min L 76) (.inr (a + 1)))) s = me h s := by
            unfold me addR
            rw [pset_ne (by decide), pset_ne (by decide)]
          rw [e, pset_ne (by decide), A1 67 s (by omega)]; exact l3 s hs1
        · have e70 : pset M1 61 (hR h) v1 70 = M 70 := funext fun i => by rw [pset_ne (by decide), A1 70 i (by omega)]
          rw [e70]
          unfold addR
          rw [pset_ne (by decide), pset_ne (by decide)]; exact l4 p hp
        · have e70 : pset M1 61 (hR h) v1 70 = M 70 := funext fun i => by rw [pset_ne (by decide), A1 70 i (by omega)]
          rw [e70]; exact l5 i hi
  · rw [if_pos (by rw [eq32_iff] <;> omega), m_here (by omega) hs, pbI_rI]
    by_cases c2 : hc tx (min L 76) a = 100
    · have hlt : a < min L 76 := hc_lt (tx := tx) (st := min L 76) (by omega)
      have eL : lnS tx (min L 76) h a = (sgD tx (min L 76) 1 9 (d3S tx (min L 76) (hR h) a), addD h (d1V tx (min L 76) (hR h) a).toNat (d2V tx (min L 76) (hR h) a).toNat (d3V tx (min L 76) (hR h) a)) := by unfold lnS; rw [if_neg c1, if_pos c2]
      have r1 := RSt_next hs hlt
      obtain ⟨M31, e31, s31, a31⟩ := m_num1 (d := D) (by omega) r1 (lo := 0) (hi := (hR h : Int) - 1) (by decide) (by decide) (by omega) (by omega)
      obtain ⟨M33, e33, s33, a33⟩ := m_need (d := D) (by omega) s31 (c := 45) (by decide) (by decide)
      obtain ⟨M34, e34, s34, a34⟩ := m_num1 (d := D) (by omega) s33 (lo := 0) (hi := (hR h : Int) - 1) (by decide) (by decide) (by omega) (by omega)
      have A34 : AGr M M34 := AGr_tr (AGr_tr (AGr_tr (AGr_at AGr_rfl) a31) a33) a34
      have g34 := gM_RSt hM A34 s34
      have v1 := sgV_range (tx := tx) (st := min L 76) (lo := 0) (hi := (hR h : Int) - 1) (by decide) (Or.inr (Or.inr trivial)) (.inr (a + 1))
      have v2 := sgV_range (tx := tx) (st := min L 76) (lo := 0) (hi := (hR h : Int) - 1) (by decide) (Or.inr (Or.inr trivial)) (sgN tx (min L 76) 45 (sgD tx (min L 76) 0 ((hR h : Int) - 1) (.inr (a + 1))))
      rw [if_neg (fun z => z (by rw [c2])), hat, e31, pbI_rI, e33, pbN_rV, e34, pbI_rI]
      -- behind the two rooms: from a memory M36 that is good or bad as sgE says
      have rest : ∀ M36, AGr M34 M36 → RSt tx L 76 M36 (sgE (d1V tx (min L 76) (hR h) a) (d2V tx (min L 76) (hR h) a) (sgD tx (min L 76) 0 ((hR h : Int) - 1) (d2S tx (min L 76) (hR h) a))) → ∃ (M1 : pM) (r1 t1 s1 k1 : Int) (y7' y8' : pV), (pbN (xF D 182 [.inr 62, .inl 61] M36) fun M43 => if 0 ≤ 3 * (k : Int) ∧ 3 * (k : Int) < 240 then (if 0 ≤ (3 * (k : Int)) + 1 ∧ (3 * (k : Int)) + 1 < 240 then (pbI (xF D 183 [.inr 62, .inl 1, .inl 1, .inl 9] (pset (pset M43 70 ((3 * (k : Int)).toNat) (sgV tx (min L 76) 0 ((hR h : Int) - 1) (.inr (a + 1)))) 70 (((3 * (k : Int)) + 1).toNat) (sgV tx (min L 76) 0 ((hR h : Int) - 1) (sgN tx (min L 76) 45 (sgD tx (min L 76) 0 ((hR h : Int) - 1) (.inr (a + 1))))))) fun v45 M44 => if 0 ≤ (3 * (k : Int)) + 2 ∧ (3 * (k : Int)) + 2 < 240 then (pbI (xF D 181 [.inr 62, .inl 59] (pset M44 70 (((3 * (k : Int)) + 2).toNat) v45)) fun v47 M46 => xE D 184 33 [.inr 62, .inl (hR h : Int), .inl (hT h : Int), .inl (hS h : Int), .inl ((k : Int) + 1), .inl ((n : Int) + 1), .inl v47, .inl (sgV tx (min L 76) 0 ((hR h : Int) - 1) (.inr (a + 1))), .inl (sgV tx (min L 76) 0 ((hR h : Int) - 1) (sgN tx (min L 76) 45 (sgD tx (min L 76) 0 ((hR h : Int) - 1) (.inr (a + 1)))))] [] M46) else none) else none) else none) = (pbI (xF D 181 [.inr 62, .inl 59] M1) fun v M2 => xE D 184 33 [.inr 62, .inl r1, .inl t1, .inl s1, .inl k1, .inl ((n : Int) + 1), .inl v, y7', y8'] [] M2) ∧ LNo tx L h0 M0 h a M1 r1 t1 s1 k1 := by
        intro M36 a36 s36
        obtain ⟨M43, e43, s43, a43⟩ := m_need (d := D) (by omega) s36 (c := 61) (by decide) (by decide)
        have A43 : AGr M M43 := AGr_tr (AGr_tr A34 a36) a43
        have g43 := gM_RSt hM A43 s43
        have i0 : (3 * (k : Int)).toNat = 3 * k := by omega
        have i1 : (3 * (k : Int) + 1).toNat = 3 * k + 1 := by omega
        have i2 : (3 * (k : Int) + 2).toNat = 3 * k + 2 := by omega
        rw [e43, pbN_rV, if_pos (by omega), if_pos (by omega), i0, i1]
        have sX := RSt_ne (RSt_ne s43 (o := 70) (i := 3 * k) (v := sgV tx (min L 76) 0 ((hR h : Int) - 1) (.inr (a + 1))) (by decide) (by decide)) (o := 70) (i := 3 * k + 1) (v := sgV tx (min L 76) 0 ((hR h : Int) - 1) (sgN tx (min L 76) 45 (sgD tx (min L 76) 0 ((hR h : Int) - 1) (.inr (a + 1))))) (by decide) (by decide)
        have gX : gM gAll (pset (pset M43 70 (3 * k) (sgV tx (min L 76) 0 ((hR h : Int) - 1) (.inr (a + 1)))) 70 (3 * k + 1) (sgV tx (min L 76) 0 ((hR h : Int) - 1) (sgN tx (min L 76) 45 (sgD tx (min L 76) 0 ((hR h : Int) - 1) (.inr (a + 1)))))) := gM_70 (gM_70 g43 v1.1 (by omega) (fun _ => by omega)) v2.1 (by omega) (fun _ => by omega)
        obtain ⟨M44, e44, s44, a44⟩ := m_num1 (d := D) (by omega) sX (lo := 1) (hi := 9) (by decide) (by decide) (by decide) (by decide)
        have g44 := gM_RSt gX a44 s44
        have v3 := sgV_range (tx := tx) (st := min L 76) (lo := 1) (hi := 9) (by decide) (Or.inr (Or.inr trivial)) (d3S tx (min L 76) (hR h) a)
        rw [e44, pbI_rI, if_pos (by omega), i2]
        refine ⟨_, _, _, _, _, _, _, rfl, ?_, BF_70 (BF_r (BF_70 (BF_70 (BF_r hb A43))) a44), gM_70 g44 v3.1 (by show d3V tx (min L 76) (hR h) a ≤ 9; unfold d3V; omega) (fun z => absurd (by omega) z), fun b hb2 => ?_⟩
        · rw [eL]; exact RSt_ne s44 (by decide) (by decide)
        · rw [eL] at hb2 ⊢
          dsimp only at hb2 ⊢
          obtain ⟨b1, x1, x2, y3a, y3b, -⟩ := sgD_inr hb2
          obtain ⟨b2, x3, x4, -⟩ := sgN_inr x1
          obtain ⟨x5, hne⟩ := sgE_inr x3
          obtain ⟨b4, x6, x7, y2a, y2b, -⟩ := sgD_inr x5
          obtain ⟨b5, x8, x9, -⟩ := sgN_inr x6
          obtain ⟨b6, x10, x11, y1a, y1b, -⟩ := sgD_inr x8
          cases x10
          have eR : hR (addD h (d1V tx (min L 76) (hR h) a).toNat (d2V tx (min L 76) (hR h) a).toNat (d3V tx (min L 76) (hR h) a)) = hR h := by unfold hR; rw [hx_addD]
          have eT : hT (addD h (d1V tx (min L 76) (hR h) a).toNat (d2V tx (min L 76) (hR h) a).toNat (d3V tx (min L 76) (hR h) a)) = hT h := by unfold hT; rw [hx_addD]
          have eS : hS (addD h (d1V tx (min L 76) (hR h) a).toNat (d2V tx (min L 76) (hR h) a).toNat (d3V tx (min L 76) (hR h) a)) = hS h := by unfold hS; rw [hx_addD]
          have eo : ∀ o i, o ≠ 2 → addD h (d1V tx (min L 76) (hR h) a).toNat (d2V tx (min L 76) (hR h) a).toNat (d3V tx (min L 76) (hR h) a) o i = h o i := fun o i ho => by
            unfold addD
            rw [pset_ne ho, pset_ne ho]
          have kx : 0 ≤ d1V tx (min L 76) (hR h) a ∧ d1V tx (min L 76) (hR h) a ≤ 5 := by unfold d1V; omega
          have ky : 0 ≤ d2V tx (min L 76) (hR h) a ∧ d2V tx (min L 76) (hR h) a ≤ 5 := by unfold d2V d2S; omega
          have kw : 0 ≤ d3V tx (min L 76) (hR h) a ∧ d3V tx (min L 76) (hR h) a ≤ 9 := by unfold d3V; omega
          -- the places of the doors
          have u0 : (pset M44 70 (3 * k + 2) (sgV tx (min L 76) 1 9 (sgN tx (min L 76) 61 (sgE (d1V tx (min L 76) (hR h) a) (d2V tx (min L 76) (hR h) a) (sgD tx (min L 76) 0 ((hR h : Int) - 1) (d2S tx (min L 76) (hR h) a)))))) 70 (3 * k) = d1V tx (min L 76) (hR h) a := by
            rw [pset_ne2 (by omega), a44 70 _ (by omega), pset_ne2 (by omega), pset_eq]; rfl
          have u1 : (pset M44 70 (3 * k + 2) (sgV tx (min L 76) 1 9 (sgN tx (min L 76) 61 (sgE (d1V tx (min L 76) (hR h) a) (d2V tx (min L 76) (hR h) a) (sgD tx (min L 76) 0 ((hR h : Int) - 1) (d2S tx (min L 76) (hR h) a)))))) 70 (3 * k + 1) = d2V tx (min L 76) (hR h) a := by
            rw [pset_ne2 (by omega), a44 70 _ (by omega), pset_eq]; rfl
          have u2 : (pset M44 70 (3 * k + 2) (sgV tx (min L 76) 1 9 (sgN tx (min L 76) 61 (sgE (d1V tx (min L 76) (hR h) a) (d2V tx (min L 76) (hR h) a) (sgD tx (min L 76) 0 ((hR h : Int) - 1) (d2S tx (min L 76) (hR h) a)))))) 70 (3 * k + 2) = d3V tx (min L 76) (hR h) a := by
            rw [pset_eq]; rfl
          have u3 : ∀ i, i < 3 * k → (pset M44 70 (3 * k + 2) (sgV tx (min L 76) 1 9 (sgN tx (min L 76) 61 (sgE (d1V tx (min L 76) (hR h) a) (d2V tx (min L 76) (hR h) a) (sgD tx (min L 76) 0 ((hR h : Int) - 1) (d2S tx (min L 76) (hR h) a)))))) 70 i = M 70 i := fun i hi => by
            rw [pset_ne2 (by omega), a44 70 _ (by omega), pset_ne2 (by omega), pset_ne2 (by omega), A43 70 _ (by omega)]
          have uo : ∀ o i, 61 ≤ o → o ≤ 67 → (pset M44 70 (3 * k + 2) (sgV tx (min L 76) 1 9 (sgN tx (min L 76) 61 (sgE (d1V tx (min L 76) (hR h) a) (d2V tx (min L 76) (hR h) a) (sgD tx (min L 76) 0 ((hR h : Int) - 1) (d2S tx (min L 76) (hR h) a)))))) o i = M o i := fun o i q1 q2 => by
            rw [pset_ne (by omega), a44 o i (by omega), pset_ne (by omega), pset_ne (by omega), A43 o i (by omega)]
          generalize d3V tx (min L 76) (hR h) a = w at *
          generalize d1V tx (min L 76) (hR h) a = vx at *
          generalize d2V tx (min L 76) (hR h) a = vy at *
          refine ⟨by rw [eR], by rw [eT], by rw [eS], k + 1, by omega, by omega, fun r hr1 => ?_, fun t ht => ?_, fun s hs1 => ?_, fun p hp => ?_, fun i hi => ?_⟩
          · rw [eR] at hr1; rw [uo 61 r (by decide) (by decide), eo 1 r (by decide)]; exact l1 r hr1
          · rw [eT] at ht
            rw [uo 63 t (by decide) (by decide), uo 64 t (by decide) (by decide), uo 65 t (by decide) (by decide), uo 66 t (by decide) (by decide), eo 3 t (by decide), eo 4 t (by decide), eo 5 t (by decide), eo 6 t (by decide)]
            exact l2 t ht
          · rw [eS] at hs1
            have e : me (addD h vx.toNat vy.toNat w) s = me h s := by unfold me; rw [eo 7 s (by decide)]
            rw [e, uo 67 s (by decide) (by decide)]; exact l3 s hs1
          · show addD h vx.toNat vy.toNat w 2 p = (if p = 6 * _ + _ ∨ p = 6 * _ + _ then _ else dAp _ (h0 2) k p)
            rw [u0, u1, u2, dAp_cg k p u3, ← l4 p hp]
            unfold addD
            by_cases q : p = 6 * vy.toNat + vx.toNat
            · rw [q, pset_eq, if_pos (Or.inl rfl)]
            · rw [pset_ne2 q]
              by_cases q2 : p = 6 * vx.toNat + vy.toNat
              · rw [q2, pset_eq, if_pos (Or.inr rfl)]
              · rw [pset_ne2 q2, if_neg (fun z => z.elim q q2)]
          · rcases Nat.lt_or_ge i k with q | q
            · rw [u3 _ (by omega), u3 _ (by omega), u3 _ (by omega)]
              exact l5 i q
            · have : i = k := by omega
              subst this
              rw [u0, u1, u2]
              exact ⟨vx.toNat, vy.toNat, by omega, by omega, by omega, by omega, kw.1, kw.2⟩
      have sE := s34
      cases hq : sgD tx (min L 76) 0 ((hR h : Int) - 1) (d2S tx (min L 76) (hR h) a) with
      | inl p =>
        have sB : RSt tx L 76 M34 (.inl p) := by rw [← hq]; exact s34
        rw [m_fineB (by omega) sB, pbI_rI, if_pos rfl]
        refine rest M34 AGr_rfl ?_
        rw [hq]; exact sB
      | inr b =>
        have sG : RSt tx L 76 M34 (.inr b) := by rw [← hq]; exact s34
        rw [m_fineG (by omega) sG, pbI_rI, if_neg (by decide)]
        by_cases q : d1V tx (min L 76) (hR h) a = d2V tx (min L 76) (hR h) a
        · have hb11 := sG.2.2.2.2.2.2.2.2.2.2.1
          obtain ⟨b', x1, x2, -⟩ := sgD_inr hq
          obtain ⟨e, r⟩ := m_faultG (d := D) (by omega) sG (p := b - 1) (by omega)
          rw [if_neg (fun z => z (by show eq32 (d1V tx (min L 76) (hR h) a) (d2V tx (min L 76) (hR h) a); rw [q])), sG.2.2.2.2.2.2.2.2.2.1, show (b : Int) - 1 = ((b - 1 : Nat) : Int) by omega, e, pbN_rV]
          refine rest _ (AGr_bad AGr_rfl) ?_
          rw [hq]
          show RSt tx L 76 _ (if _ = _ then _ else _)
          rw [if_pos q]; exact r
        · rw [if_pos (by
            show ¬ eq32 (d1V tx (min L 76) (hR h) a) (d2V tx (min L 76) (hR h) a)
            have k1 : 0 ≤ d1V tx (min L 76) (hR h) a ∧ d1V tx (min L 76) (hR h) a ≤ 9 := by unfold d1V; omega
            have k2 : 0 ≤ d2V tx (min L 76) (hR h) a ∧ d2V tx (min L 76) (hR h) a ≤ 9 := by unfold d2V d2S; omega
            rw [eq32_iff (by omega) (by omega) (by omega) (by omega)]; exact q)]
          refine rest M34 AGr_rfl ?_
          rw [hq]
          show RSt tx L 76 _ (if _ = _ then _ else _)
          rw [if_neg q]; exact sG
    · rw [if_pos (by rw [eq32_iff] <;> omega), m_here (by omega) hs, pbI_rI]
      by_cases c3 : hc tx (min L 76) a = 115
      · have hlt : a < min L 76 := hc_lt (tx := tx) (st := min L 76) (by omega)
        rw [if_neg (fun z => z (by rw [c3]))]
        by_cases c4 : hS h = 8
        · have eL : lnS tx (min L 76) h a = (.inl a, h) := by unfold lnS; rw [if_neg c1, if_neg c2, if_pos c3, if_pos c4]
          obtain ⟨e, r⟩ := m_faultG (d := D) (by omega) hs (p := a) (by omega)
          rw [if_neg (fun z => z (by rw [c4]; rfl)), hat, e, pbN_rV]
          refine ⟨_, _, _, _, _, _, _, rfl, ?_, BF_r hb (AGr_bad AGr_rfl), gM_RSt hM (AGr_bad AGr_rfl) r, fun b hb2 => ?_⟩
          · rw [eL]; exact r
          · rw [eL] at hb2; cases hb2
        · have eL : lnS tx (min L 76) h a = ((sgL tx (min L 76) (hT h) 11 (a + 1) 0 (-1)).1, addS h (sgL tx (min L 76) (hT h) 11 (a + 1) 0 (-1)).2) := by unfold lnS; rw [if_neg c1, if_neg c2, if_pos c3, if_neg c4]
          obtain ⟨M1, e1, s1, a1, g1, b1, v1⟩ := m_readSet (d := D) (T := hT h) (sn := hS h) (by omega) (by omega) w2 hlt hM hs
          rw [if_pos (by rw [eq32_iff] <;> omega), e1, pbN_rV]
          refine ⟨_, _, _, _, _, _, _, rfl, ?_, BF_s hb hs0 a1, g1, fun b hb2 => ?_⟩
          · rw [eL]; exact s1
          · rw [eL] at hb2 ⊢
            dsimp only at hb2 ⊢
            have hv := v1 b hb2
            have kk := sgL_inr 11 (a + 1) 0 (-1) b w2 (Nat.two_pow_pos _) (Or.inr trivial) hb2
            generalize (sgL tx (min L 76) (hT h) 11 (a + 1) 0 (-1)).2 = bits at hv
            have eo : ∀ o i, o ≠ 0 → o ≠ 7 → addS h bits o i = h o i := fun o i h0 h7 => by
              unfold addS
              rw [pset_ne h0, pset_ne h7]
            have e70 : M1 70 = M 70 := funext fun i => a1 70 i (by omega) (by omega)
            refine ⟨by rw [hR_addS], by rw [hT_addS], by rw [hS_addS]; omega, k, rfl, by omega, fun r hr1 => ?_, fun t ht => ?_, fun s hs1 => ?_, fun p hp => ?_, fun i hi => ?_⟩
            · rw [hR_addS] at hr1; rw [eo 1 r (by decide) (by decide), a1 61 r (by omega) (by omega)]; exact l1 r hr1
            · rw [hT_addS] at ht
              rw [eo 3 t (by decide) (by decide), eo 4 t (by decide) (by decide), eo 5 t (by decide) (by decide), eo 6 t (by decide) (by decide), a1 63 t (by omega) (by omega), a1 64 t (by omega) (by omega), a1 65 t (by omega) (by omega), a1 66 t (by omega) (by omega)]
              exact l2 t ht
            · rw [hS_addS] at hs1
              unfold me addS
              rw [pset_ne (show (7 : Nat) ≠ 0 by decide)]
              by_cases q : s = hS h
              · rw [q, pset_eq, Int.toNat_natCast]; exact hv
              · rw [pset_ne2 q, a1 67 s (by omega) (by omega)]; exact l3 s (by omega)
            · rw [eo 2 p (by decide) (by decide), e70]; exact l4 p hp
            · rw [e70]; exact l5 i hi
      · rw [if_pos (by rw [eq32_iff] <;> omega)]
        by_cases c4 : hT h = 10
        · have eL : lnS tx (min L 76) h a = (.inl a, h) := by unfold lnS; rw [if_neg c1, if_neg c2, if_neg c3, if_pos c4]
          obtain ⟨e, r⟩ := m_faultG (d := D) (by omega) hs (p := a) (by omega)
          rw [if_neg (fun z => z (by rw [c4]; rfl)), hat, e, pbN_rV]
          refine ⟨_, _, _, _, _, _, _, rfl, ?_, BF_r hb (AGr_bad AGr_rfl), gM_RSt hM (AGr_bad AGr_rfl) r, fun b hb2 => ?_⟩
          · rw [eL]; exact r
          · rw [eL] at hb2; cases hb2
        · have eL : lnS tx (min L 76) h a = (sgT tx (min L 76) (hR h) (.inr a), addT h (sgIv tx (min L 76) (.inr a)) (tvW tx (min L 76) (.inr a)) (tvG tx (min L 76) (.inr a)) (tvR tx (min L 76) (hR h) (.inr a))) := by unfold lnS; rw [if_neg c1, if_neg c2, if_neg c3, if_neg c4]
          obtain ⟨M1, e1, s1, a1, g1, v1⟩ := m_readThing (d := D) (R := hR h) (t := hT h) (by omega) (by omega) w1 hM hs
          rw [if_pos (by rw [eq32_iff] <;> omega), e1, pbN_rV]
          refine ⟨_, _, _, _, _, _, _, rfl, ?_, BF_t hb ht0 a1, g1, fun b hb2 => ?_⟩
          · rw [eL]; exact s1
          · have hgt : a < b := lnS_gt (h := h) w2 hb2
            rw [eL] at hb2 ⊢
            dsimp only at hb2 ⊢
            have hv := v1 b hb2
            generalize tvR tx (min L 76) (hR h) (.inr a) = r at hv
            generalize tvG tx (min L 76) (.inr a) = g at hv
            generalize tvW tx (min L 76) (.inr a) = w at hv
            generalize sgIv tx (min L 76) (.inr a) = bu at hv
            have eo : ∀ o i, o ≠ 0 → (o < 3 ∨ 6 < o) → addT h bu w g r o i = h o i := fun o i h0 h7 => by
              unfold addT
              rw [pset_ne h0, pset_ne (by omega), pset_ne (by omega), pset_ne (by omega), pset_ne (by omega)]
            have e70 : M1 70 = M 70 := funext fun i => a1 70 i (by omega) (by omega)
            refine ⟨by rw [hR_addT], by rw [hT_addT]; omega, by rw [hS_addT], k, rfl, by omega, fun r hr1 => ?_, fun t ht => ?_, fun s hs1 => ?_, fun p hp => ?_, fun i hi => ?_⟩
            · rw [hR_addT] at hr1; rw [eo 1 r (by decide) (by decide), a1 61 r (by omega) (by omega)]; exact l1 r hr1
            · rw [hT_addT] at ht
              by_cases q : t = hT h
              · have v3 : addT h bu w g r 3 t = bu := by unfold addT; rw [q, pset_ne (by decide), pset_ne (by decide), pset_ne (by decide), pset_ne (by decide), pset_eq]
                have v4 : addT h bu w g r 4 t = w := by unfold addT; rw [q, pset_ne (by decide), pset_ne (by decide), pset_ne (by decide), pset_eq]
                have v5 : addT h bu w g r 5 t = g := by unfold addT; rw [q, pset_ne (by decide), pset_ne (by decide), pset_eq]
                have v6 : addT h bu w g r 6 t = r := by unfold addT; rw [q, pset_ne (by decide), pset_eq]
                rw [v3, v4, v5, v6, q]; exact hv
              · have v3 : addT h bu w g r 3 t = h 3 t := by unfold addT; rw [pset_ne (by decide), pset_ne (by decide), pset_ne (by decide), pset_ne (by decide), pset_ne2 q]
                have v4 : addT h bu w g r 4 t = h 4 t := by unfold addT; rw [pset_ne (by decide), pset_ne (by decide), pset_ne (by decide), pset_ne2 q, pset_ne (by decide)]
                have v5 : addT h bu w g r 5 t = h 5 t := by unfold addT; rw [pset_ne (by decide), pset_ne (by decide), pset_ne2 q, pset_ne (by decide), pset_ne (by decide)]
                have v6 : addT h bu w g r 6 t = h 6 t := by unfold addT; rw [pset_ne (by decide), pset_ne2 q, pset_ne (by decide), pset_ne (by decide), pset_ne (by decide)]
                rw [v3, v4, v5, v6, a1 63 t (by omega) (by omega), a1 64 t (by omega) (by omega), a1 65 t (by omega) (by omega), a1 66 t (by omega) (by omega)]
                exact l2 t (by omega)
            · rw [hS_addT] at hs1
              have e : me (addT h bu w g r) s = me h s := by unfold me; rw [eo 7 s (by decide) (by decide)]
              rw [e, a1 67 s (by omega) (by omega)]; exact l3 s hs1
            · rw [eo 2 p (by decide) (by decide), e70]; exact l4 p hp
            · rw [e70]; exact l5 i hi
end RH
end
section
/-! the reference's house: its loop and its end -/
section RH2
variable {tx : Nat → Int} {L D : Nat} {h0 M0 : pM}
theorem m_m0B (hD : 2 ≤ D) {M : pM} {p : Nat} (h : RSt tx L 76 M (.inl p)) (x1 x2 x3 x4 x5 : Int) (y7 y8 : pV) : xE D 184 33 [.inr 62, .inl x1, .inl x2, .inl x3, .inl x4, .inl x5, .inl 0, y7, y8] [] M = rI (-1 - (p : Int)) M := by
  have hp := h.2.2.2.2.2.2.2.2.2.1
  rw [L_M_house_33, if_pos rfl]
  by_cases q : le32 (M 60 19) (M 60 21)
  · rw [if_pos q, m_fineB (by omega) h, pbI_rI, if_neg (fun z => z rfl), hp]
  · rw [if_neg q, m_faultB hD h, pbN_rV, m_fineB (by omega) h, pbI_rI, if_neg (fun z => z rfl), hp]
theorem m_m0G (hD : 2 ≤ D) {M : pM} {b : Nat} (h : RSt tx L 76 M (.inr b)) (x1 x2 x3 x4 x5 : Int) (y7 y8 : pV) : xE D 184 33 [.inr 62, .inl x1, .inl x2, .inl x3, .inl x4, .inl x5, .inl 0, y7, y8] [] M = if L ≤ b then xE D 184 199 [.inr 62, .inl x1, .inl x2, .inl x3, .inl x4, .inl x5, .inl 0, .inl (M 60 0), y8] [] M else rI (-1 - (b : Int)) (pset M 60 22 b) := by
  have hb := h.2.2.2.2.2.2.2.2.2.1
  have hL := h.2.1
  have hL8 := h.2.2.2.1
  have h11 := h.2.2.2.2.2.2.2.2.2.2.1
  rw [L_M_house_33, if_pos rfl, hL, hb]
  by_cases q : L ≤ b
  · rw [if_pos (by rw [le32_iff] <;> omega), m_fineG (by omega) h, pbI_rI, if_pos (by decide), if_pos q]
  · obtain ⟨e, r⟩ := m_faultG hD h (p := b) (by omega)
    rw [if_neg (by rw [le32_iff] <;> omega), e, pbN_rV, m_fineB (by omega) r, pbI_rI, if_neg (fun z => z rfl), if_neg q, pset_eq]
/-- how the loop ends -/
def HO (L : Nat) (D : Nat) (h0 M0 : pM) (P : rgs × pM × Nat) (o : Option pR) : Prop := match phE L P.1 with
  | .inl p => ∃ M', o = rI (-1 - (p : Int)) M' ∧ BF h0 M0 M' ∧ gM gAll M'
  | .inr _ => ∃ (M' : pM) (k' : Nat) (y8' : pV), o = xE D 184 199 [.inr 62, .inl (hR P.2.1 : Int), .inl (hT P.2.1 : Int), .inl (hS P.2.1 : Int), .inl (k' : Int), .inl (P.2.2 : Int), .inl 0, .inl (M' 60 0), y8'] [] M' ∧ LI h0 P.2.1 k' M' ∧ BF h0 M0 M' ∧ gM gAll M' ∧ k' ≤ 76 ∧ WF P.2.1 ∧ hR h0 ≤ hR P.2.1 ∧ hT h0 ≤ hT P.2.1 ∧ hS h0 ≤ hS P.2.1
theorem lnS_mono {st a b : Nat} {h : pM} (hl : (lnS tx st h a).1 = .inr b) : hR h ≤ hR (lnS tx st h a).2 ∧ hT h ≤ hT (lnS tx st h a).2 ∧ hS h ≤ hS (lnS tx st h a).2 := by
  unfold lnS
  by_cases c1 : hc tx st a = 114
  · rw [if_pos c1]
    by_cases c2 : hR h = 6
    · rw [if_pos c2]; exact ⟨Nat.le_refl _, Nat.le_refl _, Nat.le_refl _⟩
    · rw [if_neg c2]
      dsimp only
      rw [hR_addR, hT_addR, hS_addR]
      exact ⟨by omega, Nat.le_refl _, Nat.le_refl _⟩
  · rw [if_neg c1]
    by_cases c2 : hc tx st a = 100
    · rw [if_pos c2]
      dsimp only
      unfold hR hT hS
      rw [hx_addD, hx_addD, hx_addD]
      exact ⟨Nat.le_refl _, Nat.le_refl _, Nat.le_refl _⟩
    · rw [if_neg c2]
      by_cases c3 : hc tx st a = 115
      · rw [if_pos c3]
        by_cases c4 : hS h = 8
        · rw [if_pos c4]; exact ⟨Nat.le_refl _, Nat.le_refl _, Nat.le_refl _⟩
        · rw [if_neg c4]
          dsimp only
          rw [hR_addS, hT_addS, hS_addS]
          exact ⟨Nat.le_refl _, Nat.le_refl _, by omega⟩
      · rw [if_neg c3]
        by_cases c4 : hT h = 10
        · rw [if_pos c4]; exact ⟨Nat.le_refl _, Nat.le_refl _, Nat.le_refl _⟩
        · rw [if_neg c4]
          dsimp only
          rw [hR_addT, hT_addT, hS_addT]
          exact ⟨Nat.le_refl _, by omega, Nat.le_refl _⟩
theorem m_hl33 (hD : 6 ≤ D) : ∀ (f a n k : Nat) (h M : pM) (y7 y8 : pV), min L 76 < f + a → WF h → a ≤ min L 76 → hR h0 ≤ hR h → hT h0 ≤ hT h → hS h0 ≤ hS h → k ≤ a → gM gAll M → RSt tx L 76 M (.inr a) → LI h0 h k M → BF h0 M0 M → HO L D h0 M0 (phS tx (min L 76) f a h n) (xE D 184 33 [.inr 62, .inl (hR h : Int), .inl (hT h : Int), .inl (hS h : Int), .inl (k : Int), .inl (n : Int), .inl 1, y7, y8] [] M) := by
  intro f
  induction f with
  | zero => intro a n k h M y7 y8 hf; omega
  | succ f ih =>
    intro a n k h M y7 y8 hf W ha hr0 ht0 hs0 hk hM hs hl hb
    obtain ⟨M1, r1, t1, s1, k1, y7', y8', e, so, bo, go, lo⟩ := m_line hD W ha hr0 ht0 hs0 hk hM hs hl hb y7 y8 (n := n)
    rw [e]
    cases hq : (lnS tx (min L 76) h a).1 with
    | inl p =>
      rw [hq] at so
      have eP : phS tx (min L 76) (f + 1) a h n = (.inl p, (lnS tx (min L 76) h a).2, n + 1) := by
        show (match (lnS tx (min L 76) h a).1 with
          | .inl p => _
          | .inr b => _) = _
        rw [hq]
      rw [m_passesB (by omega) so, pbI_rI, m_m0B (by omega) so, eP]
      exact ⟨M1, rfl, bo, go⟩
    | inr b =>
      rw [hq] at so
      obtain ⟨x1, x2, x3, k', x4, x5, x6⟩ := lo b hq
      have W' := WF_ln W hq
      have mo := lnS_mono hq
      have hgt := lnS_gt W.2.1 hq
      have hb11 := so.2.2.2.2.2.2.2.2.2.2.1
      rw [m_passesG (by omega) so (by decide) (by decide), x1, x2, x3, x4]
      by_cases q : hc tx (min L 76) b = 59
      · have hlt : b < min L 76 := hc_lt (tx := tx) (st := min L 76) (by omega)
        have eP : phS tx (min L 76) (f + 1) a h n = phS tx (min L 76) f (b + 1) (lnS tx (min L 76) h a).2 (n + 1) := by
          show (match (lnS tx (min L 76) h a).1 with
            | .inl p => _
            | .inr b => _) = _
          rw [hq]
          exact if_pos q
        rw [if_pos q, pbI_rI, eP, show (n : Int) + 1 = ((n + 1 : Nat) : Int) by omega]
        have r1 := RSt_next so hlt
        exact ih (b + 1) (n + 1) k' (lnS tx (min L 76) h a).2 _ y7' y8' (by omega) W' (by omega) (by omega) (by omega) (by omega) (by omega) (gM_RSt go (AGr_at AGr_rfl) r1) r1 (LI_r x6 (AGr_at AGr_rfl)) (BF_r bo (AGr_at AGr_rfl))
      · have eP : phS tx (min L 76) (f + 1) a h n = (.inr b, (lnS tx (min L 76) h a).2, n + 1) := by
          show (match (lnS tx (min L 76) h a).1 with
            | .inl p => _
            | .inr b => _) = _
          rw [hq]
          exact if_neg q
        rw [if_neg q, pbI_rI, m_m0G (by omega) so, eP]
        unfold HO phE
        dsimp only
        by_cases q2 : L ≤ b
        · rw [if_pos q2, if_neg (by omega)]
          exact ⟨M1, k', y8', by rw [show (n : Int) + 1 = ((n + 1 : Nat) : Int) by omega], x6, bo, go, by omega, W', by omega, by omega, by omega⟩
        · obtain ⟨e2, r2⟩ := m_faultG (d := D) (by omega) so (p := b) (by omega)
          rw [if_neg q2, if_pos (by omega)]
          exact ⟨_, rfl, BF_r bo (AGr_bad AGr_rfl), gM_RSt go (AGr_bad AGr_rfl) r2⟩
theorem pset_same {M : pM} {o i : Nat} {v : Int} (h : M o i = v) : pset M o i v = M := by
  funext a b
  unfold pset
  split
  · rename_i z; rw [z.1, z.2, h]
  · rfl
theorem m_h204 {M : pM} (W : WF h0) (h62 : ∀ p, p < 36 → M 62 p = h0 2 p) {k : Nat} (hk : hR h0 ≤ k) (hk6 : k < 6) (x1 x2 x3 x4 x5 x6 : Int) : ∀ (m o : Nat), o + m = 6 → xE D 184 204 [.inr 62, .inl x1, .inl x2, .inl x3, .inl x4, .inl x5, .inl x6, .inl (k : Int), .inl (o : Int)] [] M = xE D 184 199 [.inr 62, .inl x1, .inl x2, .inl x3, .inl x4, .inl x5, .inl x6, .inl ((k + 1 : Nat) : Int), .inl 6] [] M := by
  intro m
  induction m with
  | zero =>
    intro o ho
    rw [L_M_house_204, if_pos (by rw [le32_iff] <;> omega), show ((k : Int) + 1) = ((k + 1 : Nat) : Int) by omega, show (o : Int) = 6 by omega]
  | succ m ih =>
    intro o ho
    have z1 : M 62 (6 * k + o) = 0 := by rw [h62 _ (by omega)]; exact W.2.2.2.2.2.2.1 k o hk6 (by omega) (Or.inl hk)
    have z2 : M 62 (6 * o + k) = 0 := by rw [h62 _ (by omega)]; exact W.2.2.2.2.2.2.1 o k (by omega) hk6 (Or.inr (Or.inl hk))
    rw [L_M_house_204, if_neg (by rw [le32_iff] <;> omega), if_pos (by omega), if_pos (by omega), show (6 * (k : Int) + (o : Int)).toNat = 6 * k + o by omega, show (6 * (o : Int) + (k : Int)).toNat = 6 * o + k by omega, pset_same z1, pset_same z2, show ((o : Int) + 1) = ((o + 1 : Nat) : Int) by omega]
    exact ih (o + 1) (by omega)
theorem m_h199 {M : pM} (W : WF h0) (h62 : ∀ p, p < 36 → M 62 p = h0 2 p) {r : Nat} (hr6 : r ≤ 6) (x2 x3 x4 x5 x6 : Int) : ∀ m k (y8 : pV), k + m = r → hR h0 ≤ k → ∃ y8', xE D 184 199 [.inr 62, .inl (r : Int), .inl x2, .inl x3, .inl x4, .inl x5, .inl x6, .inl (k : Int), y8] [] M = xE D 184 231 [.inr 62, .inl (r : Int), .inl x2, .inl x3, .inl x4, .inl x5, .inl x6, .inl 0, y8'] [] M := by
  intro m
  induction m with
  | zero =>
    intro k y8 hk hk0
    rw [L_M_house_199, if_pos (by rw [le32_iff] <;> omega)]
    exact ⟨y8, rfl⟩
  | succ m ih =>
    intro k y8 hk hk0
    have e := m_h204 (D := D) W h62 hk0 (by omega) (r : Int) x2 x3 x4 x5 x6 6 0 (by omega)
    obtain ⟨y8', e2⟩ := ih (k + 1) (.inl 6) (by omega) (by omega)
    rw [L_M_house_199, if_neg (by rw [le32_iff] <;> omega)]
    exact ⟨y8', e.trans e2⟩
/-- what the end of house leaves -/
def HEnd (h0 h M M' : pM) : Prop := M' 60 0 = hR h ∧ M' 60 3 = hT h ∧ M' 60 8 = hS h ∧ M' 60 33 = 0 ∧ M' 60 52 = (if hR h0 < hR h ∨ hT h0 < hT h then M 60 52 + 1 else M 60 52) ∧ (∀ p, p < 36 → M' 62 p = h 2 p) ∧ ∀ o i, o ≠ 62 → ¬ (o = 60 ∧ (i = 0 ∨ i = 3 ∨ i = 8 ∨ i = 33 ∨ i = 52)) → M' o i = M o i
theorem m_h231 (hD : 1 ≤ D) {h M : pM} {k n : Nat} (x6 : Int) (hk : k ≤ 76) (hR6 : hR h ≤ 6) (hT10 : hT h ≤ 10) (hS8 : hS h ≤ 8) (hr0 : hR h0 ≤ hR h) (ht0 : hT h0 ≤ hT h) (k0 : M 60 0 = hR h0) (k3 : M 60 3 = hT h0) (hl : LI h0 h k M) (hM : gM gAll M) : ∀ m i (y8 : pV) (M1 : pM), i + m = k → gM gAll M1 → (∀ p, p < 36 → M1 62 p = dAp (M 70) (h0 2) i p) → (∀ o i, o ≠ 62 → M1 o i = M o i) → ∃ M', xE D 184 231 [.inr 62, .inl (hR h : Int), .inl (hT h : Int), .inl (hS h : Int), .inl (k : Int), .inl (n : Int), .inl x6, .inl (i : Int), y8] [] M1 = rI n M' ∧ gM gAll M' ∧ HEnd h0 h M M' := by
  have t0 := gm_i hM 60 3 (lo := 0) (hi := 10) (by decide +kernel) (by decide +kernel)
  intro m
  induction m with
  | zero =>
    intro i y8 M1 hi g1 h62 ho
    have e : i = k := by omega
    subst e
    have fin : ∀ M2, gM gAll M2 → M2 60 52 = (if hR h0 < hR h ∨ hT h0 < hT h then M 60 52 + 1 else M 60 52) → (∀ p, p < 36 → M2 62 p = h 2 p) → (∀ o i, o ≠ 62 → ¬ (o = 60 ∧ i = 52) → M2 o i = M o i) → gM gAll (pset (pset (pset (pset M2 60 0 (hR h : Int)) 60 3 (hT h : Int)) 60 8 (hS h : Int)) 60 33 0) ∧ HEnd h0 h M (pset (pset (pset (pset M2 60 0 (hR h : Int)) 60 3 (hT h : Int)) 60 8 (hS h : Int)) 60 33 0) := by
      intro M2 g2 c1 c2 c3
      refine ⟨gM_f (gM_f (gM_f (gM_f g2 (lo := 0) (hi := 6) (by decide +kernel) (by omega) (by omega)) (lo := 0) (hi := 10) (by decide +kernel) (by omega) (by omega)) (lo := 0) (hi := 8) (by decide +kernel) (by omega) (by omega)) (lo := 0) (hi := 20) (by decide +kernel) (by omega) (by omega), ?_, ?_, ?_, pset_eq, ?_, fun p hp => ?_, fun o i q1 q2 => ?_⟩
      · rw [pset_ne2 (by decide), pset_ne2 (by decide), pset_ne2 (by decide), pset_eq]
      · rw [pset_ne2 (by decide), pset_ne2 (by decide), pset_eq]
      · rw [pset_ne2 (by decide), pset_eq]
      · rw [pset_ne2 (by decide), pset_ne2 (by decide), pset_ne2 (by decide), pset_ne2 (by decide)]; exact c1
      · rw [pset_ne (by decide), pset_ne (by decide), pset_ne (by decide), pset_ne (by decide)]; exact c2 p hp
      · unfold pset
        rw [if_neg (fun z => q2 ⟨z.1, by omega⟩), if_neg (fun z => q2 ⟨z.1, by omega⟩), if_neg (fun z => q2 ⟨z.1, by omega⟩), if_neg (fun z => q2 ⟨z.1, by omega⟩)]
        exact c3 o i q1 (fun z => q2 ⟨z.1, by omega⟩)
    have c2 : ∀ p, p < 36 → M1 62 p = h 2 p := fun p hp => by rw [h62 p hp]; exact (hl.2.2.2.1 p hp).symm
    have g5 : ∀ v, gM gAll (pset M1 60 52 v) := fun v => gMs_set g1 (by rw [show gAll 60 52 = (1, 0, 0, 0, 0, 0) by decide +kernel]; exact Or.inr (Or.inl rfl))
    have c5 : ∀ o i, o ≠ 62 → ¬ (o = 60 ∧ i = 52) → pset M1 60 52 (M1 60 52 + 1) o i = M o i := fun o i q1 q2 => (if_neg q2).trans (ho o i q1)
    rw [L_M_house_231, if_pos (by rw [le32_iff] <;> omega), ho 60 0 (by decide), ho 60 3 (by decide), k0, k3]
    by_cases q1 : hR h0 < hR h
    · rw [if_pos (by rw [lt32_iff] <;> omega)]
      obtain ⟨a1, a2⟩ := fin (pset M1 60 52 (M1 60 52 + 1)) (g5 _) (by rw [pset_eq, if_pos (Or.inl q1), ho 60 52 (by decide)]) (fun p hp => by rw [pset_ne (by decide)]; exact c2 p hp) c5
      exact ⟨_, rfl, a1, a2⟩
    · rw [if_neg (by rw [lt32_iff] <;> omega)]
      by_cases q2 : hT h0 < hT h
      · rw [if_neg (by rw [le32_iff] <;> omega)]
        obtain ⟨a1, a2⟩ := fin (pset M1 60 52 (M1 60 52 + 1)) (g5 _) (by rw [pset_eq, if_pos (Or.inr q2), ho 60 52 (by decide)]) (fun p hp => by rw [pset_ne (by decide)]; exact c2 p hp) c5
        exact ⟨_, rfl, a1, a2⟩
      · rw [if_pos (by rw [le32_iff] <;> omega)]
        obtain ⟨a1, a2⟩ := fin M1 g1 (by rw [if_neg (fun z => z.elim q1 q2), ho 60 52 (by decide)]) c2 (fun o i z1 z2 => ho o i z1)
        exact ⟨_, rfl, a1, a2⟩
  | succ m ih =>
    intro i y8 M1 hi g1 h62 ho
    obtain ⟨x, y, v1, v2, v3, v4, v5, v6⟩ := hl.2.2.2.2 i (by omega)
    obtain ⟨D', rfl, -⟩ := dsucc hD
    have i0 : (3 * (i : Int)).toNat = 3 * i := by omega
    have i1 : (3 * (i : Int) + 1).toNat = 3 * i + 1 := by omega
    have i2 : (3 * (i : Int) + 2).toNat = 3 * i + 2 := by omega
    rw [L_M_house_231, if_neg (by rw [le32_iff] <;> omega), if_pos (by omega), if_pos (by omega), if_pos (by omega), i0, i1, i2, ho 70 _ (by decide), ho 70 _ (by decide), ho 70 _ (by decide), v1, v2, T_M_put, if_pos (by omega), if_pos (by omega), pbN_rV, show (6 * (x : Int) + (y : Int)).toNat = 6 * x + y by omega, show (6 * (y : Int) + (x : Int)).toNat = 6 * y + x by omega, show ((i : Int) + 1) = ((i + 1 : Nat) : Int) by omega]
    refine ih (i + 1) y8 _ (by omega) (gM_r (gM_r g1 (lo := 0) (hi := 9) (by decide +kernel) (by decide +kernel) v5 v6) (lo := 0) (hi := 9) (by decide +kernel) (by decide +kernel) v5 v6) (fun p hp => ?_) (fun o j q => by rw [pset_ne q, pset_ne q]; exact ho o j q)
    show _ = (if _ ∨ _ then _ else dAp (M 70) (h0 2) i p)
    rw [v1, v2, Int.toNat_natCast, Int.toNat_natCast]
    by_cases q : p = 6 * y + x
    · rw [q, pset_eq, if_pos (Or.inl rfl)]
    · rw [pset_ne2 q]
      by_cases q2 : p = 6 * x + y
      · rw [q2, pset_eq, if_pos (Or.inr rfl)]
      · rw [pset_ne2 q2, if_neg (fun z => z.elim q q2)]; exact h62 p hp
/-- what house does: the answer, the house -/
noncomputable def hsA (tx : Nat → Int) (L : Nat) (h : pM) : Int := if L = 0 then 0 else match phE L (phS tx (min L 76) 78 0 h 0).1 with
  | .inl p => -1 - (p : Int)
  | .inr _ => ((phS tx (min L 76) 78 0 h 0).2.2 : Int)
noncomputable def hsH (tx : Nat → Int) (L : Nat) (h : pM) : pM := if L = 0 then h else match phE L (phS tx (min L 76) 78 0 h 0).1 with
  | .inl _ => h
  | .inr _ => (phS tx (min L 76) 78 0 h 0).2.1
/-- a new house comes -/
def hsN (tx : Nat → Int) (L : Nat) (h : pM) : Prop := L ≠ 0 ∧ ∃ b, phE L (phS tx (min L 76) 78 0 h 0).1 = .inr b
def wHouse : List (Nat × Nat) := [(60, 0), (60, 3), (60, 8), (60, 14), (60, 17), (60, 18), (60, 19), (60, 20), (60, 21), (60, 22), (60, 33), (60, 52), (61, 999), (62, 999), (63, 999), (64, 999), (65, 999), (66, 999), (67, 999), (70, 999)]
theorem m_house {d : Nat} (hd : 8 ≤ d) {M h : pM} (W : WF h) (X : MH M h) (hM : gM gAll M) (hL : M 60 14 = (L : Int)) (ht : ∀ i, i < 80 → M 68 i = tx i) : ∃ M', xF d 184 [.inr 62] M = rI (hsA tx L h) M' ∧ gM gAll M' ∧ Fr wHouse M M' ∧ WF (hsH tx L h) ∧ MH M' (hsH tx L h) ∧ M' 60 14 = 0 ∧ (hsN tx L h → M' 60 33 = 0) ∧ (¬ hsN tx L h → M' 60 33 = M 60 33) ∧ M' 60 52 = (if hR h < hR (hsH tx L h) ∨ hT h < hT (hsH tx L h) then M 60 52 + 1 else M 60 52) ∧ hR h ≤ hR (hsH tx L h) ∧ hT h ≤ hT (hsH tx L h) := by
  obtain ⟨D, rfl, hD⟩ := dsucc hd
  obtain ⟨D', rfl, -⟩ := dsucc (show 1 ≤ D by omega)
  obtain ⟨x1, x2, x3, x4, x5, x6, x7⟩ := X
  have b0 := gm_i hM 60 14 (lo := 0) (hi := 80) (by decide +kernel) (by decide +kernel)
  have htx : ∀ i, i < 80 → -128 ≤ tx i ∧ tx i ≤ 127 := fun i hi => by
    rw [← ht i hi]
    exact gm_r hM (o := 68) (lo := -128) (hi := 127) (by decide +kernel) (by decide +kernel) (show i < 80 from hi)
  rw [T_M_house, T_M_begin_68, pbN_rV]
  generalize hB : pset (pset (pset (pset (pset (pset (pset M 60 17 0) 60 18 70) 60 19 (pset M 60 17 0 60 14)) 60 20 76) 60 21 0) 60 22 (-1)) 60 14 0 = MB
  have hBo : ∀ o i, ¬ (o = 60 ∧ (i = 14 ∨ i = 17 ∨ i = 18 ∨ i = 19 ∨ i = 20 ∨ i = 21 ∨ i = 22)) → MB o i = M o i := fun o i q => by
    rw [← hB]
    unfold pset
    rw [if_neg (fun z => q ⟨z.1, by omega⟩), if_neg (fun z => q ⟨z.1, by omega⟩), if_neg (fun z => q ⟨z.1, by omega⟩), if_neg (fun z => q ⟨z.1, by omega⟩), if_neg (fun z => q ⟨z.1, by omega⟩), if_neg (fun z => q ⟨z.1, by omega⟩), if_neg (fun z => q ⟨z.1, by omega⟩)]
  have e14 : MB 60 14 = 0 := by rw [← hB, pset_eq]
  have e19 : MB 60 19 = (L : Int) := by
    rw [← hB, pset_ne2 (by decide), pset_ne2 (by decide), pset_ne2 (by decide), pset_ne2 (by decide), pset_eq, pset_ne2 (by decide)]; exact hL
  have gB : gM gAll MB := by
    rw [← hB]
    refine gM_f (gM_f (gM_f (gM_f (gM_f (gM_f (gM_thr hM) (lo := 0) (hi := 200) (by decide +kernel) (by omega) (by omega)) (lo := 0) (hi := 80) (by decide +kernel) ?_ ?_) (lo := 0) (hi := 80) (by decide +kernel) (by omega) (by omega)) (lo := 0) (hi := 80) (by decide +kernel) (by omega) (by omega)) (lo := -1) (hi := 80) (by decide +kernel) (by omega) (by omega)) (lo := 0) (hi := 80) (by decide +kernel) (by omega) (by omega)
    · rw [pset_ne2 (by decide)]; omega
    · rw [pset_ne2 (by decide)]; omega
  have fB : Fr wHouse M MB := fun o i q => hBo o i (fun z => by
    obtain ⟨rfl, z⟩ := z
    rcases z with rfl | rfl | rfl | rfl | rfl | rfl | rfl <;> exact absurd q (by decide))
  have XB : MH MB h := ⟨by rw [hBo 60 0 (by decide)]; exact x1, by rw [hBo 60 3 (by decide)]; exact x2, by rw [hBo 60 8 (by decide)]; exact x3, fun r hr => by rw [hBo 61 r (by omega)]; exact x4 r hr, fun p hp => by rw [hBo 62 p (by omega)]; exact x5 p hp, fun t ht2 => by rw [hBo 63 t (by omega), hBo 64 t (by omega), hBo 65 t (by omega), hBo 66 t (by omega)]; exact x6 t ht2, fun s hs => by rw [hBo 67 s (by omega)]; exact x7 s hs⟩
  by_cases q0 : L = 0
  · have eA : hsA tx L h = 0 := if_pos q0
    have eH : hsH tx L h = h := if_pos q0
    rw [e19, if_neg (fun z => z (by rw [q0]; rfl)), eA, eH, if_neg (by omega)]
    exact ⟨MB, rfl, gB, fB, W, XB, e14, fun z => absurd q0 z.1, fun _ => hBo 60 33 (by decide), hBo 60 52 (by decide), Nat.le_refl _, Nat.le_refl _⟩
  · have sB : RSt tx L 76 MB (.inr 0) := by
      refine ⟨by rw [← hB, pset_ne2 (by decide), pset_ne2 (by decide), pset_ne2 (by decide), pset_ne2 (by decide), pset_ne2 (by decide), pset_eq], e19, by rw [← hB, pset_ne2 (by decide), pset_ne2 (by decide), pset_ne2 (by decide), pset_eq]; rfl, by omega, by omega, fun i hi => by rw [hBo 68 i (by omega)]; exact ht i hi, htx, ?_, ?_, ?_, by omega, ?_⟩
      · rw [← hB, pset_ne2 (by decide), pset_ne2 (by decide), pset_eq]; omega
      · rw [← hB, pset_ne2 (by decide), pset_ne2 (by decide), pset_eq]; omega
      · rw [← hB, pset_ne2 (by decide), pset_ne2 (by decide), pset_eq]; rfl
      · rw [← hB, pset_ne2 (by decide), pset_eq]
    obtain ⟨y1, y2, y3, y4, y5, y6, y7⟩ := XB
    have lo := m_hl33 (D := D' + 1) (h0 := h) (M0 := MB) (by omega) 78 0 0 0 h MB (.inr 0) (.inr 0) (by omega) W (by omega) (Nat.le_refl _) (Nat.le_refl _) (Nat.le_refl _) (Nat.le_refl _) gB sB ⟨y4, y6, y7, fun p _ => rfl, fun i hi => absurd hi (Nat.not_lt_zero i)⟩ (fun _ _ _ _ _ _ _ => rfl)
    rw [e19, if_pos (by rw [eq32_iff] <;> omega), y1, y2, y3]
    have bfr : ∀ M', BF h MB M' → Fr wHouse MB M' := fun M' b o i q => by
      refine b o i (fun z => ?_) (fun z => ?_) (fun z => ?_) (fun z => ?_) (fun z => ?_)
      · rw [z, wOK_r (by decide)] at q; cases q
      · obtain ⟨rfl, z⟩ := z
        rcases z with rfl | rfl <;> exact absurd q (by decide)
      · rw [z.1, wOK_r (by decide)] at q; cases q
      · obtain ⟨z1, z2, -⟩ := z
        rcases (show o = 63 ∨ o = 64 ∨ o = 65 ∨ o = 66 by omega) with rfl | rfl | rfl | rfl <;> (rw [wOK_r (by decide)] at q; cases q)
      · rw [z.1, wOK_r (by decide)] at q; cases q
    cases hq : phE L (phS tx (min L 76) 78 0 h 0).1 with
    | inl p =>
      have eA : hsA tx L h = -1 - (p : Int) := by unfold hsA; rw [if_neg q0, hq]
      have eH : hsH tx L h = h := by unfold hsH; rw [if_neg q0, hq]
      unfold HO at lo
      rw [hq] at lo
      obtain ⟨M', e, b, g⟩ := lo
      rw [eA, eH, if_neg (by omega)]
      refine ⟨M', e, g, Fr_tr fB (bfr M' b), W, ⟨?_, ?_, ?_, fun r hr => ?_, fun p hp => ?_, fun t ht2 => ?_, fun s hs => ?_⟩, ?_, (fun z => by obtain ⟨-, b, z⟩ := z; rw [hq] at z; cases z), fun _ => ?_, ?_, Nat.le_refl _, Nat.le_refl _⟩
      · rw [b 60 0 (by decide) (by decide) (by omega) (by omega) (by omega)]; exact y1
      · rw [b 60 3 (by decide) (by decide) (by omega) (by omega) (by omega)]; exact y2
      · rw [b 60 8 (by decide) (by decide) (by omega) (by omega) (by omega)]; exact y3
      · rw [b 61 r (by decide) (by omega) (by omega) (by omega) (by omega)]; exact y4 r hr
      · rw [b 62 p (by decide) (by omega) (by omega) (by omega) (by omega)]; exact y5 p hp
      · rw [b 63 t (by decide) (by omega) (by omega) (by omega) (by omega), b 64 t (by decide) (by omega) (by omega) (by omega) (by omega), b 65 t (by decide) (by omega) (by omega) (by omega) (by omega), b 66 t (by decide) (by omega) (by omega) (by omega) (by omega)]; exact y6 t ht2
      · rw [b 67 s (by decide) (by omega) (by omega) (by omega) (by omega)]; exact y7 s hs
      · rw [b 60 14 (by decide) (by decide) (by omega) (by omega) (by omega)]; exact e14
      · rw [b 60 33 (by decide) (by decide) (by omega) (by omega) (by omega)]; exact hBo 60 33 (by decide)
      · rw [b 60 52 (by decide) (by decide) (by omega) (by omega) (by omega)]; exact hBo 60 52 (by decide)
    | inr bb =>
      have eA : hsA tx L h = ((phS tx (min L 76) 78 0 h 0).2.2 : Int) := by unfold hsA; rw [if_neg q0, hq]
      have eH : hsH tx L h = (phS tx (min L 76) 78 0 h 0).2.1 := by unfold hsH; rw [if_neg q0, hq]
      unfold HO at lo
      rw [hq] at lo
      rw [eA, eH]
      generalize (phS tx (min L 76) 78 0 h 0).2.1 = h' at lo
      generalize (phS tx (min L 76) 78 0 h 0).2.2 = n' at lo
      obtain ⟨M1, k', y8', e, l, b, g, hk, W', m1, m2, m3⟩ := lo
      have z0 : M1 60 0 = hR h := by rw [b 60 0 (by decide) (by decide) (by omega) (by omega) (by omega)]; exact y1
      have z3 : M1 60 3 = hT h := by rw [b 60 3 (by decide) (by decide) (by omega) (by omega) (by omega)]; exact y2
      have z62 : ∀ p, p < 36 → M1 62 p = h 2 p := fun p hp => by rw [b 62 p (by decide) (by omega) (by omega) (by omega) (by omega)]; exact y5 p hp
      obtain ⟨y8'', e2⟩ := m_h199 (D := D' + 1) W z62 (r := hR h') W'.1 (hT h' : Int) (hS h' : Int) (k' : Int) (n' : Int) 0 (hR h' - hR h) (hR h) y8' (by omega) (Nat.le_refl _)
      obtain ⟨M', e3, g3, E⟩ := m_h231 (D := D' + 1) (h0 := h) (h := h') (M := M1) (k := k') (n := n') (by omega) 0 hk W'.1 W'.2.1 W'.2.2.1 m1 m2 z0 z3 l g k' 0 y8'' M1 (by omega) g (fun p hp => z62 p hp) (fun _ _ _ => rfl)
      obtain ⟨E1, E2, E3, E4, E5, E6, E7⟩ := E
      refine ⟨M', ?_, g3, Fr_tr (Fr_tr fB (bfr M1 b)) (fun o i q => E7 o i (fun z => ?_) (fun z => ?_)), W', ⟨E1, E2, E3, fun r hr => ?_, E6, fun t ht2 => ?_, fun s hs => ?_⟩, ?_, fun _ => E4, fun z => absurd ⟨q0, bb, hq⟩ z, ?_, m1, m2⟩
      · refine e.trans ?_
        rw [z0, e2]; exact e3
      · rw [z, wOK_r (by decide)] at q; cases q
      · obtain ⟨rfl, z⟩ := z
        rcases z with rfl | rfl | rfl | rfl | rfl <;> exact absurd q (by decide)
      · rw [E7 61 r (by decide) (by omega)]; exact l.1 r hr
      · rw [E7 63 t (by decide) (by omega), E7 64 t (by decide) (by omega), E7 65 t (by decide) (by omega), E7 66 t (by decide) (by omega)]; exact l.2.1 t ht2
      · rw [E7 67 s (by decide) (by omega)]; exact l.2.2.1 s hs
      · rw [E7 60 14 (by decide) (by decide), b 60 14 (by decide) (by decide) (by omega) (by omega) (by omega)]; exact e14
      · rw [E5, b 60 52 (by decide) (by decide) (by omega) (by omega) (by omega), hBo 60 52 (by decide)]
end RH2
end
