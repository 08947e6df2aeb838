/-! judge and day of the reference -/
section RY
variable {D d R T L : Nat} {M M0 M' : pM} {tx : Nat → Int}
def wJg : List (Nat × Nat) := [(60, 11), (60, 16), (60, 17), (66, 999), (69, 999), (74, 999), (77, 999)]
theorem m_jg85 (hD : 1 ≤ D) (x1 x2 x3 x4 x5 x6 : Int) : ∀ (m t : Nat) (M : pM), t + m = T → RI0 M → M 60 3 = (T : Int) → (∀ k, k < T → M 77 k < M 60 0) → ∃ z M', xE D 221 85 [.inr 62, .inl x1, .inl x2, .inl x3, .inl x4, .inl x5, .inl x6, .inl (t : Int)] [] M = rI z M' ∧ RI0 M' ∧ Fr wJg M M' := by
  intro m
  induction m with
  | zero =>
    intro t M ht h h3 h77
    have t0 := gm_i h.1 60 3 (lo := 0) (hi := 10) (by decide +kernel) (by decide +kernel)
    obtain ⟨M1, e1, r1, f1, M2, e2, r2, f2⟩ := m_tell2 (D := D) hD (RI0_16 (RI0_11 h (v := x3))) pset_eq x5 x6
    rw [L_M_judge_85, h3, if_pos (by rw [le32_iff] <;> omega), e1, pbN_rV, e2, pbN_rV]
    exact ⟨_, M2, rfl, r2, Fr_tr (Fr_set (Fr_set Fr_rfl (by decide)) (by decide)) (Fr_mono f2 (by decide))⟩
  | succ m ih =>
    intro t M ht h h3 h77
    have t0 := gm_i h.1 60 3 (lo := 0) (hi := 10) (by decide +kernel) (by decide +kernel)
    have b7 := gm_r h.1 (o := 77) (lo := 0) (hi := 5) (by decide +kernel) (by decide +kernel) (k := t) (show t < 10 by omega)
    rw [L_M_judge_85, h3, if_neg (by rw [le32_iff] <;> omega), if_pos (by omega), if_pos (by omega), Int.toNat_natCast, show ((t : Int) + 1) = ((t + 1 : Nat) : Int) by omega]
    obtain ⟨z, M', e, r, f⟩ := ih (t + 1) (pset M 66 t (M 77 t)) (by omega) (RI0_66 h b7.1 (h77 t (by omega))) (by rw [pset_ne (by decide)]; exact h3) (fun k hk => by rw [pset_ne (by decide), pset_ne (by decide)]; exact h77 k hk)
    exact ⟨z, M', e, r, Fr_tr (Fr_set Fr_rfl (wOK_r (by decide) _)) f⟩
theorem m_jg35 (hD : 3 ≤ D) {n : Nat} (hn : n ≤ 4) (x2 x3 : Int) : ∀ (m k : Nat) (x4 x5 : Int) (y7 : pV) (M : pM), k + m = n → RI0 M → M 60 3 = (T : Int) → M 60 0 = (R : Int) → (∀ k, k < T → M 77 k < M 60 0) → ∃ z M', xE D 221 35 [.inr 62, .inl (n : Int), .inl x2, .inl x3, .inl x4, .inl x5, .inl (k : Int), y7] [] M = rI z M' ∧ RI0 M' ∧ Fr wJg M M' := by
  have fin : ∀ (x1 x4 x5 : Int) (M : pM), RI0 M → M 60 3 = (T : Int) → (∀ k, k < T → M 77 k < M 60 0) → ∃ z M', (pbI (xF D 212 [.inr 62, .inr 68] M) fun v2 M1 =>
 if eq32 v2 0 then
 xE D 221 85 [.inr 62, .inl x1, .inl x2, .inl x3, .inl x4, .inl x5, .inl 0, .inl 0] [] M1
 else
 xE D 221 85 [.inr 62, .inl x1, .inl x2, .inl x3, .inl x4, .inl x5, .inl 1, .inl 0] [] M1) = rI z M' ∧ RI0 M' ∧ Fr wJg M M' := by
    intro x1 x4 x5 M h h3 h77
    obtain ⟨z, e⟩ := m_law66 (d := D) (by omega) h.1
    rw [e, pbI_rI]
    by_cases q : eq32 z 0
    · rw [if_pos q]; exact m_jg85 (by omega) x1 x2 x3 x4 x5 0 T 0 M (by omega) h h3 h77
    · rw [if_neg q]; exact m_jg85 (by omega) x1 x2 x3 x4 x5 1 T 0 M (by omega) h h3 h77
  intro m
  induction m with
  | zero =>
    intro k x4 x5 y7 M hk h h3 h0 h77
    rw [L_M_judge_35, if_pos (by rw [le32_iff] <;> omega)]
    exact fin _ _ _ M h h3 h77
  | succ m ih =>
    intro k x4 x5 y7 M hk h h3 h0 h77
    rw [L_M_judge_35, if_neg (by rw [le32_iff] <;> omega)]
    by_cases q : eq32 x4 (-2)
    · have t0 := gm_i h.1 60 3 (lo := 0) (hi := 10) (by decide +kernel) (by decide +kernel)
      have r0 := gm_i h.1 60 0 (lo := 0) (hi := 6) (by decide +kernel) (by decide +kernel)
      have ra : -2147483648 ≤ jdiv (jand (jshr x2 (7 * (k : Int))) 127) 10 := r32a _
      have rb : jdiv (jand (jshr x2 (7 * (k : Int))) 127) 10 < 2147483648 := r32b _
      have rc : -2147483648 ≤ jrem (jand (jshr x2 (7 * (k : Int))) 127) 10 := r32a _
      have rd : jrem (jand (jshr x2 (7 * (k : Int))) 127) 10 < 2147483648 := r32b _
      rw [if_neg (fun z => z q)]
      generalize jdiv (jand (jshr x2 (7 * (k : Int))) 127) 10 = p at ra rb ⊢
      generalize jrem (jand (jshr x2 (7 * (k : Int))) 127) 10 = r at rc rd ⊢
      obtain ⟨z, M1, e1, g1, f1, alt⟩ := m_refusal (d := D) (by omega) ra rb rc rd h.1 h0 h3
      have h1 : RI0 M1 := RI0_Fr g1 f1 (by decide) h
      have k3 : M1 60 3 = (T : Int) := by rw [f1 60 3 (by decide)]; exact h3
      have k0 : M1 60 0 = (R : Int) := by rw [f1 60 0 (by decide)]; exact h0
      have k77 : ∀ k, k < T → M1 77 k < M1 60 0 := fun k hk => by rw [f1 77 k (wOK_no (by decide) k), f1 60 0 (by decide)]; exact h77 k hk
      rw [e1, pbI_rI, show ((k : Int) + 1) = ((k + 1 : Nat) : Int) by omega]
      rcases alt with q | ⟨rfl, q1, q2⟩
      · rw [if_neg (by rcases q with rfl | rfl | rfl <;> decide)]
        obtain ⟨z, M', e, rr, f⟩ := ih (k + 1) (k : Int) x5 (.inl (jand (jshr x2 (7 * (k : Int))) 127)) M1 (by omega) h1 k3 k0 k77
        exact ⟨z, M', e, rr, Fr_tr (Fr_mono f1 (by decide)) f⟩
      · obtain ⟨x, rfl⟩ := natI q1.1
        obtain ⟨y, rfl⟩ := natI q2.1
        obtain ⟨v, M3, e3, h4, f3⟩ := m_carries (d := D) (by omega) (b := x) (c := y) (by omega) (by omega) h1
        rw [if_pos (by decide), e3, pbI_rI]
        obtain ⟨z, M', e, rr, f⟩ := ih (k + 1) x4 (x5 + v) (.inl (jand (jshr x2 (7 * (k : Int))) 127)) M3 (by omega) h4 (by rw [f3 60 3 (by decide)]; exact k3) (by rw [f3 60 0 (by decide)]; exact k0) (fun k hk => by rw [f3 77 k (wOK_no (by decide) k), f3 60 0 (by decide)]; exact k77 k hk)
        exact ⟨z, M', e, rr, Fr_tr (Fr_mono f1 (by decide)) (Fr_tr (Fr_mono f3 (by decide)) f)⟩
    · rw [if_pos q]
      exact fin _ _ _ M h h3 h77
theorem r_judge {d : Nat} (hd : 4 ≤ d) {b c : Int} (hb1 : -2147483648 ≤ b) (hb2 : b ≤ 2147483647) (h : RI0 M) : okR d 221 [.inr 62, .inl b, .inl c] wJg M := by
  obtain ⟨D, rfl, hD⟩ := dsucc hd
  have ht := RI0_thr h
  have r0 := gm_i ht.1 60 0 (lo := 0) (hi := 6) (by decide +kernel) (by decide +kernel)
  have t0 := gm_i ht.1 60 3 (lo := 0) (hi := 10) (by decide +kernel) (by decide +kernel)
  obtain ⟨R, hR⟩ := natI r0.1
  obtain ⟨T, hT⟩ := natI t0.1
  have ft : Fr wJg M (pset M 60 17 0) := Fr_set Fr_rfl (by decide)
  unfold okR
  rw [T_M_judge, m_in (by omega), pbI_rI]
  generalize pset M 60 17 0 = M1 at ht r0 t0 hR hT ft ⊢
  by_cases q : lt32 b 0 ∨ lt32 4 b
  · rw [if_pos q, if_neg (fun z => z rfl)]; exact ⟨_, M1, rfl, ht, ft⟩
  · have n1 : ¬ lt32 b 0 := fun z => q (Or.inl z)
    have n2 : ¬ lt32 4 b := fun z => q (Or.inr z)
    rw [lt32_iff (by omega) (by omega) (by omega) (by omega)] at n1 n2
    obtain ⟨n, rfl⟩ := natI (show 0 ≤ b by omega)
    rw [if_neg q, if_pos (by decide)]
    have key : ∀ (m x : Nat) (M2 : pM), x + m = T → RI0 M2 → M2 60 3 = (T : Int) → M2 60 0 = (R : Int) → Fr wJg M1 M2 → (∀ k, k < x → M2 77 k < (R : Int)) → ∃ z M', xE D 221 12 [.inr 62, .inl (n : Int), .inl c, .inl (x : Int), .inr 0, .inr 0, .inr 0, .inr 0] [] M2 = rI z M' ∧ RI0 M' ∧ Fr wJg M1 M' := by
      intro m
      induction m with
      | zero =>
        intro x M2 hx g k3 k0 f k7
        rw [L_M_judge_12, k3, if_pos (by rw [le32_iff] <;> omega)]
        obtain ⟨z, M', e, r, f2⟩ := m_jg35 (D := D) (R := R) (T := T) (by omega) (n := n) (by omega) c (M2 60 11) n 0 (-2) 0 (.inr 0) M2 (by omega) g k3 k0 (fun k hk => by rw [k0]; exact k7 k (by omega))
        exact ⟨z, M', e, r, Fr_tr f f2⟩
      | succ m ih =>
        intro x M2 hx g k3 k0 f k7
        have b5 := gm_r g.1 (o := 66) (lo := 0) (hi := 5) (by decide +kernel) (by decide +kernel) (k := x) (show x < 10 by omega)
        have w := (g.2.2.1.2.2.2.1 x (by omega)).2.2.2
        rw [L_M_judge_12, k3, if_neg (by rw [le32_iff] <;> omega), if_pos (by omega), if_pos (by omega), Int.toNat_natCast, show ((x : Int) + 1) = ((x + 1 : Nat) : Int) by omega]
        refine ih (x + 1) _ (by omega) (RI0_Fr (w := [(77, 999)]) (gM_r g.1 (lo := 0) (hi := 5) (by decide +kernel) (by decide +kernel) b5.1 b5.2) (Fr_set Fr_rfl (wOK_r (by decide) _)) (by decide) g) (by rw [pset_ne (by decide)]; exact k3) (by rw [pset_ne (by decide)]; exact k0) (Fr_set f (wOK_r (by decide) _)) (fun k hk => ?_)
        by_cases qk : k = x
        · rw [qk, pset_eq]; omega
        · rw [pset_ne2 qk]; exact k7 k (by omega)
    obtain ⟨z, M', e, r, f⟩ := key T 0 M1 (by omega) ht hT hR Fr_rfl (fun k hk => by omega)
    exact ⟨z, M', e, r, Fr_tr ft f⟩
/-! day -/
def wPs : List (Nat × Nat) := [(60, 14), (60, 17), (60, 18), (60, 19), (60, 20), (60, 21), (60, 22), (76, 999)]
def wDay : List (Nat × Nat) := [(60, 10), (60, 11), (60, 14), (60, 16), (60, 17), (60, 18), (60, 19), (60, 20), (60, 21), (60, 22), (60, 33), (66, 999), (69, 999), (74, 999), (75, 999), (76, 999)]
def dP (M0 : pM) (e : Option pR) : Prop := ∃ z M', e = rI z M' ∧ RI0 M' ∧ Fr wDay M0 M' ∧ M' 60 14 = 0
theorem m_day96 (hD : 4 ≤ D) {n : Nat} (hn : n ≤ 11) (x2 : Int) : ∀ (m k : Nat) (x4 : Int) (M : pM), k + m = n → RI0 M → M 60 3 = (T : Int) → M 60 0 = (R : Int) → M 60 14 = 0 → Fr wDay M0 M → dP M0 (xE D 219 96 [.inr 62, .inl (n : Int), .inl x2, .inl (k : Int), .inl x4] [] M) := by
  intro m
  induction m with
  | zero =>
    intro k x4 M hk h h3 h0 h14 F
    obtain ⟨z, M1, e1, r1, f1, hz⟩ := m_goEv (d := D) (by omega) (RI0_16 h)
    have k16 : M1 60 16 = 0 := by rw [f1 60 16 (by decide), pset_eq]
    have F1 : Fr wDay M0 M1 := Fr_tr F (Fr_tr (Fr_set (w := wDay) Fr_rfl (by decide)) (Fr_mono f1 (by decide)))
    have k14 : M1 60 14 = 0 := by rw [f1 60 14 (by decide), pset_ne2 (by decide)]; exact h14
    rw [L_M_day_96, if_pos (by rw [le32_iff] <;> omega), if_pos (by rw [le32_iff] <;> omega), e1, pbI_rI]
    by_cases q : eq32 z 0
    · obtain ⟨M2, e2, -, -, M3, e3, r3, f3⟩ := m_tell2 (D := D) (by omega) r1 k16 0 x4
      rw [if_pos q, e2, pbN_rV, e3, pbN_rV]
      exact ⟨_, M3, rfl, r3, Fr_tr F1 (Fr_mono f3 (by decide)), by rw [f3 60 14 (by decide)]; exact k14⟩
    · obtain ⟨M2, e2, -, -, M3, e3, r3, f3⟩ := m_tell2 (D := D) (by omega) r1 k16 1 x4
      rw [if_neg q, e2, pbN_rV, e3, pbN_rV]
      exact ⟨_, M3, rfl, r3, Fr_tr F1 (Fr_mono f3 (by decide)), by rw [f3 60 14 (by decide)]; exact k14⟩
  | succ m ih =>
    intro k x4 M hk h h3 h0 h14 F
    have t0 := gm_i h.1 60 3 (lo := 0) (hi := 10) (by decide +kernel) (by decide +kernel)
    have b1 := gm_r h.1 (o := 76) (lo := -1000) (hi := 1000) (by decide +kernel) (by decide +kernel) (k := 2 * k) (show 2 * k < 80 by omega)
    have b2 := gm_r h.1 (o := 76) (lo := -1000) (hi := 1000) (by decide +kernel) (by decide +kernel) (k := 2 * k + 1) (show 2 * k + 1 < 80 by omega)
    have i1 : (0 : Int) ≤ 2 * (k : Int) ∧ 2 * (k : Int) < 80 := by omega
    have i2 : (0 : Int) ≤ 2 * (k : Int) + 1 ∧ 2 * (k : Int) + 1 < 80 := by omega
    obtain ⟨z, M1, e1, g1, f1, alt⟩ := m_refusal (d := D) (by omega) (b := M 76 (2 * k)) (c := M 76 (2 * k + 1)) (by omega) (by omega) (by omega) (by omega) h.1 h0 h3
    have h1 : RI0 M1 := RI0_Fr g1 f1 (by decide) h
    have k3 : M1 60 3 = (T : Int) := by rw [f1 60 3 (by decide)]; exact h3
    have k0 : M1 60 0 = (R : Int) := by rw [f1 60 0 (by decide)]; exact h0
    have k14 : M1 60 14 = 0 := by rw [f1 60 14 (by decide)]; exact h14
    have k76 : ∀ i, M1 76 i = M 76 i := fun i => f1 76 i (wOK_no (by decide) i)
    have F1 : Fr wDay M0 M1 := Fr_tr F (Fr_mono f1 (by decide))
    rw [L_M_day_96, if_neg (by rw [le32_iff] <;> omega), if_pos i1, if_pos i2, show (2 * (k : Int)).toNat = 2 * k by omega, show (2 * (k : Int) + 1).toNat = 2 * k + 1 by omega, e1, pbI_rI]
    rcases alt with q | ⟨rfl, q1, q2⟩
    · obtain ⟨M2, e2, -, -, M3, e3, r3, f3⟩ := m_tell2 (D := D) (by omega) (RI0_16 h1) pset_eq (-1) x4
      rw [if_pos (by rcases q with rfl | rfl | rfl <;> decide), if_neg (by rw [le32_iff] <;> omega), e2, pbN_rV, e3, pbN_rV]
      exact ⟨_, M3, rfl, r3, Fr_tr F1 (Fr_tr (Fr_set (w := wDay) Fr_rfl (by decide)) (Fr_mono f3 (by decide))), by rw [f3 60 14 (by decide), pset_ne2 (by decide)]; exact k14⟩
    · obtain ⟨x, hx⟩ := natI q1.1
      obtain ⟨y, hy⟩ := natI q2.1
      obtain ⟨M2, e2, h2, f2⟩ := m_remember (d := D) (by omega) (b := x) (by omega) (h1.2.2.1.2.2.2.1 x (by omega)).2.2.2 h1
      obtain ⟨v, M3, e3, h4, f3⟩ := m_carries (d := D) (by omega) (b := x) (c := y) (by omega) (by rw [f2 60 0 (by decide), k0]; omega) h2
      have k762 : ∀ i, M2 76 i = M 76 i := fun i => (f2 76 i (wOK_no (by decide) i)).trans (k76 i)
      rw [if_neg (fun z => z rfl), if_pos i1, k76, hx, e2, pbN_rV, if_pos i1, if_pos i2, k762, k762, hx, hy, e3, pbI_rI, show ((k : Int) + 1) = ((k + 1 : Nat) : Int) by omega]
      exact ih (k + 1) _ M3 (by omega) h4 (by rw [f3 60 3 (by decide), f2 60 3 (by decide)]; exact k3) (by rw [f3 60 0 (by decide), f2 60 0 (by decide)]; exact k0) (by rw [f3 60 14 (by decide), f2 60 14 (by decide)]; exact k14) (Fr_tr F1 (Fr_tr (Fr_mono f2 (by decide)) (Fr_mono f3 (by decide))))
theorem Fr_AGr {M1 M2 : pM} (a : AGr M1 M2) : Fr wPs M1 M2 := fun o i q => a o i (fun z => by
  obtain ⟨rfl, rfl | rfl⟩ := z <;> exact absurd q (by decide))
theorem m_hereA (hd : 1 ≤ d) {top : Nat} {s : rgs} (h : RSt tx L top M s) : ∃ v, xF d 178 [.inr 62] M = rI v M ∧ -128 ≤ v ∧ v ≤ 127 := by
  obtain ⟨D, rfl, -⟩ := dsucc hd
  obtain ⟨h1, h2, h3, h4, h5, h6, h7, h8, h9, h10⟩ := h
  obtain ⟨p, hp⟩ := natI h8
  rw [T_M_here, h2, h3, hp]
  by_cases q1 : L ≤ p
  · rw [if_pos (by rw [le32_iff] <;> omega)]; exact ⟨_, rfl, by decide, by decide⟩
  · rw [if_neg (by rw [le32_iff] <;> omega)]
    by_cases q2 : top ≤ p
    · rw [if_pos (by rw [le32_iff] <;> omega)]; exact ⟨_, rfl, by decide, by decide⟩
    · rw [if_neg (by rw [le32_iff] <;> omega), h1, show (70 : Int).toNat = 70 from rfl, m_here12, hp, if_pos (by omega), Int.toNat_natCast, h6 p (by omega)]
      exact ⟨_, rfl, (h7 p (by omega)).1, (h7 p (by omega)).2⟩
/-- what was read stands or not, and then the carrying -/
theorem m_dayV (hD : 4 ≤ D) {n : Nat} (hn : n ≤ 11) (x2 : Int) {s : rgs} (h : RSt tx L 40 M s) (hM : gM gAll M) (R0 : RI0 M0) (F : Fr wPs M0 M) (h14 : M 60 14 = 0) : dP M0 (pbI (xF D 179 [.inr 62] M) fun v2 M1 => if ¬ eq32 v2 0 then xE D 219 96 [.inr 62, .inl (n : Int), .inl x2, .inl 0, .inl 0] [] M1 else some (some (.inl ((-1) - (M1 60 22))), M1)) := by
  have r0 := gm_i hM 60 0 (lo := 0) (hi := 6) (by decide +kernel) (by decide +kernel)
  have t0 := gm_i hM 60 3 (lo := 0) (hi := 10) (by decide +kernel) (by decide +kernel)
  obtain ⟨R, hR⟩ := natI r0.1
  obtain ⟨T, hT⟩ := natI t0.1
  have r : RI0 M := RI0_Fr hM F (by decide) R0
  have F1 : Fr wDay M0 M := Fr_mono F (by decide)
  cases s with
  | inl p =>
    rw [m_fineB (by omega) h, pbI_rI, if_neg (fun z => z rfl)]
    exact ⟨_, M, rfl, r, F1, h14⟩
  | inr a =>
    rw [m_fineG (by omega) h, pbI_rI, if_pos (by decide)]
    exact m_day96 hD hn x2 n 0 0 M (by omega) r hT hR h14 F1
theorem m_dayE (hD : 4 ≤ D) {n : Nat} (hn : n ≤ 11) {s : rgs} (h : RSt tx L 40 M s) (hM : gM gAll M) (R0 : RI0 M0) (F : Fr wPs M0 M) (h14 : M 60 14 = 0) : dP M0 (xE D 219 22 [.inr 62, .inl (n : Int), .inl 0, .inr 0, .inr 0] [] M) := by
  rw [L_M_day_22, if_pos rfl]
  by_cases q : le32 (M 60 19) (M 60 21)
  · rw [if_pos q]; exact m_dayV hD hn 0 h hM R0 F h14
  · rw [if_neg q]
    cases s with
    | inl p => rw [m_faultB (by omega) h, pbN_rV]; exact m_dayV hD hn 0 h hM R0 F h14
    | inr a =>
      have h11 := h.2.2.2.2.2.2.2.2.2.2.1
      obtain ⟨e, r⟩ := m_faultG (d := D) (by omega) h (p := a) (by omega)
      rw [h.2.2.2.2.2.2.2.2.2.1, e, pbN_rV]
      exact m_dayV hD hn 0 r (gM_RSt hM (AGr_bad AGr_rfl) r) R0 (Fr_tr F (Fr_AGr (AGr_bad AGr_rfl))) (by rw [pset_ne2 (by decide)]; exact h14)
/-- behind a thing's letter -/
theorem m_dayS (hD : 4 ≤ D) {n a : Nat} (hn : n ≤ 10) {s : rgs} (h : RSt tx L 40 M s) (hs : ∀ b, s = .inr b → b = a) (hM : gM gAll M) (R0 : RI0 M0) (F : Fr wPs M0 M) (h14 : M 60 14 = 0) (ih : ∀ M3, RSt tx L 40 M3 (.inr (a + 3)) → a + 3 ≤ 40 → gM gAll M3 → Fr wPs M0 M3 → M3 60 14 = 0 → dP M0 (xE D 219 22 [.inr 62, .inl ((n + 1 : Nat) : Int), .inl 1, .inr 0, .inr 0] [] M3)) : dP M0 (pbN (xF D 182 [.inr 62, .inl 62] M) fun M19 => pbI (xF D 183 [.inr 62, .inl 1, .inl 0, .inl 9] M19) fun v21 M20 => if 0 ≤ (2 * (n : Int)) + 1 ∧ (2 * (n : Int)) + 1 < 80 then pbI (xF D 181 [.inr 62, .inl 59] (pset M20 76 (((2 * (n : Int)) + 1).toNat) v21)) fun v23 M22 => xE D 219 22 [.inr 62, .inl ((n + 1 : Nat) : Int), .inl v23, .inr 0, .inr 0] [] M22 else none) := by
  obtain ⟨M1, e1, r1, a1⟩ := m_need (d := D) (by omega) h (c := 62) (by decide) (by decide)
  have g1 := gM_RSt hM a1 r1
  obtain ⟨M2, e2, r2, a2⟩ := m_num1 (d := D) (by omega) r1 (lo := 0) (hi := 9) (by decide) (by decide) (by decide) (by decide)
  have g2 := gM_RSt g1 a2 r2
  have hv := sgV_range (tx := tx) (st := min L 40) (lo := 0) (hi := 9) (by decide) (Or.inl (by decide)) (sgN tx (min L 40) 62 s)
  have r3 := RSt_ne (v := sgV tx (min L 40) 0 9 (sgN tx (min L 40) 62 s)) (o := 76) (i := 2 * n + 1) r2 (by decide) (by decide)
  have g3 : gM gAll (pset M2 76 (2 * n + 1) (sgV tx (min L 40) 0 9 (sgN tx (min L 40) 62 s))) := gM_r g2 (lo := -1000) (hi := 1000) (by decide +kernel) (by decide +kernel) (by omega) (by omega)
  have F3 : Fr wPs M0 (pset M2 76 (2 * n + 1) (sgV tx (min L 40) 0 9 (sgN tx (min L 40) 62 s))) := Fr_set (Fr_tr F (Fr_tr (Fr_AGr a1) (Fr_AGr a2))) (wOK_r (by decide) _)
  have k14 : (pset M2 76 (2 * n + 1) (sgV tx (min L 40) 0 9 (sgN tx (min L 40) 62 s))) 60 14 = 0 := by
    rw [pset_ne (by decide), a2 60 14 (by decide), a1 60 14 (by decide)]; exact h14
  rw [e1, pbN_rV, e2, pbI_rI, if_pos (by omega), show (2 * (n : Int) + 1).toNat = 2 * n + 1 by omega]
  generalize hs4 : sgD tx (min L 40) 0 9 (sgN tx (min L 40) 62 s) = s4 at r3
  cases s4 with
  | inl p =>
    rw [m_passesB (by omega) r3, pbI_rI]
    exact m_dayE hD (n := n + 1) (by omega) r3 g3 R0 F3 k14
  | inr b =>
    obtain ⟨b1, hb1, hb2, -⟩ := sgD_inr hs4
    obtain ⟨b0, hb3, hb4, -⟩ := sgN_inr hb1
    have hb5 := hs b0 hb3
    rw [m_passesG (by omega) r3 (by decide) (by decide)]
    by_cases q : hc tx (min L 40) b = 59
    · have hlt : b < min L 40 := hc_lt (tx := tx) (st := min L 40) (by rw [q]; decide)
      have r4 := RSt_next r3 hlt
      rw [if_pos q, pbI_rI]
      rw [show b = a + 2 by omega] at r4 hlt ⊢
      exact ih _ r4 (by omega) (gM_RSt g3 (AGr_at AGr_rfl) r4) (Fr_tr F3 (Fr_AGr (AGr_at AGr_rfl))) (by rw [pset_ne2 (by decide)]; exact k14)
    · rw [if_neg q, pbI_rI]
      exact m_dayE hD (n := n + 1) (by omega) r3 g3 R0 F3 k14
theorem m_day22 (hD : 4 ≤ D) (R0 : RI0 M0) : ∀ (m n a : Nat) (M : pM), 4 * n + m = 44 → 4 * n ≤ a → a ≤ 40 → RSt tx L 40 M (.inr a) → gM gAll M → Fr wPs M0 M → M 60 14 = 0 → dP M0 (xE D 219 22 [.inr 62, .inl (n : Int), .inl 1, .inr 0, .inr 0] [] M) := by
  intro m
  induction m using Nat.strongRecOn with
  | ind m ih =>
    intro n a M hm hna ha h hM F h14
    have b21 := h.2.2.2.2.2.2.2.2.2.1
    have i1 : (0 : Int) ≤ 2 * (n : Int) ∧ 2 * (n : Int) < 80 := by omega
    rw [L_M_day_22, if_neg (by decide), m_fineG (by omega) h, pbI_rI, if_neg (by decide), m_here (by omega) h, pbI_rI]
    have hr := hc_range h a
    rw [m_inD (by omega) (by omega) (by omega) (by decide) (by decide) (by decide) (by decide), pbI_rI, show ((n : Int) + 1) = ((n + 1 : Nat) : Int) by omega]
    have nx : ∀ M3, RSt tx L 40 M3 (.inr (a + 1 + 3)) → a + 1 + 3 ≤ 40 → gM gAll M3 → Fr wPs M0 M3 → M3 60 14 = 0 → dP M0 (xE D 219 22 [.inr 62, .inl ((n + 1 : Nat) : Int), .inl 1, .inr 0, .inr 0] [] M3) := fun M3 r3 h40 g3 f3 k3 => ih (m - 4) (by omega) (n + 1) (a + 1 + 3) M3 (by omega) (by omega) h40 r3 g3 f3 k3
    by_cases q : 97 ≤ hc tx (min L 40) a ∧ hc tx (min L 40) a ≤ 106
    · have hlt : a < min L 40 := hc_lt (tx := tx) (st := min L 40) (by omega)
      have r1 := RSt_ne (v := hc tx (min L 40) a - 97) (o := 76) (i := 2 * n) h (by decide) (by decide)
      have g1 : gM gAll (pset M 76 (2 * n) (hc tx (min L 40) a - 97)) := gM_r hM (lo := -1000) (hi := 1000) (by decide +kernel) (by decide +kernel) (by omega) (by omega)
      have r2 := RSt_next r1 hlt
      rw [if_pos q, if_pos (by decide), m_here (by omega) h, pbI_rI, if_pos i1, show (2 * (n : Int)).toNat = 2 * n by omega, pset_ne (show 60 ≠ 76 by decide), b21]
      exact m_dayS hD (by omega) r2 (fun b hb => by cases hb; rfl) (gM_RSt g1 (AGr_at AGr_rfl) r2) R0 (Fr_tr (Fr_set F (wOK_r (by decide) _)) (Fr_AGr (AGr_at AGr_rfl))) (by rw [pset_ne2 (by decide), pset_ne (by decide)]; exact h14) nx
    · obtain ⟨e, r⟩ := m_faultG (d := D) (by omega) h (p := a) (by omega)
      obtain ⟨v, ev, v1, v2⟩ := m_hereA (d := D) (by omega) r
      have r1 := RSt_ne (v := v - 97) (o := 76) (i := 2 * n) r (by decide) (by decide)
      have g0 := gM_RSt hM (AGr_bad AGr_rfl) r
      have g1 : gM gAll (pset (pset M 60 22 (a : Int)) 76 (2 * n) (v - 97)) := gM_r g0 (lo := -1000) (hi := 1000) (by decide +kernel) (by decide +kernel) (by omega) (by omega)
      have r2 : RSt tx L 40 (pset (pset (pset M 60 22 (a : Int)) 76 (2 * n) (v - 97)) 60 21 ((a : Int) + 1)) (.inl a) := by
        obtain ⟨h1, h2, h3, h4, h5, h6, h7, h8, h9, h10⟩ := r1
        exact ⟨by rw [pset_ne2 (by decide)]; exact h1, by rw [pset_ne2 (by decide)]; exact h2, by rw [pset_ne2 (by decide)]; exact h3, h4, h5, fun i hi => by rw [pset_ne (by decide)]; exact h6 i hi, h7, by rw [pset_eq]; omega, by rw [pset_eq]; omega, by rw [pset_ne2 (by decide)]; exact h10.1, h10.2⟩
      rw [if_neg q, if_neg (fun z => z rfl), b21, e, pbN_rV, ev, pbI_rI, if_pos i1, show (2 * (n : Int)).toNat = 2 * n by omega, pset_ne (show 60 ≠ 76 by decide), pset_ne2 (show 21 ≠ 22 by decide), b21]
      exact m_dayS hD (by omega) r2 (fun b hb => by cases hb) (gM_RSt g1 (AGr_at AGr_rfl) r2) R0 (Fr_tr (Fr_set (Fr_tr F (Fr_AGr (AGr_bad AGr_rfl))) (wOK_r (by decide) _)) (Fr_AGr (AGr_at AGr_rfl))) (by rw [pset_ne2 (by decide), pset_ne (by decide), pset_ne2 (by decide)]; exact h14) nx
theorem r_day {d : Nat} (hd : 5 ≤ d) (h : RI0 M) : dP M (xF d 219 [.inr 62] M) := by
  obtain ⟨D, rfl, hD⟩ := dsucc hd
  obtain ⟨D', rfl, -⟩ := dsucc (show 1 ≤ D by omega)
  have hM := h.1
  have b0 := gm_i hM 60 14 (lo := 0) (hi := 80) (by decide +kernel) (by decide +kernel)
  obtain ⟨L, hL⟩ := natI b0.1
  have htx : ∀ i, i < 80 → -128 ≤ M 68 i ∧ M 68 i ≤ 127 := fun i hi => gm_r hM (o := 68) (lo := -128) (hi := 127) (by decide +kernel) (by decide +kernel) (show i < 80 from hi)
  rw [T_M_day, T_M_begin_68, pbN_rV]
  generalize hB : pset (pset (pset (pset (pset (pset (pset M 60 17 0) 60 18 70) 60 19 (pset M 60 17 0 60 14)) 60 20 40) 60 21 0) 60 22 (-1)) 60 14 0 = MB
  have hBo : ∀ o i, ¬ (o = 60 ∧ (i = 14 ∨ i = 17 ∨ i = 18 ∨ i = 19 ∨ i = 20 ∨ i = 21 ∨ i = 22)) → MB o i = M o i := fun o i q => by
    rw [← hB]
    unfold pset
    rw [if_neg (fun z => q ⟨z.1, by omega⟩), if_neg (fun z => q ⟨z.1, by omega⟩), if_neg (fun z => q ⟨z.1, by omega⟩), if_neg (fun z => q ⟨z.1, by omega⟩), if_neg (fun z => q ⟨z.1, by omega⟩), if_neg (fun z => q ⟨z.1, by omega⟩), if_neg (fun z => q ⟨z.1, by omega⟩)]
  have e14 : MB 60 14 = 0 := by rw [← hB, pset_eq]
  have e19 : MB 60 19 = (L : Int) := by
    rw [← hB, pset_ne2 (by decide), pset_ne2 (by decide), pset_ne2 (by decide), pset_ne2 (by decide), pset_eq, pset_ne2 (by decide)]; exact hL
  have gB : gM gAll MB := by
    rw [← hB]
    refine gM_f (gM_f (gM_f (gM_f (gM_f (gM_f (gM_thr hM) (lo := 0) (hi := 200) (by decide +kernel) (by omega) (by omega)) (lo := 0) (hi := 80) (by decide +kernel) ?_ ?_) (lo := 0) (hi := 80) (by decide +kernel) (by omega) (by omega)) (lo := 0) (hi := 80) (by decide +kernel) (by omega) (by omega)) (lo := -1) (hi := 80) (by decide +kernel) (by omega) (by omega)) (lo := 0) (hi := 80) (by decide +kernel) (by omega) (by omega)
    · rw [pset_ne2 (by decide)]; omega
    · rw [pset_ne2 (by decide)]; omega
  have fB : Fr wPs M MB := fun o i q => hBo o i (fun z => by
    obtain ⟨rfl, z⟩ := z
    rcases z with rfl | rfl | rfl | rfl | rfl | rfl | rfl <;> exact absurd q (by decide))
  have rB : RSt (fun i => M 68 i) L 40 MB (.inr 0) := by
    refine ⟨?_, e19, ?_, by omega, by decide, fun i hi => hBo 68 i (by omega), htx, ?_, ?_, ?_, by omega, ?_⟩
    · rw [← hB, pset_ne2 (by decide), pset_ne2 (by decide), pset_ne2 (by decide), pset_ne2 (by decide), pset_ne2 (by decide), pset_eq]
    · rw [← hB, pset_ne2 (by decide), pset_ne2 (by decide), pset_ne2 (by decide), pset_eq]; rfl
    · rw [← hB, pset_ne2 (by decide), pset_ne2 (by decide), pset_eq]; decide
    · rw [← hB, pset_ne2 (by decide), pset_ne2 (by decide), pset_eq]; decide
    · rw [← hB, pset_ne2 (by decide), pset_ne2 (by decide), pset_eq]; rfl
    · rw [← hB, pset_ne2 (by decide), pset_eq]
  by_cases q : le32 (MB 60 19) 0
  · rw [if_pos q]; exact m_dayE (by omega) (n := 0) (by decide) rB gB h fB e14
  · rw [if_neg q]; exact m_day22 (by omega) h 44 0 0 MB (by omega) (by omega) (by omega) rB gB fB e14
end RY
