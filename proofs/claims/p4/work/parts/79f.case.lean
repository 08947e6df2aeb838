/-! every case of the law: both sides end, the invariant stays (by program) -/
/-- the texts are the same, the strengths, how many there are -/
def IV (M : pM) : Prop := RI0 M ∧ M 1 1 = M 60 14 ∧ M 0 17 = M 60 12 ∧ (M 7 9 = M 60 0 ∧ M 7 10 = M 60 3 ∧ M 7 11 = M 60 8) ∧ ∀ i, i < 80 → M 2 i = ux (M 68 i)
def frK (w : List (Nat × Nat)) : Bool := !(wOK w 7 9) && !(wOK w 7 10) && !(wOK w 7 11) && !(wOK w 60 0) && !(wOK w 60 3) && !(wOK w 60 8)
def frT (w : List (Nat × Nat)) : Bool := w.all (fun q => !(Nat.beq q.1 2)) && w.all (fun q => !(Nat.beq q.1 68))
def frS (w : List (Nat × Nat)) : Bool := !(wOK w 0 17) && !(wOK w 60 12)
def frL (w : List (Nat × Nat)) : Bool := !(wOK w 1 1) && !(wOK w 60 14)
theorem not_b {b : Bool} (h : (!b) = true) : b = false := by cases b; rfl; cases h
section IVS
variable {M M' : pM} {w : List (Nat × Nat)}
theorem iv_K (h : frK w = true) (f : Fr w M M') (e : M 7 9 = M 60 0 ∧ M 7 10 = M 60 3 ∧ M 7 11 = M 60 8) : M' 7 9 = M' 60 0 ∧ M' 7 10 = M' 60 3 ∧ M' 7 11 = M' 60 8 := by
  unfold frK at h
  simp only [Bool.and_eq_true] at h
  obtain ⟨⟨⟨⟨⟨a, b⟩, c⟩, d⟩, g⟩, k⟩ := h
  rw [f 7 9 (not_b a), f 7 10 (not_b b), f 7 11 (not_b c), f 60 0 (not_b d), f 60 3 (not_b g), f 60 8 (not_b k)]; exact e
theorem iv_T (h : frT w = true) (f : Fr w M M') (e : ∀ i, i < 80 → M 2 i = ux (M 68 i)) : ∀ i, i < 80 → M' 2 i = ux (M' 68 i) := fun i hi => by
  unfold frT at h
  rw [Bool.and_eq_true] at h
  rw [f 2 i (wOK_no h.1 i), f 68 i (wOK_no h.2 i)]; exact e i hi
theorem iv_S (h : frS w = true) (f : Fr w M M') (e : M 0 17 = M 60 12) : M' 0 17 = M' 60 12 := by
  unfold frS at h
  rw [Bool.and_eq_true] at h
  rw [f 0 17 (not_b h.1), f 60 12 (not_b h.2)]; exact e
theorem iv_L (h : frL w = true) (f : Fr w M M') (e : M 1 1 = M 60 14) : M' 1 1 = M' 60 14 := by
  unfold frL at h
  rw [Bool.and_eq_true] at h
  rw [f 1 1 (not_b h.1), f 60 14 (not_b h.2)]; exact e
end IVS
section KC
variable {M : pM}
theorem k_sign {a1 : Int} (h : IV M) (h1 : -2147483648 ≤ a1 ∧ a1 ≤ 2147483647) : okC (cmpc 0) 1000 0 175 [.inr 2, .inl a1] [.inr 62, .inl a1] IV M := by
  obtain ⟨v, M1, e1, g1, f1, -⟩ := q_X_sign (d := 1000) (by decide) h.1.1 h1
  have r1 : RI0 M1 := RI0_Fr g1 f1 (by decide) h.1
  obtain ⟨y, M2, e2, r2, f2⟩ := w_M_sign r1 h1
  have b0 := gm_i h.1.1 1 1 (lo := 0) (hi := 80) (by decide +kernel) (by decide +kernel)
  obtain ⟨L, hL⟩ := natI b0.1
  have t1 := c_sign (d := 1000) (by decide) hL (by omega) (b := a1)
  have hL2 : M1 60 14 = (L : Int) := by rw [f1 60 14 (by decide), ← h.2.1]; exact hL
  have t2 := m_sign (d := 1000) (by decide) hL2 (by omega) (b := a1)
  rw [e1] at t1
  rw [e2] at t2
  by_cases q : L + 4 ≤ 80
  · rw [if_pos q] at t1 t2
    refine ⟨v, y, M1, M2, e1, e2, fun _ => by rw [(rI_inj t1).1, (rI_inj t2).1], r2, ?_, iv_S (by decide) f2 (iv_S (by decide) f1 h.2.2.1), iv_K (by decide) f2 (iv_K (by decide) f1 h.2.2.2.1), fun i hi => ?_⟩
    · rw [f2 1 1 (by decide), (rI_inj t1).2, (rI_inj t2).2, tapp_len (by decide), tapp_len (by decide)]
    · have m2 : M2 2 i = M1 2 i := f2 2 i (wOK_no (by decide) i)
      have m68 : M1 68 i = M 68 i := f1 68 i (wOK_no (by decide) i)
      rw [m2, (rI_inj t1).2, (rI_inj t2).2]
      unfold tapp
      by_cases z : L ≤ i ∧ i < L + 4
      · rw [if_pos ⟨rfl, z⟩, if_pos ⟨rfl, z⟩]; exact sg_ux a1 (i - L) (by omega)
      · rw [if_neg (fun y => z y.2), if_neg (fun y => absurd y.1 (by decide)), if_neg (fun y => z y.2), if_neg (fun y => absurd y.1 (by decide)), pset_ne (show 68 ≠ 60 by decide), m68]
        exact h.2.2.2.2 i hi
  · rw [if_neg q] at t1 t2
    refine ⟨v, y, M1, M2, e1, e2, fun _ => by rw [(rI_inj t1).1, (rI_inj t2).1], r2, ?_, iv_S (by decide) f2 (iv_S (by decide) f1 h.2.2.1), iv_K (by decide) f2 (iv_K (by decide) f1 h.2.2.2.1), fun i hi => ?_⟩
    · rw [f2 1 1 (by decide), (rI_inj t2).2, pset_ne2 (show 14 ≠ 17 by decide), hL2, (rI_inj t1).2, hL]
    · have m2 : M2 2 i = M1 2 i := f2 2 i (wOK_no (by decide) i)
      have m68 : M1 68 i = M 68 i := f1 68 i (wOK_no (by decide) i)
      rw [m2, (rI_inj t2).2, pset_ne (show 68 ≠ 60 by decide), m68, (rI_inj t1).2]
      exact h.2.2.2.2 i hi
theorem k_end {a1 : Int} (h : IV M) (h1 : -2147483648 ≤ a1 ∧ a1 ≤ 2147483647) : okC (cmpc 1) 1000 1 176 [.inr 2, .inl a1] [.inr 62, .inl a1] IV M := by
  obtain ⟨v, M1, e1, g1, f1, -⟩ := q_X_end (d := 1000) (by decide) h.1.1 h1
  have r1 : RI0 M1 := RI0_Fr g1 f1 (by decide) h.1
  obtain ⟨y, M2, e2, r2, f2⟩ := w_M_end r1 h1
  have b0 := gm_i h.1.1 1 1 (lo := 0) (hi := 80) (by decide +kernel) (by decide +kernel)
  have k60 : M1 60 14 = M 1 1 := by rw [f1 60 14 (by decide)]; exact h.2.1.symm
  have t1 : xF (999 + 1) 1 [.inr 2, .inl a1] M = rI v M1 := e1
  have t2 : xF (999 + 1) 176 [.inr 62, .inl a1] M1 = rI y M2 := e2
  rw [T_X_end, x_cut (by decide) h1.1 (by omega) h.1.1] at t1
  rw [T_M_end, m_in (by decide), pbI_rI, pset_ne2 (show 14 ≠ 17 by decide), k60] at t2
  by_cases q : 0 ≤ a1 ∧ a1 ≤ M 1 1
  · rw [if_pos q, pbI_rI, if_pos (Or.inr rfl)] at t1
    have hz : ¬ (lt32 a1 0 ∨ lt32 (M 1 1) a1) := by
      rw [lt32_iff (by omega) (by omega) (by omega) (by omega), lt32_iff (by omega) (by omega) (by omega) (by omega)]
      omega
    rw [if_neg hz, if_pos (by decide)] at t2
    exact ⟨v, y, M1, M2, e1, e2, fun _ => by rw [← (rI_inj t1).1, ← (rI_inj t2).1], r2, by rw [f2 1 1 (by decide), ← (rI_inj t1).2, ← (rI_inj t2).2, pset_eq, pset_eq], iv_S (by decide) f2 (iv_S (by decide) f1 h.2.2.1), iv_K (by decide) f2 (iv_K (by decide) f1 h.2.2.2.1), iv_T (by decide) f2 (iv_T (by decide) f1 h.2.2.2.2)⟩
  · rw [if_neg q, pbI_rI, if_pos (Or.inl rfl)] at t1
    have hz : lt32 a1 0 ∨ lt32 (M 1 1) a1 := by
      rw [lt32_iff (by omega) (by omega) (by omega) (by omega), lt32_iff (by omega) (by omega) (by omega) (by omega)]
      omega
    rw [if_pos hz, if_neg (fun z => z rfl)] at t2
    exact ⟨v, y, M1, M2, e1, e2, fun _ => by rw [← (rI_inj t1).1, ← (rI_inj t2).1], r2, by rw [f2 1 1 (by decide), ← (rI_inj t2).2, pset_ne2 (show 14 ≠ 17 by decide), k60, ← (rI_inj t1).2], iv_S (by decide) f2 (iv_S (by decide) f1 h.2.2.1), iv_K (by decide) f2 (iv_K (by decide) f1 h.2.2.2.1), iv_T (by decide) f2 (iv_T (by decide) f1 h.2.2.2.2)⟩
theorem k_house  (h : IV M)  : okC (cmpc 2) 1000 2 184 [.inr 2] [.inr 62] IV M := by
  obtain ⟨v, M1, e1, g1, f1⟩ := q_X_house (d := 1000) (by decide) h.1.1 
  have r1 : RI0 M1 := RI0_Fr g1 f1 (by decide) h.1
  obtain ⟨y, M2, e2, r2, f2, k2⟩ := r_house (d := 1000) (by decide) r1
  have k1 := t_X_house (d := 1000) (by decide) h.1.1 e1
  have b0 := gm_i h.1.1 1 1 (lo := 0) (hi := 80) (by decide +kernel) (by decide +kernel)
  obtain ⟨L, hL⟩ := natI b0.1
  have htx : ∀ i, i < 80 → -128 ≤ M 68 i ∧ M 68 i ≤ 127 := fun i hi => gm_r h.1.1 (o := 68) (lo := -128) (hi := 127) (by decide +kernel) (by decide +kernel) (show i < 80 from hi)
  obtain ⟨XX, BX⟩ := XH_of h.1.1 (fun s hs => (gm_r h.1.1 (o := 14) (lo := 0) (hi := 1023) (by decide +kernel) (by decide +kernel) (k := s) (show s < 8 from hs)).1)
  obtain ⟨zx, X2, -⟩ := x_house (tx := fun i => M 68 i) (d := 1000) (by decide) h.1.1 XX BX hL h.2.2.2.2 htx e1
  have hL2 : M1 60 14 = (L : Int) := by rw [f1 60 14 (by decide), ← h.2.1]; exact hL
  obtain ⟨M2', e2', -, -, -, XM, -⟩ := m_house (tx := fun i => M 68 i) (L := L) (d := 1000) (by decide) (WF_of r1.1 r1.2.2.1) (MH_of r1.1) r1.1 hL2 (fun i hi => f1 68 i (wOK_no (by decide) i))
  obtain ⟨rfl, rfl⟩ := rI_inj (e2.symm.trans e2')
  have ce : CE (xOf M) (hOf M1) := by
    obtain ⟨q1, q2, q3⟩ := h.2.2.2.1
    unfold CE hR hT hS
    refine ⟨?_, ?_, ?_⟩
    · show (M 7 9).toNat = (M1 60 0).toNat
      rw [f1 60 0 (by decide), q1]
    · show (M 7 10).toNat = (M1 60 3).toNat
      rw [f1 60 3 (by decide), q2]
    · show (M 7 11).toNat = (M1 60 8).toNat
      rw [f1 60 8 (by decide), q3]
  obtain ⟨ca, cb, cc, cd⟩ := hs_cg (tx := fun i => M 68 i) (L := L) ce
  refine ⟨v, _, M1, _, e1, e2, fun _ => by rw [zx, ca], r2, by rw [f2 1 1 (by decide), k1, k2], iv_S (by decide) f2 (iv_S (by decide) f1 h.2.2.1), ⟨?_, ?_, ?_⟩, iv_T (by decide) f2 (iv_T (by decide) f1 h.2.2.2.2)⟩
  · rw [f2 7 9 (by decide), X2.1, XM.1, cb]
  · rw [f2 7 10 (by decide), X2.2.1, XM.2.1, cc]
  · rw [f2 7 11 (by decide), X2.2.2.1, XM.2.2.1, cd]
theorem k_rule  (h : IV M)  : okC (cmpc 3) 1000 3 193 [.inr 2] [.inr 62] IV M := by
  obtain ⟨v, M1, e1, g1, f1, -⟩ := q_X_rule (d := 1000) (by decide) h.1.1 
  have r1 : RI0 M1 := RI0_Fr g1 f1 (by decide) h.1
  obtain ⟨y, M2, e2, r2, f2⟩ := w_M_rule r1 
  have k2 := t_M_rule (d := 1000) (by decide) r1.1 e2
  have k1 := t_X_rule (d := 1000) (by decide) h.1.1 e1
  exact ⟨v, y, M1, M2, e1, e2, fun z => absurd z (by decide), r2, by rw [f2 1 1 (by decide), k1, k2], iv_S (by decide) f2 (iv_S (by decide) f1 h.2.2.1), iv_K (by decide) f2 (iv_K (by decide) f1 h.2.2.2.1), iv_T (by decide) f2 (iv_T (by decide) f1 h.2.2.2.2)⟩
theorem k_room {a1 : Int} {a2 : Int} (h : IV M) (h1 : -2147483648 ≤ a1 ∧ a1 ≤ 2147483647) (h2 : -2147483648 ≤ a2 ∧ a2 ≤ 2147483647) : okT0 1000 4 10 199 [.inr 2, .inl a1, .inl a2] [.inr 62, .inl a1, .inl a2] IV M := by
  obtain ⟨v, M1, e1, g1, f1⟩ := y_room (d := 1000) (by decide) h.1.1 h1 h2
  have r1 : RI0 M1 := RI0_Fr g1 f1 (by decide) h.1
  obtain ⟨y, M2, e2, r2, f2⟩ := w_M_room r1 h1 h2
  exact ⟨v, y, M1, M2, e1, e2, r2, iv_L (by decide) f2 (iv_L (by decide) f1 h.2.1), iv_S (by decide) f2 (iv_S (by decide) f1 h.2.2.1), iv_K (by decide) f2 (iv_K (by decide) f1 h.2.2.2.1), iv_T (by decide) f2 (iv_T (by decide) f1 h.2.2.2.2)⟩
theorem k_thing {a1 : Int} {a2 : Int} (h : IV M) (h1 : -2147483648 ≤ a1 ∧ a1 ≤ 2147483647) (h2 : -2147483648 ≤ a2 ∧ a2 ≤ 2147483647) : okT0 1000 5 10 201 [.inr 2, .inl a1, .inl a2] [.inr 62, .inl a1, .inl a2] IV M := by
  obtain ⟨v, M1, e1, g1, f1⟩ := y_thing (d := 1000) (by decide) h.1.1 h1 h2
  have r1 : RI0 M1 := RI0_Fr g1 f1 (by decide) h.1
  obtain ⟨y, M2, e2, r2, f2⟩ := w_M_thing r1 h1 h2
  exact ⟨v, y, M1, M2, e1, e2, r2, iv_L (by decide) f2 (iv_L (by decide) f1 h.2.1), iv_S (by decide) f2 (iv_S (by decide) f1 h.2.2.1), iv_K (by decide) f2 (iv_K (by decide) f1 h.2.2.2.1), iv_T (by decide) f2 (iv_T (by decide) f1 h.2.2.2.2)⟩
theorem k_set {a1 : Int} (h : IV M) (h1 : -2147483648 ≤ a1 ∧ a1 ≤ 2147483647) : okC (cmpc 6) 1000 6 202 [.inr 2, .inl a1] [.inr 62, .inl a1] IV M := by
  obtain ⟨v, M1, e1, g1, f1, -⟩ := q_X_set (d := 1000) (by decide) h.1.1 h1
  have r1 : RI0 M1 := RI0_Fr g1 f1 (by decide) h.1
  obtain ⟨y, M2, e2, r2, f2⟩ := w_M_set r1 h1
  exact ⟨v, y, M1, M2, e1, e2, fun z => absurd z (by decide), r2, iv_L (by decide) f2 (iv_L (by decide) f1 h.2.1), iv_S (by decide) f2 (iv_S (by decide) f1 h.2.2.1), iv_K (by decide) f2 (iv_K (by decide) f1 h.2.2.2.1), iv_T (by decide) f2 (iv_T (by decide) f1 h.2.2.2.2)⟩
theorem k_door {a1 : Int} {a2 : Int} (h : IV M) (h1 : -2147483648 ≤ a1 ∧ a1 ≤ 2147483647) (h2 : -2147483648 ≤ a2 ∧ a2 ≤ 2147483647) : okC (cmpc 7) 1000 7 203 [.inr 2, .inl a1, .inl a2] [.inr 62, .inl a1, .inl a2] IV M := by
  obtain ⟨v, M1, e1, g1, f1, -⟩ := q_X_door (d := 1000) (by decide) h.1.1 h1 h2
  have r1 : RI0 M1 := RI0_Fr g1 f1 (by decide) h.1
  obtain ⟨y, M2, e2, r2, f2⟩ := w_M_door r1 h1 h2
  exact ⟨v, y, M1, M2, e1, e2, fun z => absurd z (by decide), r2, iv_L (by decide) f2 (iv_L (by decide) f1 h.2.1), iv_S (by decide) f2 (iv_S (by decide) f1 h.2.2.1), iv_K (by decide) f2 (iv_K (by decide) f1 h.2.2.2.1), iv_T (by decide) f2 (iv_T (by decide) f1 h.2.2.2.2)⟩
theorem k_widen {a1 : Int} {a2 : Int} {a3 : Int} (h : IV M) (h1 : -2147483648 ≤ a1 ∧ a1 ≤ 2147483647) (h2 : -2147483648 ≤ a2 ∧ a2 ≤ 2147483647) (h3 : -2147483648 ≤ a3 ∧ a3 ≤ 2147483647) : okC (cmpc 8) 1000 8 204 [.inr 2, .inl a1, .inl a2, .inl a3] [.inr 62, .inl a1, .inl a2, .inl a3] IV M := by
  obtain ⟨v, M1, e1, g1, f1, -⟩ := q_X_widen (d := 1000) (by decide) h.1.1 h1 h2 h3
  have r1 : RI0 M1 := RI0_Fr g1 f1 (by decide) h.1
  obtain ⟨y, M2, e2, r2, f2⟩ := w_M_widen r1 h1 h2 h3
  exact ⟨v, y, M1, M2, e1, e2, fun z => absurd z (by decide), r2, iv_L (by decide) f2 (iv_L (by decide) f1 h.2.1), iv_S (by decide) f2 (iv_S (by decide) f1 h.2.2.1), iv_K (by decide) f2 (iv_K (by decide) f1 h.2.2.2.1), iv_T (by decide) f2 (iv_T (by decide) f1 h.2.2.2.2)⟩
theorem k_strength {a1 : Int} (h : IV M) (h1 : -2147483648 ≤ a1 ∧ a1 ≤ 2147483647) : okC (cmpc 9) 1000 9 205 [.inr 2, .inl a1] [.inr 62, .inl a1] IV M := by
  obtain ⟨v, M1, e1, g1, f1, -⟩ := q_X_strength (d := 1000) (by decide) h.1.1 h1
  have r1 : RI0 M1 := RI0_Fr g1 f1 (by decide) h.1
  obtain ⟨y, M2, e2, r2, f2⟩ := w_M_strength r1 h1
  have s1 := t_X_strength (d := 1000) (by decide) h1.1 h1.2 e1
  have s2 := t_M_strength (d := 1000) (by decide) h1.1 h1.2 e2
  have k12 : M1 60 12 = M 0 17 := by rw [f1 60 12 (by decide)]; exact h.2.2.1.symm
  rw [k12] at s2
  exact ⟨v, y, M1, M2, e1, e2, fun _ => by rw [s1.1, s2.1], r2, iv_L (by decide) f2 (iv_L (by decide) f1 h.2.1), by rw [f2 0 17 (by decide), s1.2, s2.2], iv_K (by decide) f2 (iv_K (by decide) f1 h.2.2.2.1), iv_T (by decide) f2 (iv_T (by decide) f1 h.2.2.2.2)⟩
theorem k_sheet {a1 : Int} {a2 : Int} {a3 : Int} {a4 : Int} (h : IV M) (h1 : -2147483648 ≤ a1 ∧ a1 ≤ 2147483647) (h2 : -2147483648 ≤ a2 ∧ a2 ≤ 2147483647) (h3 : -2147483648 ≤ a3 ∧ a3 ≤ 2147483647) (h4 : -2147483648 ≤ a4 ∧ a4 ≤ 2147483647) : okC (cmpc 10) 1000 10 206 [.inr 2, .inl a1, .inl a2, .inl a3, .inl a4] [.inr 62, .inl a1, .inl a2, .inl a3, .inl a4] IV M := by
  obtain ⟨v, M1, e1, g1, f1⟩ := q_X_sheet (d := 1000) (by decide) h.1.1 h1 h2 h3 h4
  have r1 : RI0 M1 := RI0_Fr g1 f1 (by decide) h.1
  obtain ⟨y, M2, e2, r2, f2⟩ := w_M_sheet r1 h1 h2 h3 h4
  exact ⟨v, y, M1, M2, e1, e2, fun z => absurd z (by decide), r2, iv_L (by decide) f2 (iv_L (by decide) f1 h.2.1), iv_S (by decide) f2 (iv_S (by decide) f1 h.2.2.1), iv_K (by decide) f2 (iv_K (by decide) f1 h.2.2.2.1), iv_T (by decide) f2 (iv_T (by decide) f1 h.2.2.2.2)⟩
theorem k_carry {a1 : Int} {a2 : Int} (h : IV M) (h1 : -2147483648 ≤ a1 ∧ a1 ≤ 2147483647) (h2 : -2147483648 ≤ a2 ∧ a2 ≤ 2147483647) : okC (cmpc 11) 1000 11 216 [.inr 2, .inl a1, .inl a2] [.inr 62, .inl a1, .inl a2] IV M := by
  obtain ⟨v, M1, e1, g1, f1, -⟩ := q_X_carry (d := 1000) (by decide) h.1.1 h1 h2
  have r1 : RI0 M1 := RI0_Fr g1 f1 (by decide) h.1
  obtain ⟨y, M2, e2, r2, f2⟩ := w_M_carry r1 h1 h2
  exact ⟨v, y, M1, M2, e1, e2, fun z => absurd z (by decide), r2, iv_L (by decide) f2 (iv_L (by decide) f1 h.2.1), iv_S (by decide) f2 (iv_S (by decide) f1 h.2.2.1), iv_K (by decide) f2 (iv_K (by decide) f1 h.2.2.2.1), iv_T (by decide) f2 (iv_T (by decide) f1 h.2.2.2.2)⟩
theorem k_evening  (h : IV M)  : okC (cmpc 12) 1000 12 218 [.inr 2] [.inr 62] IV M := by
  obtain ⟨v, M1, e1, g1, f1, -⟩ := q_X_evening (d := 1000) (by decide) h.1.1 
  have r1 : RI0 M1 := RI0_Fr g1 f1 (by decide) h.1
  obtain ⟨y, M2, e2, r2, f2⟩ := w_M_evening r1 
  exact ⟨v, y, M1, M2, e1, e2, fun z => absurd z (by decide), r2, iv_L (by decide) f2 (iv_L (by decide) f1 h.2.1), iv_S (by decide) f2 (iv_S (by decide) f1 h.2.2.1), iv_K (by decide) f2 (iv_K (by decide) f1 h.2.2.2.1), iv_T (by decide) f2 (iv_T (by decide) f1 h.2.2.2.2)⟩
theorem k_day  (h : IV M)  : okC (cmpc 13) 1000 13 219 [.inr 2] [.inr 62] IV M := by
  obtain ⟨v, M1, e1, g1, f1⟩ := q_X_day (d := 1000) (by decide) h.1.1 
  have r1 : RI0 M1 := RI0_Fr g1 f1 (by decide) h.1
  obtain ⟨y, M2, e2, r2, f2, k2⟩ := r_day (d := 1000) (by decide) r1
  have k1 := t_X_day (d := 1000) (by decide) h.1.1 e1
  exact ⟨v, y, M1, M2, e1, e2, fun z => absurd z (by decide), r2, by rw [f2 1 1 (by decide), k1, k2], iv_S (by decide) f2 (iv_S (by decide) f1 h.2.2.1), iv_K (by decide) f2 (iv_K (by decide) f1 h.2.2.2.1), iv_T (by decide) f2 (iv_T (by decide) f1 h.2.2.2.2)⟩
theorem k_undo  (h : IV M)  : okC (cmpc 14) 1000 14 220 [.inr 2] [.inr 62] IV M := by
  obtain ⟨v, M1, e1, g1, f1, -⟩ := q_X_undo (d := 1000) (by decide) h.1.1 
  have r1 : RI0 M1 := RI0_Fr g1 f1 (by decide) h.1
  obtain ⟨y, M2, e2, r2, f2⟩ := w_M_undo r1 
  exact ⟨v, y, M1, M2, e1, e2, fun z => absurd z (by decide), r2, iv_L (by decide) f2 (iv_L (by decide) f1 h.2.1), iv_S (by decide) f2 (iv_S (by decide) f1 h.2.2.1), iv_K (by decide) f2 (iv_K (by decide) f1 h.2.2.2.1), iv_T (by decide) f2 (iv_T (by decide) f1 h.2.2.2.2)⟩
theorem k_judge {a1 : Int} {a2 : Int} (h : IV M) (h1 : -2147483648 ≤ a1 ∧ a1 ≤ 2147483647) (h2 : -2147483648 ≤ a2 ∧ a2 ≤ 2147483647) : okC (cmpc 15) 1000 15 221 [.inr 2, .inl a1, .inl a2] [.inr 62, .inl a1, .inl a2] IV M := by
  obtain ⟨v, M1, e1, g1, f1, -⟩ := q_X_judge (d := 1000) (by decide) h.1.1 h1 h2
  have r1 : RI0 M1 := RI0_Fr g1 f1 (by decide) h.1
  obtain ⟨y, M2, e2, r2, f2⟩ := w_M_judge r1 h1 h2
  exact ⟨v, y, M1, M2, e1, e2, fun z => absurd z (by decide), r2, iv_L (by decide) f2 (iv_L (by decide) f1 h.2.1), iv_S (by decide) f2 (iv_S (by decide) f1 h.2.2.1), iv_K (by decide) f2 (iv_K (by decide) f1 h.2.2.2.1), iv_T (by decide) f2 (iv_T (by decide) f1 h.2.2.2.2)⟩
theorem k_clumps  (h : IV M)  : okC (cmpc 16) 1000 16 222 [.inr 2] [.inr 62] IV M := by
  obtain ⟨v, M1, e1, g1, f1, -⟩ := q_X_clumps (d := 1000) (by decide) h.1.1 
  have r1 : RI0 M1 := RI0_Fr g1 f1 (by decide) h.1
  obtain ⟨y, M2, e2, r2, f2⟩ := w_M_clumps r1 
  exact ⟨v, y, M1, M2, e1, e2, fun z => absurd z (by decide), r2, iv_L (by decide) f2 (iv_L (by decide) f1 h.2.1), iv_S (by decide) f2 (iv_S (by decide) f1 h.2.2.1), iv_K (by decide) f2 (iv_K (by decide) f1 h.2.2.2.1), iv_T (by decide) f2 (iv_T (by decide) f1 h.2.2.2.2)⟩
theorem k_heaviest  (h : IV M)  : okC (cmpc 17) 1000 17 224 [.inr 2] [.inr 62] IV M := by
  obtain ⟨v, M1, e1, g1, f1, -⟩ := q_X_heaviest (d := 1000) (by decide) h.1.1 
  have r1 : RI0 M1 := RI0_Fr g1 f1 (by decide) h.1
  obtain ⟨y, M2, e2, r2, f2⟩ := w_M_heaviest r1 
  exact ⟨v, y, M1, M2, e1, e2, fun z => absurd z (by decide), r2, iv_L (by decide) f2 (iv_L (by decide) f1 h.2.1), iv_S (by decide) f2 (iv_S (by decide) f1 h.2.2.1), iv_K (by decide) f2 (iv_K (by decide) f1 h.2.2.2.1), iv_T (by decide) f2 (iv_T (by decide) f1 h.2.2.2.2)⟩
theorem k_without {a1 : Int} (h : IV M) (h1 : -2147483648 ≤ a1 ∧ a1 ≤ 2147483647) : okC (cmpc 18) 1000 18 225 [.inr 2, .inl a1] [.inr 62, .inl a1] IV M := by
  obtain ⟨v, M1, e1, g1, f1⟩ := q_X_without (d := 1000) (by decide) h.1.1 h1
  have r1 : RI0 M1 := RI0_Fr g1 f1 (by decide) h.1
  obtain ⟨y, M2, e2, r2, f2⟩ := w_M_without r1 h1
  exact ⟨v, y, M1, M2, e1, e2, fun z => absurd z (by decide), r2, iv_L (by decide) f2 (iv_L (by decide) f1 h.2.1), iv_S (by decide) f2 (iv_S (by decide) f1 h.2.2.1), iv_K (by decide) f2 (iv_K (by decide) f1 h.2.2.2.1), iv_T (by decide) f2 (iv_T (by decide) f1 h.2.2.2.2)⟩
theorem k_breaks {a1 : Int} (h : IV M) (h1 : -2147483648 ≤ a1 ∧ a1 ≤ 2147483647) : okC (cmpc 19) 1000 19 226 [.inr 2, .inl a1] [.inr 62, .inl a1] IV M := by
  obtain ⟨v, M1, e1, g1, f1, -⟩ := q_X_breaks (d := 1000) (by decide) h.1.1 h1
  have r1 : RI0 M1 := RI0_Fr g1 f1 (by decide) h.1
  obtain ⟨y, M2, e2, r2, f2⟩ := w_M_breaks r1 h1
  exact ⟨v, y, M1, M2, e1, e2, fun z => absurd z (by decide), r2, iv_L (by decide) f2 (iv_L (by decide) f1 h.2.1), iv_S (by decide) f2 (iv_S (by decide) f1 h.2.2.1), iv_K (by decide) f2 (iv_K (by decide) f1 h.2.2.2.1), iv_T (by decide) f2 (iv_T (by decide) f1 h.2.2.2.2)⟩
theorem k_ties  (h : IV M)  : okC (cmpc 20) 1000 20 227 [.inr 2] [.inr 62] IV M := by
  obtain ⟨v, M1, e1, g1, f1, -⟩ := q_X_ties (d := 1000) (by decide) h.1.1 
  have r1 : RI0 M1 := RI0_Fr g1 f1 (by decide) h.1
  obtain ⟨y, M2, e2, r2, f2⟩ := w_M_ties r1 
  exact ⟨v, y, M1, M2, e1, e2, fun z => absurd z (by decide), r2, iv_L (by decide) f2 (iv_L (by decide) f1 h.2.1), iv_S (by decide) f2 (iv_S (by decide) f1 h.2.2.1), iv_K (by decide) f2 (iv_K (by decide) f1 h.2.2.2.1), iv_T (by decide) f2 (iv_T (by decide) f1 h.2.2.2.2)⟩
theorem k_fits  (h : IV M)  : okC (cmpc 21) 1000 21 234 [.inr 2] [.inr 62] IV M := by
  obtain ⟨v, M1, e1, g1, f1⟩ := q_X_fits (d := 1000) (by decide) h.1.1 
  have r1 : RI0 M1 := RI0_Fr g1 f1 (by decide) h.1
  obtain ⟨y, M2, e2, r2, f2⟩ := w_M_fits r1 
  exact ⟨v, y, M1, M2, e1, e2, fun z => absurd z (by decide), r2, iv_L (by decide) f2 (iv_L (by decide) f1 h.2.1), iv_S (by decide) f2 (iv_S (by decide) f1 h.2.2.1), iv_K (by decide) f2 (iv_K (by decide) f1 h.2.2.2.1), iv_T (by decide) f2 (iv_T (by decide) f1 h.2.2.2.2)⟩
theorem k_worth  (h : IV M)  : okC (cmpc 22) 1000 22 235 [.inr 2] [.inr 62] IV M := by
  obtain ⟨v, M1, e1, g1, f1⟩ := q_X_worth (d := 1000) (by decide) h.1.1 
  have r1 : RI0 M1 := RI0_Fr g1 f1 (by decide) h.1
  obtain ⟨y, M2, e2, r2, f2⟩ := w_M_worth r1 
  exact ⟨v, y, M1, M2, e1, e2, fun z => absurd z (by decide), r2, iv_L (by decide) f2 (iv_L (by decide) f1 h.2.1), iv_S (by decide) f2 (iv_S (by decide) f1 h.2.2.1), iv_K (by decide) f2 (iv_K (by decide) f1 h.2.2.2.1), iv_T (by decide) f2 (iv_T (by decide) f1 h.2.2.2.2)⟩
theorem k_best  (h : IV M)  : okC (cmpc 23) 1000 23 236 [.inr 2] [.inr 62] IV M := by
  obtain ⟨v, M1, e1, g1, f1, -⟩ := q_X_best (d := 1000) (by decide) h.1.1 
  have r1 : RI0 M1 := RI0_Fr g1 f1 (by decide) h.1
  obtain ⟨y, M2, e2, r2, f2⟩ := w_M_best r1 
  exact ⟨v, y, M1, M2, e1, e2, fun z => absurd z (by decide), r2, iv_L (by decide) f2 (iv_L (by decide) f1 h.2.1), iv_S (by decide) f2 (iv_S (by decide) f1 h.2.2.1), iv_K (by decide) f2 (iv_K (by decide) f1 h.2.2.2.1), iv_T (by decide) f2 (iv_T (by decide) f1 h.2.2.2.2)⟩
theorem k_near  (h : IV M)  : okC (cmpc 24) 1000 24 238 [.inr 2] [.inr 62] IV M := by
  obtain ⟨v, M1, e1, g1, f1⟩ := q_X_near (d := 1000) (by decide) h.1.1 
  have r1 : RI0 M1 := RI0_Fr g1 f1 (by decide) h.1
  obtain ⟨y, M2, e2, r2, f2⟩ := w_M_near r1 
  exact ⟨v, y, M1, M2, e1, e2, fun z => absurd z (by decide), r2, iv_L (by decide) f2 (iv_L (by decide) f1 h.2.1), iv_S (by decide) f2 (iv_S (by decide) f1 h.2.2.1), iv_K (by decide) f2 (iv_K (by decide) f1 h.2.2.2.1), iv_T (by decide) f2 (iv_T (by decide) f1 h.2.2.2.2)⟩
theorem k_guest {a1 : Int} {a2 : Int} (h : IV M) (h1 : -2147483648 ≤ a1 ∧ a1 ≤ 2147483647) (h2 : -2147483648 ≤ a2 ∧ a2 ≤ 2147483647) : okC (cmpc 25) 1000 25 239 [.inr 2, .inl a1, .inl a2] [.inr 62, .inl a1, .inl a2] IV M := by
  obtain ⟨v, M1, e1, g1, f1⟩ := q_X_guest (d := 1000) (by decide) h.1.1 h1 h2
  have r1 : RI0 M1 := RI0_Fr g1 f1 (by decide) h.1
  obtain ⟨y, M2, e2, r2, f2⟩ := w_M_guest r1 h1 h2
  exact ⟨v, y, M1, M2, e1, e2, fun z => absurd z (by decide), r2, iv_L (by decide) f2 (iv_L (by decide) f1 h.2.1), iv_S (by decide) f2 (iv_S (by decide) f1 h.2.2.1), iv_K (by decide) f2 (iv_K (by decide) f1 h.2.2.2.1), iv_T (by decide) f2 (iv_T (by decide) f1 h.2.2.2.2)⟩
theorem k_space  (h : IV M)  : okC (cmpc 26) 1000 26 240 [.inr 2] [.inr 62] IV M := by
  obtain ⟨v, M1, e1, g1, f1⟩ := q_X_space (d := 1000) (by decide) h.1.1 
  have r1 : RI0 M1 := RI0_Fr g1 f1 (by decide) h.1
  obtain ⟨y, M2, e2, r2, f2⟩ := w_M_space r1 
  exact ⟨v, y, M1, M2, e1, e2, fun z => absurd z (by decide), r2, iv_L (by decide) f2 (iv_L (by decide) f1 h.2.1), iv_S (by decide) f2 (iv_S (by decide) f1 h.2.2.1), iv_K (by decide) f2 (iv_K (by decide) f1 h.2.2.2.1), iv_T (by decide) f2 (iv_T (by decide) f1 h.2.2.2.2)⟩
theorem k_could {a1 : Int} {a2 : Int} (h : IV M) (h1 : -2147483648 ≤ a1 ∧ a1 ≤ 2147483647) (h2 : -2147483648 ≤ a2 ∧ a2 ≤ 2147483647) : okC (cmpc 27) 1000 27 241 [.inr 2, .inl a1, .inl a2] [.inr 62, .inl a1, .inl a2] IV M := by
  obtain ⟨v, M1, e1, g1, f1, -⟩ := q_X_could (d := 1000) (by decide) h.1.1 h1 h2
  have r1 : RI0 M1 := RI0_Fr g1 f1 (by decide) h.1
  obtain ⟨y, M2, e2, r2, f2⟩ := w_M_could r1 h1 h2
  exact ⟨v, y, M1, M2, e1, e2, fun z => absurd z (by decide), r2, iv_L (by decide) f2 (iv_L (by decide) f1 h.2.1), iv_S (by decide) f2 (iv_S (by decide) f1 h.2.2.1), iv_K (by decide) f2 (iv_K (by decide) f1 h.2.2.2.1), iv_T (by decide) f2 (iv_T (by decide) f1 h.2.2.2.2)⟩
theorem k_may {a1 : Int} (h : IV M) (h1 : -2147483648 ≤ a1 ∧ a1 ≤ 2147483647) : okC (cmpc 28) 1000 28 242 [.inr 2, .inl a1] [.inr 62, .inl a1] IV M := by
  obtain ⟨v, M1, e1, g1, f1, -⟩ := q_X_may (d := 1000) (by decide) h.1.1 h1
  have r1 : RI0 M1 := RI0_Fr g1 f1 (by decide) h.1
  obtain ⟨y, M2, e2, r2, f2⟩ := w_M_may r1 h1
  exact ⟨v, y, M1, M2, e1, e2, fun z => absurd z (by decide), r2, iv_L (by decide) f2 (iv_L (by decide) f1 h.2.1), iv_S (by decide) f2 (iv_S (by decide) f1 h.2.2.1), iv_K (by decide) f2 (iv_K (by decide) f1 h.2.2.2.1), iv_T (by decide) f2 (iv_T (by decide) f1 h.2.2.2.2)⟩
theorem k_together {a1 : Int} {a2 : Int} (h : IV M) (h1 : -2147483648 ≤ a1 ∧ a1 ≤ 2147483647) (h2 : -2147483648 ≤ a2 ∧ a2 ≤ 2147483647) : okC (cmpc 29) 1000 29 243 [.inr 2, .inl a1, .inl a2] [.inr 62, .inl a1, .inl a2] IV M := by
  obtain ⟨v, M1, e1, g1, f1⟩ := q_X_together (d := 1000) (by decide) h.1.1 h1 h2
  have r1 : RI0 M1 := RI0_Fr g1 f1 (by decide) h.1
  obtain ⟨y, M2, e2, r2, f2⟩ := w_M_together r1 h1 h2
  exact ⟨v, y, M1, M2, e1, e2, fun z => absurd z (by decide), r2, iv_L (by decide) f2 (iv_L (by decide) f1 h.2.1), iv_S (by decide) f2 (iv_S (by decide) f1 h.2.2.1), iv_K (by decide) f2 (iv_K (by decide) f1 h.2.2.2.1), iv_T (by decide) f2 (iv_T (by decide) f1 h.2.2.2.2)⟩
theorem k_fullest {a1 : Int} (h : IV M) (h1 : -2147483648 ≤ a1 ∧ a1 ≤ 2147483647) : okC (cmpc 30) 1000 30 244 [.inr 2, .inl a1] [.inr 62, .inl a1] IV M := by
  obtain ⟨v, M1, e1, g1, f1⟩ := q_X_fullest (d := 1000) (by decide) h.1.1 h1
  have r1 : RI0 M1 := RI0_Fr g1 f1 (by decide) h.1
  obtain ⟨y, M2, e2, r2, f2⟩ := w_M_fullest r1 h1
  exact ⟨v, y, M1, M2, e1, e2, fun z => absurd z (by decide), r2, iv_L (by decide) f2 (iv_L (by decide) f1 h.2.1), iv_S (by decide) f2 (iv_S (by decide) f1 h.2.2.1), iv_K (by decide) f2 (iv_K (by decide) f1 h.2.2.2.1), iv_T (by decide) f2 (iv_T (by decide) f1 h.2.2.2.2)⟩
theorem k_swap {a1 : Int} {a2 : Int} (h : IV M) (h1 : -2147483648 ≤ a1 ∧ a1 ≤ 2147483647) (h2 : -2147483648 ≤ a2 ∧ a2 ≤ 2147483647) : okC (cmpc 31) 1000 31 245 [.inr 2, .inl a1, .inl a2] [.inr 62, .inl a1, .inl a2] IV M := by
  obtain ⟨v, M1, e1, g1, f1, -⟩ := q_X_swap (d := 1000) (by decide) h.1.1 h1 h2
  have r1 : RI0 M1 := RI0_Fr g1 f1 (by decide) h.1
  obtain ⟨y, M2, e2, r2, f2⟩ := w_M_swap r1 h1 h2
  exact ⟨v, y, M1, M2, e1, e2, fun z => absurd z (by decide), r2, iv_L (by decide) f2 (iv_L (by decide) f1 h.2.1), iv_S (by decide) f2 (iv_S (by decide) f1 h.2.2.1), iv_K (by decide) f2 (iv_K (by decide) f1 h.2.2.2.1), iv_T (by decide) f2 (iv_T (by decide) f1 h.2.2.2.2)⟩
theorem k_sell  (h : IV M)  : okC (cmpc 32) 1000 32 246 [.inr 2] [.inr 62] IV M := by
  obtain ⟨v, M1, e1, g1, f1, -⟩ := q_X_sell (d := 1000) (by decide) h.1.1 
  have r1 : RI0 M1 := RI0_Fr g1 f1 (by decide) h.1
  obtain ⟨y, M2, e2, r2, f2⟩ := w_M_sell r1 
  exact ⟨v, y, M1, M2, e1, e2, fun z => absurd z (by decide), r2, iv_L (by decide) f2 (iv_L (by decide) f1 h.2.1), iv_S (by decide) f2 (iv_S (by decide) f1 h.2.2.1), iv_K (by decide) f2 (iv_K (by decide) f1 h.2.2.2.1), iv_T (by decide) f2 (iv_T (by decide) f1 h.2.2.2.2)⟩
theorem k_build  (h : IV M)  : okC (cmpc 33) 1000 33 248 [.inr 2] [.inr 62] IV M := by
  obtain ⟨v, M1, e1, g1, f1⟩ := q_X_build (d := 1000) (by decide) h.1.1 
  have r1 : RI0 M1 := RI0_Fr g1 f1 (by decide) h.1
  obtain ⟨y, M2, e2, r2, f2⟩ := w_M_build r1 
  exact ⟨v, y, M1, M2, e1, e2, fun z => absurd z (by decide), r2, iv_L (by decide) f2 (iv_L (by decide) f1 h.2.1), iv_S (by decide) f2 (iv_S (by decide) f1 h.2.2.1), iv_K (by decide) f2 (iv_K (by decide) f1 h.2.2.2.1), iv_T (by decide) f2 (iv_T (by decide) f1 h.2.2.2.2)⟩
theorem k_way {a1 : Int} {a2 : Int} (h : IV M) (h1 : -2147483648 ≤ a1 ∧ a1 ≤ 2147483647) (h2 : -2147483648 ≤ a2 ∧ a2 ≤ 2147483647) : okC (cmpc 34) 1000 34 250 [.inr 2, .inl a1, .inl a2] [.inr 62, .inl a1, .inl a2] IV M := by
  obtain ⟨v, M1, e1, g1, f1, -⟩ := q_X_way (d := 1000) (by decide) h.1.1 h1 h2
  have r1 : RI0 M1 := RI0_Fr g1 f1 (by decide) h.1
  obtain ⟨y, M2, e2, r2, f2⟩ := w_M_way r1 h1 h2
  exact ⟨v, y, M1, M2, e1, e2, fun z => absurd z (by decide), r2, iv_L (by decide) f2 (iv_L (by decide) f1 h.2.1), iv_S (by decide) f2 (iv_S (by decide) f1 h.2.2.1), iv_K (by decide) f2 (iv_K (by decide) f1 h.2.2.2.1), iv_T (by decide) f2 (iv_T (by decide) f1 h.2.2.2.2)⟩
theorem k_widest {a1 : Int} {a2 : Int} (h : IV M) (h1 : -2147483648 ≤ a1 ∧ a1 ≤ 2147483647) (h2 : -2147483648 ≤ a2 ∧ a2 ≤ 2147483647) : okC (cmpc 35) 1000 35 251 [.inr 2, .inl a1, .inl a2] [.inr 62, .inl a1, .inl a2] IV M := by
  obtain ⟨v, M1, e1, g1, f1, -⟩ := q_X_widest (d := 1000) (by decide) h.1.1 h1 h2
  have r1 : RI0 M1 := RI0_Fr g1 f1 (by decide) h.1
  obtain ⟨y, M2, e2, r2, f2⟩ := w_M_widest r1 h1 h2
  exact ⟨v, y, M1, M2, e1, e2, fun z => absurd z (by decide), r2, iv_L (by decide) f2 (iv_L (by decide) f1 h.2.1), iv_S (by decide) f2 (iv_S (by decide) f1 h.2.2.1), iv_K (by decide) f2 (iv_K (by decide) f1 h.2.2.2.1), iv_T (by decide) f2 (iv_T (by decide) f1 h.2.2.2.2)⟩
theorem k_stuck  (h : IV M)  : okC (cmpc 36) 1000 36 252 [.inr 2] [.inr 62] IV M := by
  obtain ⟨v, M1, e1, g1, f1, -⟩ := q_X_stuck (d := 1000) (by decide) h.1.1 
  have r1 : RI0 M1 := RI0_Fr g1 f1 (by decide) h.1
  obtain ⟨y, M2, e2, r2, f2⟩ := w_M_stuck r1 
  exact ⟨v, y, M1, M2, e1, e2, fun z => absurd z (by decide), r2, iv_L (by decide) f2 (iv_L (by decide) f1 h.2.1), iv_S (by decide) f2 (iv_S (by decide) f1 h.2.2.1), iv_K (by decide) f2 (iv_K (by decide) f1 h.2.2.2.1), iv_T (by decide) f2 (iv_T (by decide) f1 h.2.2.2.2)⟩
theorem k_hinge {a1 : Int} (h : IV M) (h1 : -2147483648 ≤ a1 ∧ a1 ≤ 2147483647) : okC (cmpc 37) 1000 37 254 [.inr 2, .inl a1] [.inr 62, .inl a1] IV M := by
  obtain ⟨v, M1, e1, g1, f1, -⟩ := q_X_hinge (d := 1000) (by decide) h.1.1 h1
  have r1 : RI0 M1 := RI0_Fr g1 f1 (by decide) h.1
  obtain ⟨y, M2, e2, r2, f2⟩ := w_M_hinge r1 h1
  exact ⟨v, y, M1, M2, e1, e2, fun z => absurd z (by decide), r2, iv_L (by decide) f2 (iv_L (by decide) f1 h.2.1), iv_S (by decide) f2 (iv_S (by decide) f1 h.2.2.1), iv_K (by decide) f2 (iv_K (by decide) f1 h.2.2.2.1), iv_T (by decide) f2 (iv_T (by decide) f1 h.2.2.2.2)⟩
theorem k_aim  (h : IV M)  : okC (cmpc 38) 1000 38 255 [.inr 2] [.inr 62] IV M := by
  obtain ⟨v, M1, e1, g1, f1, -⟩ := q_X_aim (d := 1000) (by decide) h.1.1 
  have r1 : RI0 M1 := RI0_Fr g1 f1 (by decide) h.1
  obtain ⟨y, M2, e2, r2, f2⟩ := w_M_aim r1 
  have k2 := t_M_aim (d := 1000) (by decide) r1.1 e2
  have k1 := t_X_aim (d := 1000) (by decide) h.1.1 e1
  exact ⟨v, y, M1, M2, e1, e2, fun z => absurd z (by decide), r2, by rw [f2 1 1 (by decide), k1, k2], iv_S (by decide) f2 (iv_S (by decide) f1 h.2.2.1), iv_K (by decide) f2 (iv_K (by decide) f1 h.2.2.2.1), iv_T (by decide) f2 (iv_T (by decide) f1 h.2.2.2.2)⟩
theorem k_apart  (h : IV M)  : okC (cmpc 39) 1000 39 257 [.inr 2] [.inr 62] IV M := by
  obtain ⟨v, M1, e1, g1, f1⟩ := q_X_apart (d := 1000) (by decide) h.1.1 
  have r1 : RI0 M1 := RI0_Fr g1 f1 (by decide) h.1
  obtain ⟨y, M2, e2, r2, f2⟩ := w_M_apart r1 
  exact ⟨v, y, M1, M2, e1, e2, fun z => absurd z (by decide), r2, iv_L (by decide) f2 (iv_L (by decide) f1 h.2.1), iv_S (by decide) f2 (iv_S (by decide) f1 h.2.2.1), iv_K (by decide) f2 (iv_K (by decide) f1 h.2.2.2.1), iv_T (by decide) f2 (iv_T (by decide) f1 h.2.2.2.2)⟩
theorem k_queue  (h : IV M)  : okC (cmpc 40) 1000 40 259 [.inr 2] [.inr 62] IV M := by
  obtain ⟨v, M1, e1, g1, f1, -⟩ := q_X_queue (d := 1000) (by decide) h.1.1 
  have r1 : RI0 M1 := RI0_Fr g1 f1 (by decide) h.1
  obtain ⟨y, M2, e2, r2, f2⟩ := w_M_queue r1 
  exact ⟨v, y, M1, M2, e1, e2, fun z => absurd z (by decide), r2, iv_L (by decide) f2 (iv_L (by decide) f1 h.2.1), iv_S (by decide) f2 (iv_S (by decide) f1 h.2.2.1), iv_K (by decide) f2 (iv_K (by decide) f1 h.2.2.2.1), iv_T (by decide) f2 (iv_T (by decide) f1 h.2.2.2.2)⟩
theorem k_evenings  (h : IV M)  : okC (cmpc 41) 1000 41 263 [.inr 2] [.inr 62] IV M := by
  obtain ⟨v, M1, e1, g1, f1, -⟩ := q_X_evenings (d := 1000) (by decide) h.1.1 
  have r1 : RI0 M1 := RI0_Fr g1 f1 (by decide) h.1
  obtain ⟨y, M2, e2, r2, f2⟩ := w_M_evenings r1 
  exact ⟨v, y, M1, M2, e1, e2, fun z => absurd z (by decide), r2, iv_L (by decide) f2 (iv_L (by decide) f1 h.2.1), iv_S (by decide) f2 (iv_S (by decide) f1 h.2.2.1), iv_K (by decide) f2 (iv_K (by decide) f1 h.2.2.2.1), iv_T (by decide) f2 (iv_T (by decide) f1 h.2.2.2.2)⟩
theorem k_weakest  (h : IV M)  : okC (cmpc 42) 1000 42 264 [.inr 2] [.inr 62] IV M := by
  obtain ⟨v, M1, e1, g1, f1⟩ := q_X_weakest (d := 1000) (by decide) h.1.1 
  have r1 : RI0 M1 := RI0_Fr g1 f1 (by decide) h.1
  obtain ⟨y, M2, e2, r2, f2⟩ := w_M_weakest r1 
  exact ⟨v, y, M1, M2, e1, e2, fun z => absurd z (by decide), r2, iv_L (by decide) f2 (iv_L (by decide) f1 h.2.1), iv_S (by decide) f2 (iv_S (by decide) f1 h.2.2.1), iv_K (by decide) f2 (iv_K (by decide) f1 h.2.2.2.1), iv_T (by decide) f2 (iv_T (by decide) f1 h.2.2.2.2)⟩
theorem k_keep {a1 : Int} (h : IV M) (h1 : -2147483648 ≤ a1 ∧ a1 ≤ 2147483647) : okC (cmpc 43) 1000 43 266 [.inr 2, .inl a1] [.inr 62, .inl a1] IV M := by
  obtain ⟨v, M1, e1, g1, f1, -⟩ := q_X_keep (d := 1000) (by decide) h.1.1 h1
  have r1 : RI0 M1 := RI0_Fr g1 f1 (by decide) h.1
  obtain ⟨y, M2, e2, r2, f2⟩ := w_M_keep r1 h1
  exact ⟨v, y, M1, M2, e1, e2, fun _ => by rw [t_X_keep (d := 1000) (by decide) h1.1 h1.2 e1, t_M_keep (d := 1000) (by decide) h1.1 h1.2 e2], r2, iv_L (by decide) f2 (iv_L (by decide) f1 h.2.1), iv_S (by decide) f2 (iv_S (by decide) f1 h.2.2.1), iv_K (by decide) f2 (iv_K (by decide) f1 h.2.2.2.1), iv_T (by decide) f2 (iv_T (by decide) f1 h.2.2.2.2)⟩
theorem k_again {a1 : Int} (h : IV M) (h1 : -2147483648 ≤ a1 ∧ a1 ≤ 2147483647) : okC (cmpc 44) 1000 44 267 [.inr 2, .inl a1] [.inr 62, .inl a1] IV M := by
  obtain ⟨v, M1, e1, g1, f1, -⟩ := q_X_again (d := 1000) (by decide) h.1.1 h1
  have r1 : RI0 M1 := RI0_Fr g1 f1 (by decide) h.1
  obtain ⟨y, M2, e2, r2, f2⟩ := w_M_again r1 h1
  exact ⟨v, y, M1, M2, e1, e2, fun z => absurd z (by decide), r2, iv_L (by decide) f2 (iv_L (by decide) f1 h.2.1), iv_S (by decide) f2 (iv_S (by decide) f1 h.2.2.1), iv_K (by decide) f2 (iv_K (by decide) f1 h.2.2.2.1), iv_T (by decide) f2 (iv_T (by decide) f1 h.2.2.2.2)⟩
theorem k_count {a1 : Int} (h : IV M) (h1 : -2147483648 ≤ a1 ∧ a1 ≤ 2147483647) : okC (cmpc 45) 1000 45 268 [.inr 2, .inl a1] [.inr 62, .inl a1] IV M := by
  obtain ⟨v, M1, e1, g1, f1⟩ := q_X_count (d := 1000) (by decide) h.1.1 h1
  have r1 : RI0 M1 := RI0_Fr g1 f1 (by decide) h.1
  obtain ⟨y, M2, e2, r2, f2⟩ := w_M_count r1 h1
  exact ⟨v, y, M1, M2, e1, e2, fun z => absurd z (by decide), r2, iv_L (by decide) f2 (iv_L (by decide) f1 h.2.1), iv_S (by decide) f2 (iv_S (by decide) f1 h.2.2.1), iv_K (by decide) f2 (iv_K (by decide) f1 h.2.2.2.1), iv_T (by decide) f2 (iv_T (by decide) f1 h.2.2.2.2)⟩
theorem k_row {a1 : Int} (h : IV M) (h1 : -2147483648 ≤ a1 ∧ a1 ≤ 2147483647) : okT0 1000 46 7 269 [.inr 2, .inl a1] [.inr 62, .inl a1] IV M := by
  obtain ⟨v, M1, e1, g1, f1⟩ := y_row (d := 1000) (by decide) h.1.1 h1
  have r1 : RI0 M1 := RI0_Fr g1 f1 (by decide) h.1
  obtain ⟨y, M2, e2, r2, f2⟩ := w_M_row r1 h1
  exact ⟨v, y, M1, M2, e1, e2, r2, iv_L (by decide) f2 (iv_L (by decide) f1 h.2.1), iv_S (by decide) f2 (iv_S (by decide) f1 h.2.2.1), iv_K (by decide) f2 (iv_K (by decide) f1 h.2.2.2.1), iv_T (by decide) f2 (iv_T (by decide) f1 h.2.2.2.2)⟩
end KC
theorem k_all {M : pM} (h : IV M) (a1 a2 a3 a4 : Int32) : ∀ c, callOK 1000 IV M a1.toInt a2.toInt a3.toInt a4.toInt c
  | 0 => k_sign h ⟨r32a a1, by have := r32b a1; omega⟩
  | 1 => k_end h ⟨r32a a1, by have := r32b a1; omega⟩
  | 2 => k_house h 
  | 3 => k_rule h 
  | 4 => k_room h ⟨r32a a1, by have := r32b a1; omega⟩ ⟨r32a a2, by have := r32b a2; omega⟩
  | 5 => k_thing h ⟨r32a a1, by have := r32b a1; omega⟩ ⟨r32a a2, by have := r32b a2; omega⟩
  | 6 => k_set h ⟨r32a a1, by have := r32b a1; omega⟩
  | 7 => k_door h ⟨r32a a1, by have := r32b a1; omega⟩ ⟨r32a a2, by have := r32b a2; omega⟩
  | 8 => k_widen h ⟨r32a a1, by have := r32b a1; omega⟩ ⟨r32a a2, by have := r32b a2; omega⟩ ⟨r32a a3, by have := r32b a3; omega⟩
  | 9 => k_strength h ⟨r32a a1, by have := r32b a1; omega⟩
  | 10 => k_sheet h ⟨r32a a1, by have := r32b a1; omega⟩ ⟨r32a a2, by have := r32b a2; omega⟩ ⟨r32a a3, by have := r32b a3; omega⟩ ⟨r32a a4, by have := r32b a4; omega⟩
  | 11 => k_carry h ⟨r32a a1, by have := r32b a1; omega⟩ ⟨r32a a2, by have := r32b a2; omega⟩
  | 12 => k_evening h 
  | 13 => k_day h 
  | 14 => k_undo h 
  | 15 => k_judge h ⟨r32a a1, by have := r32b a1; omega⟩ ⟨r32a a2, by have := r32b a2; omega⟩
  | 16 => k_clumps h 
  | 17 => k_heaviest h 
  | 18 => k_without h ⟨r32a a1, by have := r32b a1; omega⟩
  | 19 => k_breaks h ⟨r32a a1, by have := r32b a1; omega⟩
  | 20 => k_ties h 
  | 21 => k_fits h 
  | 22 => k_worth h 
  | 23 => k_best h 
  | 24 => k_near h 
  | 25 => k_guest h ⟨r32a a1, by have := r32b a1; omega⟩ ⟨r32a a2, by have := r32b a2; omega⟩
  | 26 => k_space h 
  | 27 => k_could h ⟨r32a a1, by have := r32b a1; omega⟩ ⟨r32a a2, by have := r32b a2; omega⟩
  | 28 => k_may h ⟨r32a a1, by have := r32b a1; omega⟩
  | 29 => k_together h ⟨r32a a1, by have := r32b a1; omega⟩ ⟨r32a a2, by have := r32b a2; omega⟩
  | 30 => k_fullest h ⟨r32a a1, by have := r32b a1; omega⟩
  | 31 => k_swap h ⟨r32a a1, by have := r32b a1; omega⟩ ⟨r32a a2, by have := r32b a2; omega⟩
  | 32 => k_sell h 
  | 33 => k_build h 
  | 34 => k_way h ⟨r32a a1, by have := r32b a1; omega⟩ ⟨r32a a2, by have := r32b a2; omega⟩
  | 35 => k_widest h ⟨r32a a1, by have := r32b a1; omega⟩ ⟨r32a a2, by have := r32b a2; omega⟩
  | 36 => k_stuck h 
  | 37 => k_hinge h ⟨r32a a1, by have := r32b a1; omega⟩
  | 38 => k_aim h 
  | 39 => k_apart h 
  | 40 => k_queue h 
  | 41 => k_evenings h 
  | 42 => k_weakest h 
  | 43 => k_keep h ⟨r32a a1, by have := r32b a1; omega⟩
  | 44 => k_again h ⟨r32a a1, by have := r32b a1; omega⟩
  | 45 => k_count h ⟨r32a a1, by have := r32b a1; omega⟩
  | 46 => k_row h ⟨r32a a1, by have := r32b a1; omega⟩
  | _ + 47 => h
