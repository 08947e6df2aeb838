section
/-! evening, undo, keep, again: what both sides hold then -/
set_option maxRecDepth 10000 in
theorem T_X_copy_45_13 (D : Nat) (M : pM) : xF (D + 1) 48 [.inr 47, .inr 15] M = xE D 48 2 [.inr 47, .inr 15, .inl 0] [] M := (show xF (D + 1) 48 [.inr 47, .inr 15] M = xE D 48 0 [.inr 47, .inr 15, .inr 0] [] M from rfl).trans ((x_run D 48 (fun i => C_48.getD i s_none) rfl (fun i => Nat.beq i 2) 20 0 [.inr 47, .inr 15, .inr 0] [] M).trans rfl)
set_option maxRecDepth 10000 in
theorem L_X_copy_45_13_2 (D : Nat) (x2 : Int) (M : pM) : xE D 48 2 [.inr 47, .inr 15, .inl x2] [] M =
 if le32 10 x2 then
 some (none, M)
 else
 (if le32 10 x2 then
 some (none, M)
 else
 (if 0 ≤ x2 ∧ x2 < 10 then
 if 0 ≤ x2 ∧ x2 < 10 then
 xE D 48 2 [.inr 47, .inr 15, .inl (x2 + 1)] [] (pset M 13 x2.toNat (M 45 x2.toNat))
 else none
 else none)) :=
 (x_run D 48 (fun i => C_48.getD i s_none) rfl (fun i => Nat.beq i 2) 20 2 [.inr 47, .inr 15, .inl x2] [] M).trans rfl
theorem c_copy_45_13 {d : Nat} (hd : 1 ≤ d) {M : pM} : xF d 48 [.inr 47, .inr 15] M = rV (pcp M 45 13 10) := by
  obtain ⟨D, rfl, -⟩ := dsucc hd
  rw [T_X_copy_45_13]
  have key : ∀ m i : Nat, i + m = 10 → xE D 48 2 [.inr 47, .inr 15, .inl (i : Int)] [] (pcp M 45 13 i) = rV (pcp M 45 13 10) := by
    intro m
    induction m with
    | zero =>
      intro i hi
      have hi : i = 10 := by omega
      subst hi
      rw [L_X_copy_45_13_2, if_pos (by rw [le32_iff] <;> omega)]
    | succ m ih =>
      intro i hi
      rw [L_X_copy_45_13_2, if_neg (by rw [le32_iff] <;> omega), if_neg (by rw [le32_iff] <;> omega), if_pos (by omega), if_pos (by omega), Int.toNat_natCast, pcp_succ (by decide)]
      exact ih (i + 1) (by omega)
  have h := key 10 0 (by omega)
  rw [pcp_zero] at h
  exact h
set_option maxRecDepth 10000 in
theorem T_X_copy_47_13 (D : Nat) (M : pM) : xF (D + 1) 48 [.inr 49, .inr 15] M = xE D 48 2 [.inr 49, .inr 15, .inl 0] [] M := (show xF (D + 1) 48 [.inr 49, .inr 15] M = xE D 48 0 [.inr 49, .inr 15, .inr 0] [] M from rfl).trans ((x_run D 48 (fun i => C_48.getD i s_none) rfl (fun i => Nat.beq i 2) 20 0 [.inr 49, .inr 15, .inr 0] [] M).trans rfl)
set_option maxRecDepth 10000 in
theorem L_X_copy_47_13_2 (D : Nat) (x2 : Int) (M : pM) : xE D 48 2 [.inr 49, .inr 15, .inl x2] [] M =
 if le32 10 x2 then
 some (none, M)
 else
 (if le32 10 x2 then
 some (none, M)
 else
 (if 0 ≤ x2 ∧ x2 < 10 then
 if 0 ≤ x2 ∧ x2 < 10 then
 xE D 48 2 [.inr 49, .inr 15, .inl (x2 + 1)] [] (pset M 13 x2.toNat (M 47 x2.toNat))
 else none
 else none)) :=
 (x_run D 48 (fun i => C_48.getD i s_none) rfl (fun i => Nat.beq i 2) 20 2 [.inr 49, .inr 15, .inl x2] [] M).trans rfl
theorem c_copy_47_13 {d : Nat} (hd : 1 ≤ d) {M : pM} : xF d 48 [.inr 49, .inr 15] M = rV (pcp M 47 13 10) := by
  obtain ⟨D, rfl, -⟩ := dsucc hd
  rw [T_X_copy_47_13]
  have key : ∀ m i : Nat, i + m = 10 → xE D 48 2 [.inr 49, .inr 15, .inl (i : Int)] [] (pcp M 47 13 i) = rV (pcp M 47 13 10) := by
    intro m
    induction m with
    | zero =>
      intro i hi
      have hi : i = 10 := by omega
      subst hi
      rw [L_X_copy_47_13_2, if_pos (by rw [le32_iff] <;> omega)]
    | succ m ih =>
      intro i hi
      rw [L_X_copy_47_13_2, if_neg (by rw [le32_iff] <;> omega), if_neg (by rw [le32_iff] <;> omega), if_pos (by omega), if_pos (by omega), Int.toNat_natCast, pcp_succ (by decide)]
      exact ih (i + 1) (by omega)
  have h := key 10 0 (by omega)
  rw [pcp_zero] at h
  exact h
section COF
variable {D d : Nat} {M M' G G' h : pM} {p q : Nat → Int}
theorem inR_cg (e : ∀ t, t < hT h → p t = q t) (r : Int) : inR h p r = inR h q r := bitsOf_congr fun t ht => by rw [e t ht]
theorem ovf_cg (e : ∀ t, t < hT h → p t = q t) : ovf h p = ovf h q := bitsOf_congr fun r _ => by rw [inR_cg e]
theorem ptd_cg (e : ∀ t, t < hT h → p t = q t) : ptd h p = ptd h q := bitsOf_congr fun s _ => by
  unfold oneR
  simp only [inR_cg e]
theorem lwf_cg (e : ∀ t, t < hT h → p t = q t) : lwf h p ↔ lwf h q := by
  unfold lwf
  rw [ptd_cg e, ovf_cg e]
/-! evening -/
def gEve (G : pM) : pM := fun o i => if o = 8 ∧ i = 0 then G 8 0 + 1 else if o = 8 ∧ i = 1 then 0 else if o = 9 ∧ i = 0 then 0 else G o i
theorem gEve_ne {o i : Nat} (h : o ≠ 8) (h2 : o ≠ 9) : gEve G o i = G o i := by
  unfold gEve
  rw [if_neg (fun z => h z.1), if_neg (fun z => h z.1), if_neg (fun z => h2 z.1)]
theorem x_tell (hd : 1 ≤ d) {n : Nat} (hn : n < 12) (h5 : M 5 1 = (n : Int)) (v : Int) : ∃ M', xF d 128 [.inr 7, .inl v] M = rV M' ∧ M' 5 1 = ((n + 1 : Nat) : Int) ∧ ∀ o i, o ≠ 5 → o ≠ 6 → M' o i = M o i := by
  obtain ⟨D, rfl, -⟩ := dsucc hd
  rw [T_Numbers_tell, h5, if_neg (by rw [lt32_iff] <;> omega), if_neg (by rw [le32_iff] <;> omega), if_pos (by omega), pset_ne (show 5 ≠ 6 by decide), h5]
  exact ⟨_, rfl, pset_eq, fun o i a b => by rw [pset_ne a, pset_ne b]⟩
theorem m_tellX (hd : 1 ≤ d) {n : Nat} (hn : n < 16) (h16 : M 60 16 = (n : Int)) (v : Int) : ∃ M', xF d 172 [.inr 62, .inl v] M = rV M' ∧ M' 60 16 = ((n + 1 : Nat) : Int) ∧ ∀ o i, ¬ (o = 60 ∧ i = 16) → o ≠ 69 → M' o i = M o i := by
  obtain ⟨D, rfl, -⟩ := dsucc hd
  rw [T_M_tell, h16, if_pos (by omega), pset_ne (show 60 ≠ 69 by decide), h16]
  refine ⟨_, rfl, pset_eq, fun o i a b => ?_⟩
  unfold pset
  rw [if_neg (fun z => a z), if_neg (fun z => b z.1)]
theorem PL13 (W : WF G) (X : XG M G) : PL M G 13 (G 6) := fun t ht => ⟨(X.1.2.2.2.2.2.1 t ht).2.2.2, (W.2.2.2.2.2.2.2.1 t ht).2.2.2⟩
/-- the night of the class -/
theorem XG_eve (X : XG M G) (e15 : M' 0 15 = G 8 0 + 1) (e16 : M' 0 16 = 0) (e39 : M' 39 3 = 0) (eo : ∀ o i, cx o i = true → ¬ (o = 0 ∧ (i = 15 ∨ i = 16)) → ¬ (o = 39 ∧ i = 3) → M' o i = M o i) : XG M' (gEve G) := by
  obtain ⟨⟨x1, x2, x3, x4, x5, x6, x7⟩, ⟨d1, d2, d3⟩, ⟨p1, p2⟩, k⟩ := X
  refine ⟨⟨by rw [eo 7 9 rfl (by omega) (by omega)]; exact x1, by rw [eo 7 10 rfl (by omega) (by omega)]; exact x2, by rw [eo 7 11 rfl (by omega) (by omega)]; exact x3, fun r hr => by rw [eo 8 r rfl (by omega) (by omega)]; exact x4 r hr, fun q hq => by rw [eo 9 q rfl (by omega) (by omega)]; exact x5 q hq, fun t ht => by rw [eo 10 t rfl (by omega) (by omega), eo 11 t rfl (by omega) (by omega), eo 12 t rfl (by omega) (by omega), eo 13 t rfl (by omega) (by omega)]; exact x6 t ht, fun s hs => by rw [eo 14 s rfl (by omega) (by omega)]; exact x7 s hs⟩, ⟨e15, e16, by rw [eo 0 17 rfl (by omega) (by omega)]; exact d3⟩, ⟨e39, fun j hj => ?_⟩, fun i hi => ?_⟩
  · have hj : (j : Int) < 0 := hj
    omega
  · have a : ∀ j, M' (44 + 2 * i) j = M (44 + 2 * i) j := fun j => by
      rcases (show i = 0 ∨ i = 1 by omega) with rfl | rfl
      · exact eo 44 j rfl (by omega) (by omega)
      · exact eo 46 j rfl (by omega) (by omega)
    have bb : ∀ j, M' (45 + 2 * i) j = M (45 + 2 * i) j := fun j => by
      rcases (show i = 0 ∨ i = 1 by omega) with rfl | rfl
      · exact eo 45 j rfl (by omega) (by omega)
      · exact eo 47 j rfl (by omega) (by omega)
    have g16 : ∀ j, gEve G (16 + i) j = G (16 + i) j := fun j => gEve_ne (by omega) (by omega)
    simp only [a, bb, g16, gEve_ne (show 13 ≠ 8 by decide) (show 13 ≠ 9 by decide), gEve_ne (show 14 ≠ 8 by decide) (show 14 ≠ 9 by decide), gEve_ne (show 15 ≠ 8 by decide) (show 15 ≠ 9 by decide), gEve_ne (show 18 ≠ 8 by decide) (show 18 ≠ 9 by decide), gEve_ne (show 19 ≠ 8 by decide) (show 19 ≠ 9 by decide)]
    exact k i hi
theorem x_sleep (hd : 2 ≤ d) (X : XG M G) : ∃ M', xF d 53 [.inr 2] M = rI 1 M' ∧ XG M' (gEve G) := by
  obtain ⟨D, rfl, hD⟩ := dsucc hd
  obtain ⟨D', rfl, -⟩ := dsucc (show 1 ≤ D by omega)
  rw [T_X_sleep, T_Past_forget, pbN_rV]
  refine ⟨_, rfl, XG_eve X ?_ ?_ pset_eq (fun o i _ a b => ?_)⟩
  · rw [pset_ne (by decide), pset_ne2 (by decide), pset_eq, X.2.1.1]
  · rw [pset_ne (by decide), pset_eq]
  · unfold pset
    rw [if_neg (fun z => b z), if_neg (fun z => a ⟨z.1, Or.inr z.2⟩), if_neg (fun z => a ⟨z.1, Or.inl z.2⟩)]
theorem x_lawful13 (hd : 5 ≤ d) (W : WF G) (X : XG M G) : (lwf G (G 6) → xF d 91 [.inr 9, .inr 15] M = rI 1 M) ∧ (¬ lwf G (G 6) → xF d 91 [.inr 9, .inr 15] M = rI 0 M) := by
  have e := @c_lawful_13 d M G (G 6) hd W X.1 (PL13 W X) (inferInstanceAs (Decidable (ptd G (G 6) = 0 ∧ ovf G (G 6) = 0)))
  refine ⟨fun q => ?_, fun q => ?_⟩
  · rw [if_pos q] at e; exact e
  · rw [if_neg q] at e; exact e
theorem xg_evening (hd : 6 ≤ d) (W : WF G) (X : XG M G) {v : Int} (ee : xF d 12 [.inr 2] M = rI v M') : (lwf G (G 6) → v = 1 ∧ XG M' (gEve G)) ∧ (¬ lwf G (G 6) → v = 0 ∧ XG M' G) := by
  obtain ⟨D, rfl, hD⟩ := dsucc hd
  obtain ⟨D', rfl, -⟩ := dsucc (show 1 ≤ D by omega)
  have P := PL13 W X
  have q1 : ptd G (G 6) < 2 ^ hS G := bitsOf_lt _ _
  have q2 : ovf G (G 6) < 2 ^ hR G := bitsOf_lt _ _
  have q3 := p_S W
  have q4 := p_R W
  have q5 : ptd G (G 6) ||| ovf G (G 6) < 2 ^ 8 := Nat.or_lt_two_pow (by omega) (by omega)
  obtain ⟨M1, e1, k1, f1⟩ := x_tell (d := D' + 1) (M := pset M 5 1 0) (n := 0) (by omega) (by decide) pset_eq (ptd G (G 6) : Nat)
  obtain ⟨M2, e2, k2, f2⟩ := x_tell (d := D' + 1) (M := M1) (n := 1) (by omega) (by decide) k1 (ovf G (G 6) : Nat)
  have X2 : XG M2 G := XG_ag (fun o i q => by
    have h5 : o ≠ 5 := fun z => by rw [z] at q; cases q
    have h6 : o ≠ 6 := fun z => by rw [z] at q; cases q
    rw [f2 o i h5 h6, f1 o i h5 h6, pset_ne h5]) X
  rw [T_X_evening, c_parted_13 (by omega) W X.1 P, pbI_rI, c_overfull_13 (by omega) W X.1 P, pbI_rI, T_Numbers_start, pbN_rV, e1, pbN_rV, e2, pbN_rV, jor_nat (by omega) (by omega)] at ee
  by_cases e : ptd G (G 6) ||| ovf G (G 6) = 0
  · have hl : lwf G (G 6) := or_zero.mp e
    obtain ⟨M3, e3, X3⟩ := x_sleep (d := D' + 1) (by omega) X2
    rw [e, if_neg (fun z => z rfl), e3, pbI_rI] at ee
    obtain ⟨z1, z2⟩ := rI_inj ee
    rw [← z1, ← z2]
    exact ⟨fun _ => ⟨rfl, X3⟩, fun z => absurd hl z⟩
  · have hl : ¬ lwf G (G 6) := fun z => e (or_zero.mpr z)
    rw [if_pos (by rw [show (0 : Int) = ((0 : Nat) : Int) from rfl, eq32_iff] <;> omega)] at ee
    obtain ⟨z1, z2⟩ := rI_inj ee
    rw [← z1, ← z2]
    exact ⟨fun z => absurd z hl, fun _ => ⟨rfl, X2⟩⟩
/-- the night of the reference -/
theorem MG_eve (X : MG M G) (e10 : M' 60 10 = G 8 0 + 1) (e11 : M' 60 11 = 0) (e33 : M' 60 33 = 0) (eo : ∀ o i, cm o i = true → ¬ (o = 60 ∧ (i = 10 ∨ i = 11 ∨ i = 33)) → M' o i = M o i) : MG M' (gEve G) := by
  obtain ⟨⟨x1, x2, x3, x4, x5, x6, x7⟩, ⟨d1, d2, d3⟩, ⟨p1, p2⟩, k⟩ := X
  have eR : hR (gEve G) = hR G := rfl
  have eT : hT (gEve G) = hT G := rfl
  refine ⟨⟨by rw [eo 60 0 rfl (by omega)]; exact x1, by rw [eo 60 3 rfl (by omega)]; exact x2, by rw [eo 60 8 rfl (by omega)]; exact x3, fun r hr => by rw [eo 61 r rfl (by omega)]; exact x4 r hr, fun q hq => by rw [eo 62 q rfl (by omega)]; exact x5 q hq, fun t ht => by rw [eo 63 t rfl (by omega), eo 64 t rfl (by omega), eo 65 t rfl (by omega), eo 66 t rfl (by omega)]; exact x6 t ht, fun s hs => by rw [eo 67 s rfl (by omega)]; exact x7 s hs⟩, ⟨e10, e11, by rw [eo 60 12 rfl (by omega)]; exact d3⟩, ⟨e33, fun j hj => ?_⟩, fun i hi => ?_⟩
  · have hj : (j : Int) < 0 := hj
    omega
  · have a : ∀ j, M' 87 j = M 87 j := fun j => eo 87 j rfl (by omega)
    have bb : ∀ j, M' 88 j = M 88 j := fun j => eo 88 j rfl (by omega)
    have cc : ∀ j, M' 89 j = M 89 j := fun j => eo 89 j rfl (by omega)
    have g16 : ∀ j, gEve G (16 + i) j = G (16 + i) j := fun j => gEve_ne (by omega) (by omega)
    simp only [a, bb, cc, eo 60 52 rfl (by omega), g16, gEve_ne (show 13 ≠ 8 by decide) (show 13 ≠ 9 by decide), gEve_ne (show 14 ≠ 8 by decide) (show 14 ≠ 9 by decide), gEve_ne (show 15 ≠ 8 by decide) (show 15 ≠ 9 by decide), gEve_ne (show 18 ≠ 8 by decide) (show 18 ≠ 9 by decide), gEve_ne (show 19 ≠ 8 by decide) (show 19 ≠ 9 by decide), eR, eT]
    exact k i hi
theorem hp66 (W : WF G) (X : MG M G) : ∀ t, t < hT G → 0 ≤ M 66 t ∧ M 66 t < hR G := fun t ht => by
  rw [(X.1.2.2.2.2.2.1 t ht).2.2.2]; exact (W.2.2.2.2.2.2.2.1 t ht).2.2.2
theorem lwf66 (X : MG M G) : lwf G (M 66) ↔ lwf G (G 6) := lwf_cg fun t ht => (X.1.2.2.2.2.2.1 t ht).2.2.2
theorem m_law66F (hd : 3 ≤ d) (W : WF G) (X : MG M G) : (lwf G (G 6) → xF d 212 [.inr 62, .inr 68] M = rI 1 M) ∧ (¬ lwf G (G 6) → xF d 212 [.inr 62, .inr 68] M = rI 0 M) := by
  have e := m_lawful_66 hd (MH_fc W X.1) X.1.1 W.1
  have u := (lw_same W X.1 (hp66 W X)).trans (lwf66 X)
  refine ⟨fun q => ?_, fun q => ?_⟩
  · rw [if_pos (u.mpr q)] at e; exact e
  · rw [if_neg (fun z => q (u.mp z))] at e; exact e
theorem m_goEvF (hd : 4 ≤ d) (W : WF G) (X : MG M G) : (lwf G (G 6) → ∃ M', xF d 217 [.inr 62] M = rI 1 M' ∧ MG M' (gEve G) ∧ ∀ i, i ≠ 10 → i ≠ 11 → i ≠ 33 → M' 60 i = M 60 i) ∧ (¬ lwf G (G 6) → xF d 217 [.inr 62] M = rI 0 M) := by
  obtain ⟨D, rfl, hD⟩ := dsucc hd
  obtain ⟨u1, u2⟩ := m_law66F (d := D) (by omega) W X
  refine ⟨fun q => ?_, fun q => ?_⟩
  · rw [T_M_goEvening, u1 q, pbI_rI, if_pos (by decide)]
    refine ⟨_, rfl, MG_eve X ?_ ?_ pset_eq (fun o i _ a => ?_), fun i h1 h2 h3 => by rw [pset_ne2 h3, pset_ne2 h2, pset_ne2 h1]⟩
    · rw [pset_ne2 (by decide), pset_ne2 (by decide), pset_eq, X.2.1.1]
    · rw [pset_ne2 (by decide), pset_eq]
    · unfold pset
      rw [if_neg (fun z => a ⟨z.1, by omega⟩), if_neg (fun z => a ⟨z.1, by omega⟩), if_neg (fun z => a ⟨z.1, by omega⟩)]
  · rw [T_M_goEvening, u2 q, pbI_rI, if_neg (fun z => z rfl)]
theorem mg_evening (hd : 5 ≤ d) (W : WF G) (X : MG M G) {v : Int} (ee : xF d 218 [.inr 62] M = rI v M') : (lwf G (G 6) → v = 1 ∧ MG M' (gEve G)) ∧ (¬ lwf G (G 6) → v = 0 ∧ MG M' G) := by
  obtain ⟨D, rfl, hD⟩ := dsucc hd
  have X1 := MG_thr X
  rw [T_M_evening] at ee
  generalize pset M 60 17 0 = M0 at X1 ee
  rw [m_parted_66 (by omega) (MH_fc W X1.1), pbI_rI, m_full_66 (by omega) X1.1.2.1 W.2.1 X1.1.1 W.1, pbI_rI] at ee
  obtain ⟨M1, e1, k1, f1⟩ := m_tellX (d := D) (M := pset M0 60 16 0) (n := 0) (by omega) (by decide) pset_eq (bitsOf (fun s => pdF (M0 66) (me G s) (hT G)) (hS G) : Nat)
  obtain ⟨M2, e2, k2, f2⟩ := m_tellX (d := D) (M := M1) (n := 1) (by omega) (by decide) k1 (bitsOf (fun r => decide (¬ le32 0 (frF M0 (M0 66) r (hT G)))) (hR G) : Nat)
  have X2 : MG M2 G := MG_ag (fun o i q => by
    have h5 : ¬ (o = 60 ∧ i = 16) := fun z => by rw [z.1, z.2] at q; cases q
    have h6 : o ≠ 69 := fun z => by rw [z] at q; cases q
    rw [f2 o i h5 h6, f1 o i h5 h6]
    unfold pset
    rw [if_neg (fun z => h5 z)]) X1
  obtain ⟨u1, u2⟩ := m_goEvF (d := D) (by omega) W X2
  rw [e1, pbN_rV, e2, pbN_rV] at ee
  by_cases q : lwf G (G 6)
  · obtain ⟨M3, e3, X3, -⟩ := u1 q
    rw [e3, pbI_rI, if_neg (by decide)] at ee
    obtain ⟨z1, z2⟩ := rI_inj ee
    rw [← z1, ← z2]
    exact ⟨fun _ => ⟨rfl, X3⟩, fun z => absurd q z⟩
  · rw [u2 q, pbI_rI, if_pos rfl] at ee
    obtain ⟨z1, z2⟩ := rI_inj ee
    rw [← z1, ← z2]
    exact ⟨fun z => absurd z q, fun _ => ⟨rfl, X2⟩⟩
end COF
/-! undo, keep, again: what both sides hold then -/
def gUk (G : pM) : Nat := (G 9 0 - 1).toNat
def gUndo (G : pM) : pM := fun o i => if o = 9 ∧ i = 0 then G 9 0 - 1 else if o = 6 ∧ i = (G 10 (gUk G)).toNat then G 11 (gUk G) else if o = 8 ∧ i = 1 then G 12 (gUk G) else G o i
section COU
variable {D d : Nat} {M M' G G' : pM}
theorem gUndo_ne {o i : Nat} (h1 : o ≠ 6) (h2 : o ≠ 8) (h3 : o ≠ 9) : gUndo G o i = G o i := by
  unfold gUndo
  rw [if_neg (fun z => h3 z.1), if_neg (fun z => h1 z.1), if_neg (fun z => h2 z.1)]
theorem gUndo_6 {i : Nat} : gUndo G 6 i = if i = (G 10 (gUk G)).toNat then G 11 (gUk G) else G 6 i := by
  unfold gUndo
  rw [if_neg (by omega)]
  by_cases q : i = (G 10 (gUk G)).toNat
  · rw [if_pos ⟨rfl, q⟩, if_pos q]
  · rw [if_neg (fun z => q z.2), if_neg q, if_neg (by omega)]
theorem XG_undo (X : XG M G) (e13 : ∀ i, i < hT G → M' 13 i = if i = (G 10 (gUk G)).toNat then G 11 (gUk G) else M 13 i) (e16 : M' 0 16 = G 12 (gUk G)) (e39 : M' 39 3 = G 9 0 - 1) (eo : ∀ o i, cx o i = true → o ≠ 13 → ¬ (o = 0 ∧ i = 16) → ¬ (o = 39 ∧ i = 3) → M' o i = M o i) : XG M' (gUndo G) := by
  obtain ⟨⟨x1, x2, x3, x4, x5, x6, x7⟩, ⟨d1, d2, d3⟩, ⟨p1, p2⟩, k⟩ := X
  have g : ∀ o j, o < 6 ∨ o = 7 ∨ 9 < o → gUndo G o j = G o j := fun o j ho => gUndo_ne (by omega) (by omega) (by omega)
  have eT : hT (gUndo G) = hT G := by unfold hT; rw [g 0 1 (by decide)]
  refine ⟨⟨by rw [eo 7 9 rfl (by omega) (by omega) (by omega)]; exact x1, by rw [eo 7 10 rfl (by omega) (by omega) (by omega)]; exact x2, by rw [eo 7 11 rfl (by omega) (by omega) (by omega)]; exact x3, fun r hr => by rw [eo 8 r rfl (by omega) (by omega) (by omega), g 1 r (by decide)]; exact x4 r hr, fun q hq => by rw [eo 9 q rfl (by omega) (by omega) (by omega), g 2 q (by decide)]; exact x5 q hq, fun t ht => ?_, fun s hs => ?_⟩, ⟨?_, ?_, ?_⟩, ⟨?_, fun j hj => ?_⟩, fun i hi => ?_⟩
  · rw [eT] at ht
    obtain ⟨y1, y2, y3, y4⟩ := x6 t ht
    rw [eo 10 t rfl (by omega) (by omega) (by omega), eo 11 t rfl (by omega) (by omega) (by omega), eo 12 t rfl (by omega) (by omega) (by omega), e13 t ht, gUndo_6, g 3 t (by decide), g 4 t (by decide), g 5 t (by decide), y4]
    exact ⟨y1, y2, y3, rfl⟩
  · rw [eo 14 s rfl (by omega) (by omega) (by omega)]
    have : me (gUndo G) s = me G s := by unfold me; rw [g 7 s (by decide)]
    rw [this]; exact x7 s hs
  · rw [eo 0 15 rfl (by omega) (by omega) (by omega)]; exact d1
  · exact e16
  · rw [eo 0 17 rfl (by omega) (by omega) (by omega)]; exact d3
  · exact e39
  · have hj : (j : Int) < G 9 0 - 1 := hj
    rw [eo 40 j rfl (by omega) (by omega) (by omega), eo 41 j rfl (by omega) (by omega) (by omega), eo 42 j rfl (by omega) (by omega) (by omega), g 10 j (by decide), g 11 j (by decide), g 12 j (by decide)]
    exact p2 j (by omega)
  · have a : ∀ j, M' (44 + 2 * i) j = M (44 + 2 * i) j := fun j => by
      rcases (show i = 0 ∨ i = 1 by omega) with rfl | rfl
      · exact eo 44 j rfl (by omega) (by omega) (by omega)
      · exact eo 46 j rfl (by omega) (by omega) (by omega)
    have bb : ∀ j, M' (45 + 2 * i) j = M (45 + 2 * i) j := fun j => by
      rcases (show i = 0 ∨ i = 1 by omega) with rfl | rfl
      · exact eo 45 j rfl (by omega) (by omega) (by omega)
      · exact eo 47 j rfl (by omega) (by omega) (by omega)
    have g16 : ∀ j, gUndo G (16 + i) j = G (16 + i) j := fun j => g _ j (by omega)
    simp only [a, bb, g16, g 13 i (by decide), g 14 i (by decide), g 15 i (by decide), g 18 i (by decide), g 19 i (by decide)]
    exact k i hi
theorem xg_undo (hd : 2 ≤ d) (W : WF G) (X : XG M G) (hn : 0 ≤ G 9 0 ∧ G 9 0 ≤ 20) (hu : ∀ k : Nat, (k : Int) < G 9 0 → 0 ≤ G 10 k ∧ G 10 k ≤ 9) {v : Int} (ee : xF d 14 [.inr 2] M = rI v M') : (G 9 0 ≠ 0 → v = G 9 0 - 1 ∧ XG M' (gUndo G)) ∧ (G 9 0 = 0 → v = -1 ∧ XG M' G) := by
  obtain ⟨D, rfl, hD⟩ := dsucc hd
  have w2 := W.2.1
  rw [T_X_undo, X.2.2.1.1] at ee
  by_cases q : G 9 0 = 0
  · rw [if_neg (fun z => z (by rw [q]))] at ee
    obtain ⟨z1, z2⟩ := rI_inj ee
    rw [← z1, ← z2]
    exact ⟨fun z => absurd q z, fun _ => ⟨rfl, X⟩⟩
  · obtain ⟨n, hn2⟩ := natI (show 0 ≤ G 9 0 - 1 by omega)
    have ek : gUk G = n := by unfold gUk; omega
    have u1 := X.2.2.1.2 n (by omega)
    have u2 := hu n (by omega)
    have c39 : pset M 39 3 (G 9 0 - 1) 39 3 = (n : Int) := by rw [pset_eq]; exact hn2
    have o39 : ∀ o i, ¬ (o = 39 ∧ i = 3) → pset M 39 3 (G 9 0 - 1) o i = M o i := fun o i h => by
      unfold pset
      rw [if_neg (fun z => h z)]
    have XH0 : XH (pset M 39 3 (G 9 0 - 1)) G := XH_eq X.1 (fun o i h1 h2 _ => o39 o i (by omega))
    rw [if_pos (by rw [eq32_iff] <;> omega)] at ee
    rw [c39] at ee
    rw [c_numberAt_40n (by omega) (by omega), pbI_rI, o39 40 n (by omega), u1.1, c_isThing7 (by omega) W XH0 (by omega) (by omega), pbI_rI, ite01p] at ee
    refine ⟨fun _ => ?_, fun z => absurd z q⟩
    generalize pset M 39 3 (G 9 0 - 1) = M0 at *
    obtain ⟨x, hx⟩ := natI u2.1
    by_cases q2 : 0 ≤ G 10 n ∧ G 10 n < (hT G : Int)
    · have e13 : ∀ (N : pM) (a : Nat) (b : Int), pset N 13 a b 39 3 = N 39 3 := fun _ _ _ => pset_ne (by decide)
      rw [if_pos q2, c39, c_numberAt_41n (by omega) (by omega), pbI_rI, if_pos (by omega), e13, c39, c_numberAt_42n (by omega) (by omega), pbI_rI, pset_ne (show 42 ≠ 13 by decide), o39 41 n (by omega), o39 42 n (by omega), u1.2.1, u1.2.2, pset_ne (show 39 ≠ 0 by decide), e13, c39] at ee
      obtain ⟨z1, z2⟩ := rI_inj ee
      rw [← z1, ← z2]
      refine ⟨hn2.symm, XG_undo X (fun i hi => ?_) ?_ ?_ (fun o i hc a b c => ?_)⟩
      · rw [pset_ne (by decide), ek]
        by_cases q3 : i = (G 10 n).toNat
        · rw [q3, pset_eq, if_pos rfl]
        · rw [pset_ne2 q3, if_neg q3, o39 13 i (by omega)]
      · rw [pset_eq, ek]
      · rw [pset_ne (by decide), e13, c39]; exact hn2.symm
      · have : pset (pset M0 13 (G 10 n).toNat (G 11 n)) 0 16 (G 12 n) o i = M0 o i := by
          unfold pset
          rw [if_neg (fun z => b z), if_neg (fun z => a z.1)]
        rw [this, o39 o i c]
    · rw [if_neg q2, c39, c_numberAt_42n (by omega) (by omega), pbI_rI, o39 42 n (by omega), u1.2.2, pset_ne (show 39 ≠ 0 by decide), c39] at ee
      obtain ⟨z1, z2⟩ := rI_inj ee
      rw [← z1, ← z2]
      refine ⟨hn2.symm, XG_undo X (fun i hi => ?_) ?_ ?_ (fun o i hc a b c => ?_)⟩
      · rw [pset_ne (by decide), ek, if_neg (by omega), o39 13 i (by omega)]
      · rw [pset_eq, ek]
      · rw [pset_ne (by decide), c39]; exact hn2.symm
      · have : pset M0 0 16 (G 12 n) o i = M0 o i := by
          unfold pset
          rw [if_neg (fun z => b z)]
        rw [this, o39 o i c]
theorem MG_undo (X : MG M G) (e66 : ∀ i, i < hT G → M' 66 i = if i = (G 10 (gUk G)).toNat then G 11 (gUk G) else M 66 i) (e11 : M' 60 11 = G 12 (gUk G)) (e33 : M' 60 33 = G 9 0 - 1) (eo : ∀ o i, cm o i = true → o ≠ 66 → ¬ (o = 60 ∧ (i = 11 ∨ i = 33)) → M' o i = M o i) : MG M' (gUndo G) := by
  obtain ⟨⟨x1, x2, x3, x4, x5, x6, x7⟩, ⟨d1, d2, d3⟩, ⟨p1, p2⟩, k⟩ := X
  have g : ∀ o j, o < 6 ∨ o = 7 ∨ 9 < o → gUndo G o j = G o j := fun o j ho => gUndo_ne (by omega) (by omega) (by omega)
  have eR : hR (gUndo G) = hR G := by unfold hR; rw [g 0 0 (by decide)]
  have eT : hT (gUndo G) = hT G := by unfold hT; rw [g 0 1 (by decide)]
  have eS : hS (gUndo G) = hS G := by unfold hS; rw [g 0 2 (by decide)]
  refine ⟨⟨by rw [eo 60 0 rfl (by omega) (by omega), eR]; exact x1, by rw [eo 60 3 rfl (by omega) (by omega), eT]; exact x2, by rw [eo 60 8 rfl (by omega) (by omega), eS]; exact x3, fun r hr => ?_, fun q hq => ?_, fun t ht => ?_, fun s hs => ?_⟩, ⟨?_, e11, ?_⟩, ⟨e33, fun j hj => ?_⟩, fun i hi => ?_⟩
  · rw [eR] at hr
    rw [eo 61 r rfl (by omega) (by omega), g 1 r (by decide)]; exact x4 r hr
  · rw [eo 62 q rfl (by omega) (by omega), g 2 q (by decide)]; exact x5 q hq
  · rw [eT] at ht
    obtain ⟨y1, y2, y3, y4⟩ := x6 t ht
    rw [eo 63 t rfl (by omega) (by omega), eo 64 t rfl (by omega) (by omega), eo 65 t rfl (by omega) (by omega), e66 t ht, gUndo_6, g 3 t (by decide), g 4 t (by decide), g 5 t (by decide), y4]
    exact ⟨y1, y2, y3, rfl⟩
  · rw [eS] at hs
    rw [eo 67 s rfl (by omega) (by omega)]
    have : me (gUndo G) s = me G s := by unfold me; rw [g 7 s (by decide)]
    rw [this]; exact x7 s hs
  · rw [eo 60 10 rfl (by omega) (by omega)]; exact d1
  · rw [eo 60 12 rfl (by omega) (by omega)]; exact d3
  · have hj : (j : Int) < G 9 0 - 1 := hj
    rw [eo 75 _ rfl (by omega) (by omega), eo 75 _ rfl (by omega) (by omega), eo 75 _ rfl (by omega) (by omega), g 10 j (by decide), g 11 j (by decide), g 12 j (by decide)]
    exact p2 j (by omega)
  · have a : ∀ j, M' 87 j = M 87 j := fun j => eo 87 j rfl (by omega) (by omega)
    have bb : ∀ j, M' 88 j = M 88 j := fun j => eo 88 j rfl (by omega) (by omega)
    have cc : ∀ j, M' 89 j = M 89 j := fun j => eo 89 j rfl (by omega) (by omega)
    have g16 : ∀ j, gUndo G (16 + i) j = G (16 + i) j := fun j => g _ j (by omega)
    simp only [a, bb, cc, eo 60 52 rfl (by omega) (by omega), g16, g 13 i (by decide), g 14 i (by decide), g 15 i (by decide), g 18 i (by decide), g 19 i (by decide), eR, eT]
    exact k i hi
theorem mg_undo (hd : 1 ≤ d) (X : MG M G) (hn : 0 ≤ G 9 0 ∧ G 9 0 ≤ 20) (hu : ∀ k : Nat, (k : Int) < G 9 0 → 0 ≤ G 10 k ∧ G 10 k ≤ 9) {v : Int} (ee : xF d 220 [.inr 62] M = rI v M') : (G 9 0 ≠ 0 → v = G 9 0 - 1 ∧ MG M' (gUndo G)) ∧ (G 9 0 = 0 → v = -1 ∧ MG M' G) := by
  obtain ⟨D, rfl, -⟩ := dsucc hd
  have X1 := MG_thr X
  rw [T_M_undo] at ee
  generalize pset M 60 17 0 = M1 at X1 ee
  by_cases q : G 9 0 = 0
  · rw [if_neg (fun z => z (by rw [X1.2.2.1.1, q]))] at ee
    obtain ⟨z1, z2⟩ := rI_inj ee
    rw [← z1, ← z2]
    exact ⟨fun z => absurd q z, fun _ => ⟨rfl, X1⟩⟩
  · obtain ⟨n, hn2⟩ := natI (show 0 ≤ G 9 0 - 1 by omega)
    have ek : gUk G = n := by unfold gUk; omega
    have u1 := X1.2.2.1.2 n (by omega)
    have u2 := hu n (by omega)
    have e33 : pset M1 60 33 (n : Int) 60 33 = (n : Int) := pset_eq
    have o33 : ∀ o i, ¬ (o = 60 ∧ i = 33) → pset M1 60 33 (n : Int) o i = M1 o i := fun o i h => by
      unfold pset
      rw [if_neg (fun z => h z)]
    rw [if_pos (by rw [X1.2.2.1.1, eq32_iff] <;> omega), X1.2.2.1.1, hn2] at ee
    generalize pset M1 60 33 (n : Int) = M2 at e33 o33 ee
    have n1 : (3 * (n : Int)).toNat = 3 * n := by omega
    have n2 : (3 * (n : Int) + 1).toNat = 3 * n + 1 := by omega
    have n3 : (3 * (n : Int) + 2).toNat = 3 * n + 2 := by omega
    have a1 : ∀ (M : pM) (i : Nat) (v : Int), pset M 66 i v 60 33 = M 60 33 := fun _ _ _ => pset_ne (by decide)
    have a2 : ∀ (M : pM) (i k : Nat) (v : Int), pset M 66 i v 75 k = M 75 k := fun _ _ _ _ => pset_ne (by decide)
    have b0 : M2 75 (3 * n) = G 10 n := by rw [o33 75 _ (by omega)]; exact u1.1
    have b1 : M2 75 (3 * n + 1) = G 11 n := by rw [o33 75 _ (by omega)]; exact u1.2.1
    have b2 : M2 75 (3 * n + 2) = G 12 n := by rw [o33 75 _ (by omega)]; exact u1.2.2
    simp only [a1, a2, e33, n1, n2, n3, b0, b1, b2] at ee
    rw [if_pos (by omega), if_pos (by omega), if_pos (by omega), if_pos (by omega)] at ee
    refine ⟨fun _ => ?_, fun z => absurd z q⟩
    obtain ⟨z1, z2⟩ := rI_inj ee
    rw [← z1, ← z2]
    refine ⟨by rw [pset_ne2 (by decide), a1, e33]; exact hn2.symm, MG_undo X1 (fun i hi => ?_) ?_ ?_ (fun o i hc a b => ?_)⟩
    · rw [pset_ne (by decide), ek]
      by_cases q3 : i = (G 10 n).toNat
      · rw [q3, pset_eq, if_pos rfl]
      · rw [pset_ne2 q3, if_neg q3, o33 66 i (by omega)]
    · rw [pset_eq, ek]
    · rw [pset_ne2 (by decide), a1, e33]; exact hn2.symm
    · have : pset (pset M2 66 (G 10 n).toNat (G 11 n)) 60 11 (G 12 n) o i = M2 o i := by
        unfold pset
        rw [if_neg (fun z => b ⟨z.1, Or.inl z.2⟩), if_neg (fun z => a z.1)]
      rw [this, o33 o i (fun z => b ⟨z.1, Or.inr z.2⟩)]
end COU
/-! keep, again: what both sides hold then -/
def gKeep (G : pM) (b : Nat) : pM := fun o i => if o = 13 ∧ i = b then 1 else if o = 14 ∧ i = b then (hR G : Int) else if o = 15 ∧ i = b then (hT G : Int) else if o = 16 + b then G 6 i else if o = 18 ∧ i = b then G 8 0 else if o = 19 ∧ i = b then G 8 1 else G o i
def gAgain (G : pM) (b : Nat) : pM := fun o i => if o = 6 ∧ i < hT G then G (16 + b) i else if o = 8 ∧ i = 0 then G 18 b else if o = 8 ∧ i = 1 then G 19 b else if o = 9 ∧ i = 0 then 0 else G o i
/-- a house is kept that can be again -/
def agC (G : pM) (b : Int) : Prop := (0 ≤ b ∧ b ≤ 1) ∧ G 13 b.toNat ≠ 0 ∧ G 14 b.toNat = hR G ∧ G 15 b.toNat = hT G
section COK
variable {D d : Nat} {M M' G G' : pM}
theorem gKeep_lo {b o i : Nat} (h : o < 13) : gKeep G b o i = G o i := by
  unfold gKeep
  rw [if_neg (by omega), if_neg (by omega), if_neg (by omega), if_neg (by omega), if_neg (by omega), if_neg (by omega)]
theorem gKeep_at {b : Nat} (hb : b < 2) : gKeep G b 13 b = 1 ∧ gKeep G b 14 b = hR G ∧ gKeep G b 15 b = hT G ∧ (∀ i, gKeep G b (16 + b) i = G 6 i) ∧ gKeep G b 18 b = G 8 0 ∧ gKeep G b 19 b = G 8 1 := by
  unfold gKeep
  refine ⟨if_pos ⟨rfl, rfl⟩, ?_, ?_, fun i => ?_, ?_, ?_⟩
  · rw [if_neg (by omega), if_pos ⟨rfl, rfl⟩]
  · rw [if_neg (by omega), if_neg (by omega), if_pos ⟨rfl, rfl⟩]
  · rw [if_neg (by omega), if_neg (by omega), if_neg (by omega), if_pos rfl]
  · rw [if_neg (by omega), if_neg (by omega), if_neg (by omega), if_neg (by omega), if_pos ⟨rfl, rfl⟩]
  · rw [if_neg (by omega), if_neg (by omega), if_neg (by omega), if_neg (by omega), if_neg (by omega), if_pos ⟨rfl, rfl⟩]
theorem gKeep_no {b c : Nat} (hb : b < 2) (hc : c < 2) (h : c ≠ b) : gKeep G b 13 c = G 13 c ∧ gKeep G b 14 c = G 14 c ∧ gKeep G b 15 c = G 15 c ∧ (∀ i, gKeep G b (16 + c) i = G (16 + c) i) ∧ gKeep G b 18 c = G 18 c ∧ gKeep G b 19 c = G 19 c := by
  unfold gKeep
  refine ⟨?_, ?_, ?_, fun i => ?_, ?_, ?_⟩
  · rw [if_neg (by omega), if_neg (by omega), if_neg (by omega), if_neg (by omega), if_neg (by omega), if_neg (by omega)]
  · rw [if_neg (by omega), if_neg (by omega), if_neg (by omega), if_neg (by omega), if_neg (by omega), if_neg (by omega)]
  · rw [if_neg (by omega), if_neg (by omega), if_neg (by omega), if_neg (by omega), if_neg (by omega), if_neg (by omega)]
  · rw [if_neg (by omega), if_neg (by omega), if_neg (by omega), if_neg (by omega), if_neg (by omega), if_neg (by omega)]
  · rw [if_neg (by omega), if_neg (by omega), if_neg (by omega), if_neg (by omega), if_neg (by omega), if_neg (by omega)]
  · rw [if_neg (by omega), if_neg (by omega), if_neg (by omega), if_neg (by omega), if_neg (by omega), if_neg (by omega)]
theorem XG_keep (X : XG M G) {b : Nat} (hb : b < 2) (e1 : M' (44 + 2 * b) 1 = 1) (e2 : M' (44 + 2 * b) 2 = hR G) (e3 : M' (44 + 2 * b) 3 = hT G) (e4 : M' (44 + 2 * b) 4 = G 8 0) (e5 : M' (44 + 2 * b) 5 = G 8 1) (et : ∀ t, t < hT G → M' (45 + 2 * b) t = G 6 t) (eo : ∀ o i, cx o i = true → o ≠ 44 + 2 * b → o ≠ 45 + 2 * b → M' o i = M o i) : XG M' (gKeep G b) := by
  obtain ⟨⟨x1, x2, x3, x4, x5, x6, x7⟩, ⟨d1, d2, d3⟩, ⟨p1, p2⟩, k⟩ := X
  have g : ∀ o j, o < 13 → gKeep G b o j = G o j := fun o j ho => gKeep_lo ho
  have eR : hR (gKeep G b) = hR G := by unfold hR; rw [g 0 0 (by decide)]
  have eT : hT (gKeep G b) = hT G := by unfold hT; rw [g 0 1 (by decide)]
  have eS : hS (gKeep G b) = hS G := by unfold hS; rw [g 0 2 (by decide)]
  refine ⟨⟨by rw [eo 7 9 rfl (by omega) (by omega), eR]; exact x1, by rw [eo 7 10 rfl (by omega) (by omega), eT]; exact x2, by rw [eo 7 11 rfl (by omega) (by omega), eS]; exact x3, fun r hr => by rw [eR] at hr; rw [eo 8 r rfl (by omega) (by omega), g 1 r (by decide)]; exact x4 r hr, fun q hq => by rw [eo 9 q rfl (by omega) (by omega), g 2 q (by decide)]; exact x5 q hq, fun t ht => ?_, fun s hs => ?_⟩, ⟨?_, ?_, ?_⟩, ⟨?_, fun j hj => ?_⟩, fun i hi => ?_⟩
  · rw [eT] at ht
    rw [eo 10 t rfl (by omega) (by omega), eo 11 t rfl (by omega) (by omega), eo 12 t rfl (by omega) (by omega), eo 13 t rfl (by omega) (by omega), g 3 t (by decide), g 4 t (by decide), g 5 t (by decide), g 6 t (by decide)]
    exact x6 t ht
  · rw [eS] at hs
    rw [eo 14 s rfl (by omega) (by omega)]
    have : me (gKeep G b) s = me G s := by unfold me; rw [g 7 s (by decide)]
    rw [this]; exact x7 s hs
  · rw [eo 0 15 rfl (by omega) (by omega), g 8 0 (by decide)]; exact d1
  · rw [eo 0 16 rfl (by omega) (by omega), g 8 1 (by decide)]; exact d2
  · rw [eo 0 17 rfl (by omega) (by omega), g 8 2 (by decide)]; exact d3
  · rw [eo 39 3 rfl (by omega) (by omega), g 9 0 (by decide)]; exact p1
  · rw [g 9 0 (by decide)] at hj
    rw [eo 40 j rfl (by omega) (by omega), eo 41 j rfl (by omega) (by omega), eo 42 j rfl (by omega) (by omega), g 10 j (by decide), g 11 j (by decide), g 12 j (by decide)]
    exact p2 j hj
  · by_cases q : i = b
    · rw [q]
      obtain ⟨a1, a2, a3, a4, a5, a6⟩ := gKeep_at (G := G) hb
      simp only [a1, a2, a3, a4, a5, a6]
      exact ⟨e1, fun _ => ⟨e2, e3, e4, e5, fun t ht => et t (by omega)⟩⟩
    · obtain ⟨a1, a2, a3, a4, a5, a6⟩ := gKeep_no (G := G) hb hi q
      have b1 : ∀ j, M' (44 + 2 * i) j = M (44 + 2 * i) j := fun j => by
        rcases (show i = 0 ∨ i = 1 by omega) with rfl | rfl
        · exact eo 44 j rfl (by omega) (by omega)
        · exact eo 46 j rfl (by omega) (by omega)
      have b2 : ∀ j, M' (45 + 2 * i) j = M (45 + 2 * i) j := fun j => by
        rcases (show i = 0 ∨ i = 1 by omega) with rfl | rfl
        · exact eo 45 j rfl (by omega) (by omega)
        · exact eo 47 j rfl (by omega) (by omega)
      simp only [a1, a2, a3, a4, a5, a6, b1, b2]
      exact k i hi
theorem MG_keep (X : MG M G) {b : Nat} (hb : b < 2) (e88 : ∀ i, M' 88 i = if i = b then 1 else M 88 i) (e89 : ∀ i, M' 89 i = if i = b then M 60 52 else M 89 i) (et : ∀ t, t < hT G → M' 87 (12 * b + t) = G 6 t) (e10 : M' 87 (12 * b + 10) = G 8 0) (e11 : M' 87 (12 * b + 11) = G 8 1) (e87 : ∀ j, (j < 12 * b ∨ 12 * b + 12 ≤ j) → M' 87 j = M 87 j) (hT10 : hT G ≤ 10) (eo : ∀ o i, cm o i = true → o ≠ 87 → o ≠ 88 → o ≠ 89 → M' o i = M o i) : MG M' (gKeep G b) := by
  obtain ⟨⟨x1, x2, x3, x4, x5, x6, x7⟩, ⟨d1, d2, d3⟩, ⟨p1, p2⟩, k⟩ := X
  have g : ∀ o j, o < 13 → gKeep G b o j = G o j := fun o j ho => gKeep_lo ho
  have eR : hR (gKeep G b) = hR G := by unfold hR; rw [g 0 0 (by decide)]
  have eT : hT (gKeep G b) = hT G := by unfold hT; rw [g 0 1 (by decide)]
  have eS : hS (gKeep G b) = hS G := by unfold hS; rw [g 0 2 (by decide)]
  refine ⟨⟨by rw [eo 60 0 rfl (by omega) (by omega) (by omega), eR]; exact x1, by rw [eo 60 3 rfl (by omega) (by omega) (by omega), eT]; exact x2, by rw [eo 60 8 rfl (by omega) (by omega) (by omega), eS]; exact x3, fun r hr => ?_, fun q hq => ?_, fun t ht => ?_, fun s hs => ?_⟩, ⟨?_, ?_, ?_⟩, ⟨?_, fun j hj => ?_⟩, fun i hi => ?_⟩
  · rw [eR] at hr
    rw [eo 61 r rfl (by omega) (by omega) (by omega), g 1 r (by decide)]; exact x4 r hr
  · rw [eo 62 q rfl (by omega) (by omega) (by omega), g 2 q (by decide)]; exact x5 q hq
  · rw [eT] at ht
    rw [eo 63 t rfl (by omega) (by omega) (by omega), eo 64 t rfl (by omega) (by omega) (by omega), eo 65 t rfl (by omega) (by omega) (by omega), eo 66 t rfl (by omega) (by omega) (by omega), g 3 t (by decide), g 4 t (by decide), g 5 t (by decide), g 6 t (by decide)]
    exact x6 t ht
  · rw [eS] at hs
    rw [eo 67 s rfl (by omega) (by omega) (by omega)]
    have : me (gKeep G b) s = me G s := by unfold me; rw [g 7 s (by decide)]
    rw [this]; exact x7 s hs
  · rw [eo 60 10 rfl (by omega) (by omega) (by omega), g 8 0 (by decide)]; exact d1
  · rw [eo 60 11 rfl (by omega) (by omega) (by omega), g 8 1 (by decide)]; exact d2
  · rw [eo 60 12 rfl (by omega) (by omega) (by omega), g 8 2 (by decide)]; exact d3
  · rw [eo 60 33 rfl (by omega) (by omega) (by omega), g 9 0 (by decide)]; exact p1
  · rw [g 9 0 (by decide)] at hj
    rw [eo 75 _ rfl (by omega) (by omega) (by omega), eo 75 _ rfl (by omega) (by omega) (by omega), eo 75 _ rfl (by omega) (by omega) (by omega), g 10 j (by decide), g 11 j (by decide), g 12 j (by decide)]
    exact p2 j hj
  · have u52 := eo 60 52 rfl (by omega) (by omega) (by omega)
    by_cases q : i = b
    · rw [q]
      obtain ⟨a1, a2, a3, a4, a5, a6⟩ := gKeep_at (G := G) hb
      simp only [a1, a2, a3, a4, a5, a6, e88, e89, u52, eR, eT, if_true]
      exact ⟨trivial, fun _ => ⟨Int.le_refl _, ⟨fun _ => ⟨trivial, trivial⟩, fun _ => trivial⟩, Int.le_refl _, Int.le_refl _, e10, e11, fun t ht => et t (by omega)⟩⟩
    · obtain ⟨a1, a2, a3, a4, a5, a6⟩ := gKeep_no (G := G) hb hi q
      obtain ⟨k1, k2⟩ := k i hi
      simp only [a1, a2, a3, a4, a5, a6, e88, e89, u52, eR, eT, if_neg q]
      refine ⟨k1, fun z => ?_⟩
      obtain ⟨j1, j2, j3, j4, j5, j6, j7⟩ := k2 z
      refine ⟨j1, j2, j3, j4, ?_, ?_, fun t ht => ?_⟩
      · rw [e87 _ (by omega)]; exact j5
      · rw [e87 _ (by omega)]; exact j6
      · rw [e87 _ (by omega)]; exact j7 t ht
theorem m_kp23 {b : Nat} (hb : b < 2) : ∀ (m t : Nat) (M : pM), t + m = 10 → ∃ M', xE D 266 23 [.inr 62, .inl (b : Int), .inl (t : Int)] [] M = rI 1 M' ∧ (∀ j, M' 87 j = if 12 * b + t ≤ j ∧ j < 12 * b + 10 then M 66 (j - 12 * b) else if j = 12 * b + 10 then M 60 10 else if j = 12 * b + 11 then M 60 11 else M 87 j) ∧ ∀ o i, o ≠ 87 → M' o i = M o i := by
  intro m
  induction m with
  | zero =>
    intro t M ht
    have e : t = 10 := by omega
    have n1 : (12 * (b : Int) + 10).toNat = 12 * b + 10 := by omega
    have n2 : (12 * (b : Int) + 10 + 1).toNat = 12 * b + 11 := by omega
    rw [L_M_keep_23, if_pos (by rw [le32_iff] <;> omega), if_pos (by omega), if_pos (by omega), n1, n2, pset_ne (show 60 ≠ 87 by decide)]
    refine ⟨_, rfl, fun j => ?_, fun o i ho => by rw [pset_ne ho, pset_ne ho]⟩
    rw [if_neg (by omega)]
    by_cases q : j = 12 * b + 10
    · rw [if_pos q, q, pset_ne2 (by omega), pset_eq]
    · rw [if_neg q]
      by_cases q2 : j = 12 * b + 11
      · rw [if_pos q2, q2, pset_eq]
      · rw [if_neg q2, pset_ne2 q2, pset_ne2 q]
  | succ m ih =>
    intro t M ht
    have n1 : (12 * (b : Int) + (t : Int)).toNat = 12 * b + t := by omega
    rw [L_M_keep_23, if_neg (by rw [le32_iff] <;> omega), if_pos (by omega), if_pos (by omega), n1, Int.toNat_natCast, show ((t : Int) + 1) = ((t + 1 : Nat) : Int) by omega]
    obtain ⟨M', e, r1, r2⟩ := ih (t + 1) (pset M 87 (12 * b + t) (M 66 t)) (by omega)
    refine ⟨M', e, fun j => ?_, fun o i ho => by rw [r2 o i ho, pset_ne ho]⟩
    rw [r1 j, pset_ne (show 66 ≠ 87 by decide), pset_ne (show 60 ≠ 87 by decide), pset_ne (show 60 ≠ 87 by decide)]
    by_cases q : j = 12 * b + t
    · rw [if_neg (by omega), if_neg (by omega), if_neg (by omega), q, pset_eq, if_pos (by omega), show 12 * b + t - 12 * b = t by omega]
    · rw [pset_ne2 q]
      by_cases q2 : 12 * b + (t + 1) ≤ j ∧ j < 12 * b + 10
      · rw [if_pos q2, if_pos (show 12 * b + t ≤ j ∧ j < 12 * b + 10 by omega)]
      · rw [if_neg q2, if_neg (show ¬ (12 * b + t ≤ j ∧ j < 12 * b + 10) by omega)]
theorem mg_keep (hd : 2 ≤ d) (W : WF G) (X : MG M G) {b : Int} (h1 : -2147483648 ≤ b) (h2 : b ≤ 2147483647) {v : Int} (ee : xF d 266 [.inr 62, .inl b] M = rI v M') : (0 ≤ b ∧ b ≤ 1 → MG M' (gKeep G b.toNat)) ∧ (¬ (0 ≤ b ∧ b ≤ 1) → MG M' G) := by
  obtain ⟨D, rfl, hD⟩ := dsucc hd
  have w2 := W.2.1
  have X1 := MG_thr X
  rw [T_M_keep, m_in (by omega), pbI_rI] at ee
  generalize pset M 60 17 0 = M1 at X1 ee
  by_cases q : lt32 b 0 ∨ lt32 1 b
  · rw [if_pos q, if_neg (fun z => z rfl)] at ee
    rw [lt32_iff (by omega) (by omega) (by omega) (by omega), lt32_iff (by omega) (by omega) (by omega) (by omega)] at q
    rw [← (rI_inj ee).2]
    exact ⟨fun z => by omega, fun _ => X1⟩
  · rw [if_neg q, if_pos (by decide)] at ee
    rw [lt32_iff (by omega) (by omega) (by omega) (by omega), lt32_iff (by omega) (by omega) (by omega) (by omega)] at q
    obtain ⟨x, rfl⟩ := natI (show 0 ≤ b by omega)
    obtain ⟨M2, e2, r1, r2⟩ := m_kp23 (D := D) (b := x) (by omega) 10 0 (pset (pset M1 88 x 1) 89 x (M1 60 52)) (by decide)
    have i0 : (0 : Int) ≤ (x : Int) ∧ (x : Int) < 2 := by omega
    rw [if_pos i0, if_pos i0, Int.toNat_natCast, pset_ne (show 60 ≠ 88 by decide), show (.inl 0 : pV) = .inl ((0 : Nat) : Int) from rfl, e2] at ee
    rw [← (rI_inj ee).2, Int.toNat_natCast]
    have o1 : ∀ o i, o ≠ 88 → o ≠ 89 → pset (pset M1 88 x 1) 89 x (M1 60 52) o i = M1 o i := fun o i a b => by rw [pset_ne b, pset_ne a]
    refine ⟨fun _ => MG_keep X1 (b := x) (by omega) (fun i => ?_) (fun i => ?_) (fun t ht => ?_) ?_ ?_ (fun j hj => ?_) w2 (fun o i hc a b c => ?_), fun z => by omega⟩
    · rw [r2 88 i (by decide), pset_ne (show 88 ≠ 89 by decide)]
      by_cases z : i = x
      · rw [z, pset_eq, if_pos rfl]
      · rw [pset_ne2 z, if_neg z]
    · rw [r2 89 i (by decide)]
      by_cases z : i = x
      · rw [z, pset_eq, if_pos rfl]
      · rw [pset_ne2 z, if_neg z, pset_ne (show 89 ≠ 88 by decide)]
    · rw [r1, if_pos (by omega), o1 66 _ (by decide) (by decide), show 12 * x + t - 12 * x = t by omega]
      exact (X1.1.2.2.2.2.2.1 t ht).2.2.2
    · rw [r1, if_neg (by omega), if_pos rfl, o1 60 10 (by decide) (by decide)]; exact X1.2.1.1
    · rw [r1, if_neg (by omega), if_neg (by omega), if_pos rfl, o1 60 11 (by decide) (by decide)]; exact X1.2.1.2.1
    · rw [r1, if_neg (by omega), if_neg (by omega), if_neg (by omega), o1 87 j (by decide) (by decide)]
    · rw [r2 o i a, o1 o i b c]
/-! again -/
theorem gAgain_ne {b o i : Nat} (h1 : o ≠ 6) (h2 : o ≠ 8) (h3 : o ≠ 9) : gAgain G b o i = G o i := by
  unfold gAgain
  rw [if_neg (fun z => h1 z.1), if_neg (fun z => h2 z.1), if_neg (fun z => h2 z.1), if_neg (fun z => h3 z.1)]
theorem XG_again (X : XG M G) {b : Nat} (e13 : ∀ t, t < hT G → M' 13 t = G (16 + b) t) (e15 : M' 0 15 = G 18 b) (e16 : M' 0 16 = G 19 b) (e39 : M' 39 3 = 0) (eo : ∀ o i, cx o i = true → o ≠ 13 → ¬ (o = 0 ∧ (i = 15 ∨ i = 16)) → ¬ (o = 39 ∧ i = 3) → M' o i = M o i) : XG M' (gAgain G b) := by
  obtain ⟨⟨x1, x2, x3, x4, x5, x6, x7⟩, ⟨d1, d2, d3⟩, ⟨p1, p2⟩, k⟩ := X
  have g : ∀ o j, o < 6 ∨ o = 7 ∨ 9 < o → gAgain G b o j = G o j := fun o j ho => gAgain_ne (by omega) (by omega) (by omega)
  have eT : hT (gAgain G b) = hT G := by unfold hT; rw [g 0 1 (by decide)]
  refine ⟨⟨by rw [eo 7 9 rfl (by omega) (by omega) (by omega)]; exact x1, by rw [eo 7 10 rfl (by omega) (by omega) (by omega)]; exact x2, by rw [eo 7 11 rfl (by omega) (by omega) (by omega)]; exact x3, fun r hr => by rw [eo 8 r rfl (by omega) (by omega) (by omega), g 1 r (by decide)]; exact x4 r hr, fun q hq => by rw [eo 9 q rfl (by omega) (by omega) (by omega), g 2 q (by decide)]; exact x5 q hq, fun t ht => ?_, fun s hs => ?_⟩, ⟨e15, e16, ?_⟩, ⟨e39, fun j hj => ?_⟩, fun i hi => ?_⟩
  · rw [eT] at ht
    obtain ⟨y1, y2, y3, y4⟩ := x6 t ht
    have e6 : gAgain G b 6 t = G (16 + b) t := if_pos ⟨rfl, ht⟩
    rw [eo 10 t rfl (by omega) (by omega) (by omega), eo 11 t rfl (by omega) (by omega) (by omega), eo 12 t rfl (by omega) (by omega) (by omega), e13 t ht, e6, g 3 t (by decide), g 4 t (by decide), g 5 t (by decide)]
    exact ⟨y1, y2, y3, rfl⟩
  · rw [eo 14 s rfl (by omega) (by omega) (by omega)]
    have : me (gAgain G b) s = me G s := by unfold me; rw [g 7 s (by decide)]
    rw [this]; exact x7 s hs
  · rw [eo 0 17 rfl (by omega) (by omega) (by omega)]; exact d3
  · have hj : (j : Int) < 0 := hj
    omega
  · have a : ∀ j, M' (44 + 2 * i) j = M (44 + 2 * i) j := fun j => by
      rcases (show i = 0 ∨ i = 1 by omega) with rfl | rfl
      · exact eo 44 j rfl (by omega) (by omega) (by omega)
      · exact eo 46 j rfl (by omega) (by omega) (by omega)
    have bb : ∀ j, M' (45 + 2 * i) j = M (45 + 2 * i) j := fun j => by
      rcases (show i = 0 ∨ i = 1 by omega) with rfl | rfl
      · exact eo 45 j rfl (by omega) (by omega) (by omega)
      · exact eo 47 j rfl (by omega) (by omega) (by omega)
    have g16 : ∀ j, gAgain G b (16 + i) j = G (16 + i) j := fun j => g _ j (by omega)
    simp only [a, bb, g16, g 13 i (by decide), g 14 i (by decide), g 15 i (by decide), g 18 i (by decide), g 19 i (by decide)]
    exact k i hi
theorem MG_again (X : MG M G) {b : Nat} (e66 : ∀ t, t < hT G → M' 66 t = G (16 + b) t) (e10 : M' 60 10 = G 18 b) (e11 : M' 60 11 = G 19 b) (e33 : M' 60 33 = 0) (eo : ∀ o i, cm o i = true → o ≠ 66 → ¬ (o = 60 ∧ (i = 10 ∨ i = 11 ∨ i = 33)) → M' o i = M o i) : MG M' (gAgain G b) := by
  obtain ⟨⟨x1, x2, x3, x4, x5, x6, x7⟩, ⟨d1, d2, d3⟩, ⟨p1, p2⟩, k⟩ := X
  have g : ∀ o j, o < 6 ∨ o = 7 ∨ 9 < o → gAgain G b o j = G o j := fun o j ho => gAgain_ne (by omega) (by omega) (by omega)
  have eR : hR (gAgain G b) = hR G := by unfold hR; rw [g 0 0 (by decide)]
  have eT : hT (gAgain G b) = hT G := by unfold hT; rw [g 0 1 (by decide)]
  have eS : hS (gAgain G b) = hS G := by unfold hS; rw [g 0 2 (by decide)]
  refine ⟨⟨by rw [eo 60 0 rfl (by omega) (by omega), eR]; exact x1, by rw [eo 60 3 rfl (by omega) (by omega), eT]; exact x2, by rw [eo 60 8 rfl (by omega) (by omega), eS]; exact x3, fun r hr => ?_, fun q hq => ?_, fun t ht => ?_, fun s hs => ?_⟩, ⟨e10, e11, ?_⟩, ⟨e33, fun j hj => ?_⟩, fun i hi => ?_⟩
  · rw [eR] at hr
    rw [eo 61 r rfl (by omega) (by omega), g 1 r (by decide)]; exact x4 r hr
  · rw [eo 62 q rfl (by omega) (by omega), g 2 q (by decide)]; exact x5 q hq
  · rw [eT] at ht
    obtain ⟨y1, y2, y3, y4⟩ := x6 t ht
    have e6 : gAgain G b 6 t = G (16 + b) t := if_pos ⟨rfl, ht⟩
    rw [eo 63 t rfl (by omega) (by omega), eo 64 t rfl (by omega) (by omega), eo 65 t rfl (by omega) (by omega), e66 t ht, e6, g 3 t (by decide), g 4 t (by decide), g 5 t (by decide)]
    exact ⟨y1, y2, y3, rfl⟩
  · rw [eS] at hs
    rw [eo 67 s rfl (by omega) (by omega)]
    have : me (gAgain G b) s = me G s := by unfold me; rw [g 7 s (by decide)]
    rw [this]; exact x7 s hs
  · rw [eo 60 12 rfl (by omega) (by omega)]; exact d3
  · have hj : (j : Int) < 0 := hj
    omega
  · have a : ∀ j, M' 87 j = M 87 j := fun j => eo 87 j rfl (by omega) (by omega)
    have bb : ∀ j, M' 88 j = M 88 j := fun j => eo 88 j rfl (by omega) (by omega)
    have cc : ∀ j, M' 89 j = M 89 j := fun j => eo 89 j rfl (by omega) (by omega)
    have g16 : ∀ j, gAgain G b (16 + i) j = G (16 + i) j := fun j => g _ j (by omega)
    simp only [a, bb, cc, eo 60 52 rfl (by omega) (by omega), g16, g 13 i (by decide), g 14 i (by decide), g 15 i (by decide), g 18 i (by decide), g 19 i (by decide), eR, eT]
    exact k i hi
theorem m_ag24 {b : Nat} (hb : b < 2) {T : Nat} (hT : T ≤ 10) : ∀ (m t : Nat) (M : pM), t + m = T → M 60 3 = (T : Int) → ∃ M', xE D 267 24 [.inr 62, .inl (b : Int), .inl (t : Int)] [] M = rI 1 M' ∧ (∀ j, j < T → M' 66 j = if t ≤ j then M 87 (12 * b + j) else M 66 j) ∧ M' 60 10 = M 87 (12 * b + 10) ∧ M' 60 11 = M 87 (12 * b + 11) ∧ M' 60 33 = 0 ∧ ∀ o i, o ≠ 66 → ¬ (o = 60 ∧ (i = 10 ∨ i = 11 ∨ i = 33)) → M' o i = M o i := by
  intro m
  induction m with
  | zero =>
    intro t M ht h3
    have n1 : (12 * (b : Int) + 10).toNat = 12 * b + 10 := by omega
    have n2 : (12 * (b : Int) + 10 + 1).toNat = 12 * b + 11 := by omega
    rw [L_M_again_24, h3, if_pos (by rw [le32_iff] <;> omega), if_pos (by omega), if_pos (by omega), n1, n2, pset_ne (show 87 ≠ 60 by decide)]
    refine ⟨_, rfl, fun j hj => ?_, ?_, ?_, pset_eq, fun o i a b => ?_⟩
    · rw [if_neg (by omega), pset_ne (by decide), pset_ne (by decide), pset_ne (by decide)]
    · rw [pset_ne2 (by decide), pset_ne2 (by decide), pset_eq]
    · rw [pset_ne2 (by decide), pset_eq]
    · unfold pset
      rw [if_neg (fun z => b ⟨z.1, by omega⟩), if_neg (fun z => b ⟨z.1, by omega⟩), if_neg (fun z => b ⟨z.1, by omega⟩)]
  | succ m ih =>
    intro t M ht h3
    have n1 : (12 * (b : Int) + (t : Int)).toNat = 12 * b + t := by omega
    rw [L_M_again_24, h3, if_neg (by rw [le32_iff] <;> omega), if_pos (by omega), if_pos (by omega), n1, Int.toNat_natCast, show ((t : Int) + 1) = ((t + 1 : Nat) : Int) by omega]
    obtain ⟨M', e, r1, r2, r3, r4, r5⟩ := ih (t + 1) (pset M 66 t (M 87 (12 * b + t))) (by omega) (by rw [pset_ne (by decide)]; exact h3)
    refine ⟨M', e, fun j hj => ?_, by rw [r2, pset_ne (by decide)], by rw [r3, pset_ne (by decide)], r4, fun o i a b => by rw [r5 o i a b, pset_ne a]⟩
    rw [r1 j hj, pset_ne (show 87 ≠ 66 by decide)]
    by_cases q : j = t
    · rw [q, if_neg (by omega), pset_eq, if_pos (Nat.le_refl t)]
    · rw [pset_ne2 q]
      by_cases q2 : t + 1 ≤ j
      · rw [if_pos q2, if_pos (by omega)]
      · rw [if_neg q2, if_neg (by omega)]
theorem mg_again (hd : 2 ≤ d) (W : WF G) (R0 : RI0 M) (X : MG M G) (hk : ∀ i, i < 2 → 0 ≤ G 13 i ∧ G 13 i ≤ 1) {b : Int} (h1 : -2147483648 ≤ b) (h2 : b ≤ 2147483647) {v : Int} (ee : xF d 267 [.inr 62, .inl b] M = rI v M') : (agC G b → v = 1 ∧ MG M' (gAgain G b.toNat)) ∧ (¬ agC G b → v = 0 ∧ MG M' G) := by
  obtain ⟨D, rfl, hD⟩ := dsucc hd
  have w2 := W.2.1
  have w1 := W.1
  have X1 := MG_thr X
  have R1 := RI0_thr R0
  have r0 := gm_i R1.1 60 0 (lo := 0) (hi := 6) (by decide +kernel) (by decide +kernel)
  have t0 := gm_i R1.1 60 3 (lo := 0) (hi := 10) (by decide +kernel) (by decide +kernel)
  rw [T_M_again, m_in (by omega), pbI_rI] at ee
  generalize pset M 60 17 0 = M1 at X1 R1 ee r0 t0
  have no : ¬ agC G b → rI 0 M1 = rI v M' → (agC G b → v = 1 ∧ MG M' (gAgain G b.toNat)) ∧ (¬ agC G b → v = 0 ∧ MG M' G) := fun n z => ⟨fun y => absurd y n, fun _ => by
    obtain ⟨z1, z2⟩ := rI_inj z
    rw [← z1, ← z2]; exact ⟨rfl, X1⟩⟩
  by_cases q : lt32 b 0 ∨ lt32 1 b
  · rw [if_pos q, if_pos rfl] at ee
    rw [lt32_iff (by omega) (by omega) (by omega) (by omega), lt32_iff (by omega) (by omega) (by omega) (by omega)] at q
    exact no (fun z => by have := z.1; omega) ee
  · rw [if_neg q, if_neg (by decide)] at ee
    rw [lt32_iff (by omega) (by omega) (by omega) (by omega), lt32_iff (by omega) (by omega) (by omega) (by omega)] at q
    obtain ⟨x, rfl⟩ := natI (show 0 ≤ b by omega)
    have hx : x < 2 := by omega
    have i0 : (0 : Int) ≤ (x : Int) ∧ (x : Int) < 2 := by omega
    obtain ⟨k1, k2⟩ := X1.2.2.2 x hx
    have k3 := hk x hx
    rw [if_pos i0, Int.toNat_natCast, k1] at ee
    by_cases q2 : G 13 x = 0
    · rw [if_pos (by rw [q2])] at ee
      exact no (fun z => z.2.1 q2) ee
    · obtain ⟨j1, j2, j3, j4, j5, j6, j7⟩ := k2 q2
      have u := R1.2.2.2.2.1
      have u2 := R1.2.2.2.2.2.1
      obtain ⟨u3, u4, -⟩ := R1.2.2.2.2.2.2 x hx (by rw [k1]; exact q2)
      rw [if_neg (by rw [eq32_iff] <;> omega), if_pos i0] at ee
      by_cases q3 : M1 89 x = M1 60 52
      · obtain ⟨c1, c2⟩ := j2.mp q3
        obtain ⟨M2, e2, r1, r2, r3, r4, r5⟩ := m_ag24 (D := D) (b := x) hx w2 (hT G) 0 M1 (by omega) X1.1.2.1
        rw [if_pos (by rw [q3]), show (.inl 0 : pV) = .inl ((0 : Nat) : Int) from rfl, e2] at ee
        obtain ⟨z1, z2⟩ := rI_inj ee
        rw [← z1, ← z2]
        refine ⟨fun _ => ⟨rfl, ?_⟩, fun z => absurd ⟨⟨by omega, by omega⟩, q2, c1, c2⟩ z⟩
        rw [Int.toNat_natCast]
        refine MG_again X1 (fun t ht => ?_) (by rw [r2]; exact j5) (by rw [r3]; exact j6) r4 (fun o i _ a b => r5 o i a b)
        rw [r1 t ht, if_pos (Nat.zero_le t)]
        exact j7 t (by omega)
      · rw [if_neg (by rw [eq32_iff] <;> omega)] at ee
        exact no (fun z => q3 (j2.mpr ⟨z.2.2.1, z.2.2.2⟩)) ee
/-! the class keeps, and is again -/
theorem x_store0 (hd : 2 ≤ d) (W : WF G) (X : XG M G) : ∃ M', xF d 125 [.inr 46, .inr 9, .inl (M 0 15), .inl (M 0 16)] M = rV M' ∧ XG M' (gKeep G 0) := by
  obtain ⟨D, rfl, hD⟩ := dsucc hd
  have w2 := W.2.1
  rw [T_Kept_store_44, c_copy_13_45 (by omega), pbN_rV]
  have c7 : ∀ i, pcp M 13 45 10 7 i = M 7 i := fun i => pcp_ne (by decide)
  simp only [pset_ne (show 7 ≠ 44 by decide), c7, X.1.1, X.1.2.1]
  refine ⟨_, rfl, XG_keep X (b := 0) (by decide) ?_ ?_ ?_ ?_ (pset_eq.trans X.2.1.2.1) (fun t ht => ?_) (fun o i hc a c => ?_)⟩
  · show pset _ 44 5 _ 44 1 = 1
    rw [pset_ne2 (by decide), pset_ne2 (by decide), pset_ne2 (by decide), pset_ne2 (by decide), pset_eq]
  · show pset _ 44 5 _ 44 2 = _
    rw [pset_ne2 (by decide), pset_ne2 (by decide), pset_ne2 (by decide), pset_eq]
  · show pset _ 44 5 _ 44 3 = _
    rw [pset_ne2 (by decide), pset_ne2 (by decide), pset_eq]
  · show pset _ 44 5 _ 44 4 = _
    rw [pset_ne2 (by decide), pset_eq]; exact X.2.1.1
  · show pset _ 44 5 _ 45 t = _
    rw [pset_ne (by decide), pset_ne (by decide), pset_ne (by decide), pset_ne (by decide), pset_ne (by decide), pcp_eq (by omega)]
    exact (X.1.2.2.2.2.2.1 t ht).2.2.2
  · have a : o ≠ 44 := a
    have c : o ≠ 45 := c
    rw [pset_ne a, pset_ne a, pset_ne a, pset_ne a, pset_ne a, pcp_ne c]
theorem x_aga0 (hd : 2 ≤ d) (W : WF G) (hM : gM gAll M) (X : XG M G) {v : Int} (ee : xE d 44 3 [.inr 2, .inl 0, .inr 0] [.inr 46] M = rI v M') : (agC G 0 → v = 1 ∧ XG M' (gAgain G 0)) ∧ (¬ agC G 0 → v = 0 ∧ XG M' G) := by
  obtain ⟨D, rfl, hD⟩ := dsucc hd
  have w1 := W.1
  have w2 := W.2.1
  have b1 := gm_i hM 44 1 (lo := 0) (hi := 1) (by decide +kernel) (by decide +kernel)
  have b2 := gm_i hM 44 2 (lo := 0) (hi := 6) (by decide +kernel) (by decide +kernel)
  have b3 := gm_i hM 44 3 (lo := 0) (hi := 10) (by decide +kernel) (by decide +kernel)
  obtain ⟨k1, k2⟩ := X.2.2.2 0 (by decide)
  have k1 : M 44 1 = G 13 0 := k1
  have no : ¬ agC G 0 → rI 0 M = rI v M' → (agC G 0 → v = 1 ∧ XG M' (gAgain G 0)) ∧ (¬ agC G 0 → v = 0 ∧ XG M' G) := fun n z => ⟨fun y => absurd y n, fun _ => by
    obtain ⟨z1, z2⟩ := rI_inj z
    rw [← z1, ← z2]; exact ⟨rfl, X⟩⟩
  rw [L_X_again_44_3, T_Kept_suits_44] at ee
  by_cases q : M 44 1 = 0
  · rw [if_pos (by rw [q]), pbI_rI, if_neg (fun z => z rfl)] at ee
    exact no (fun z => z.2.1 (k1 ▸ q)) ee
  · obtain ⟨j1, j2, j3, j4, j5⟩ := k2 (k1 ▸ q)
    have j1 : M 44 2 = G 14 0 := j1
    have j2 : M 44 3 = G 15 0 := j2
    have j3 : M 44 4 = G 18 0 := j3
    have j4 : M 44 5 = G 19 0 := j4
    have j5 : ∀ t : Nat, (t : Int) < G 15 0 → M 45 t = G (16 + 0) t := j5
    rw [if_neg (by rw [eq32_iff] <;> omega), X.1.1, X.1.2.1] at ee
    by_cases q2 : M 44 2 = (hR G : Int)
    · rw [if_neg (fun z => z (by rw [q2]))] at ee
      by_cases q3 : M 44 3 = (hT G : Int)
      · obtain ⟨D', rfl, -⟩ := dsucc (show 1 ≤ D by omega)
        rw [if_neg (fun z => z (by rw [q3])), pbI_rI, if_pos (by decide), c_copy_45_13 (by omega), pbN_rV, T_Past_forget, pbN_rV] at ee
        obtain ⟨z1, z2⟩ := rI_inj ee
        rw [← z1, ← z2]
        refine ⟨fun _ => ⟨rfl, XG_again X (fun t ht => ?_) ?_ ?_ pset_eq (fun o i hc a c e => ?_)⟩, fun z => absurd ⟨by decide, fun y => q (k1.trans y), j1.symm.trans q2, j2.symm.trans q3⟩ z⟩
        · rw [pset_ne (by decide), pset_ne (by decide), pset_ne (by decide), pcp_eq (by omega)]
          exact j5 t (by omega)
        · rw [pset_ne (by decide), pset_ne2 (by decide), pset_eq, pcp_ne (by decide)]; exact j3
        · rw [pset_ne (by decide), pset_eq, pset_ne (show 44 ≠ 0 by decide), pcp_ne (by decide)]; exact j4
        · have : ∀ (N : pM) (x y z : Int), pset (pset (pset N 0 15 x) 0 16 y) 39 3 z o i = N o i := fun N x y z => by
            unfold pset
            rw [if_neg (fun z => e z), if_neg (fun z => c ⟨z.1, Or.inr z.2⟩), if_neg (fun z => c ⟨z.1, Or.inl z.2⟩)]
          rw [this, pcp_ne a]
      · rw [if_pos (by rw [eq32_iff] <;> omega), pbI_rI, if_neg (fun z => z rfl)] at ee
        exact no (fun z => q3 (by rw [j2]; exact z.2.2.2)) ee
    · rw [if_pos (by rw [eq32_iff] <;> omega), pbI_rI, if_neg (fun z => z rfl)] at ee
      exact no (fun z => q2 (by rw [j1]; exact z.2.2.1)) ee
theorem x_store1 (hd : 2 ≤ d) (W : WF G) (X : XG M G) : ∃ M', xF d 125 [.inr 48, .inr 9, .inl (M 0 15), .inl (M 0 16)] M = rV M' ∧ XG M' (gKeep G 1) := by
  obtain ⟨D, rfl, hD⟩ := dsucc hd
  have w2 := W.2.1
  rw [T_Kept_store_46, c_copy_13_47 (by omega), pbN_rV]
  have c7 : ∀ i, pcp M 13 47 10 7 i = M 7 i := fun i => pcp_ne (by decide)
  simp only [pset_ne (show 7 ≠ 46 by decide), c7, X.1.1, X.1.2.1]
  refine ⟨_, rfl, XG_keep X (b := 1) (by decide) ?_ ?_ ?_ ?_ (pset_eq.trans X.2.1.2.1) (fun t ht => ?_) (fun o i hc a c => ?_)⟩
  · show pset _ 46 5 _ 46 1 = 1
    rw [pset_ne2 (by decide), pset_ne2 (by decide), pset_ne2 (by decide), pset_ne2 (by decide), pset_eq]
  · show pset _ 46 5 _ 46 2 = _
    rw [pset_ne2 (by decide), pset_ne2 (by decide), pset_ne2 (by decide), pset_eq]
  · show pset _ 46 5 _ 46 3 = _
    rw [pset_ne2 (by decide), pset_ne2 (by decide), pset_eq]
  · show pset _ 46 5 _ 46 4 = _
    rw [pset_ne2 (by decide), pset_eq]; exact X.2.1.1
  · show pset _ 46 5 _ 47 t = _
    rw [pset_ne (by decide), pset_ne (by decide), pset_ne (by decide), pset_ne (by decide), pset_ne (by decide), pcp_eq (by omega)]
    exact (X.1.2.2.2.2.2.1 t ht).2.2.2
  · have a : o ≠ 46 := a
    have c : o ≠ 47 := c
    rw [pset_ne a, pset_ne a, pset_ne a, pset_ne a, pset_ne a, pcp_ne c]
theorem x_aga1 (hd : 2 ≤ d) (W : WF G) (hM : gM gAll M) (X : XG M G) {v : Int} (ee : xE d 44 3 [.inr 2, .inl 1, .inr 0] [.inr 48] M = rI v M') : (agC G 1 → v = 1 ∧ XG M' (gAgain G 1)) ∧ (¬ agC G 1 → v = 0 ∧ XG M' G) := by
  obtain ⟨D, rfl, hD⟩ := dsucc hd
  have w1 := W.1
  have w2 := W.2.1
  have b1 := gm_i hM 46 1 (lo := 0) (hi := 1) (by decide +kernel) (by decide +kernel)
  have b2 := gm_i hM 46 2 (lo := 0) (hi := 6) (by decide +kernel) (by decide +kernel)
  have b3 := gm_i hM 46 3 (lo := 0) (hi := 10) (by decide +kernel) (by decide +kernel)
  obtain ⟨k1, k2⟩ := X.2.2.2 1 (by decide)
  have k1 : M 46 1 = G 13 1 := k1
  have no : ¬ agC G 1 → rI 0 M = rI v M' → (agC G 1 → v = 1 ∧ XG M' (gAgain G 1)) ∧ (¬ agC G 1 → v = 0 ∧ XG M' G) := fun n z => ⟨fun y => absurd y n, fun _ => by
    obtain ⟨z1, z2⟩ := rI_inj z
    rw [← z1, ← z2]; exact ⟨rfl, X⟩⟩
  rw [L_X_again_46_3, T_Kept_suits_46] at ee
  by_cases q : M 46 1 = 0
  · rw [if_pos (by rw [q]), pbI_rI, if_neg (fun z => z rfl)] at ee
    exact no (fun z => z.2.1 (k1 ▸ q)) ee
  · obtain ⟨j1, j2, j3, j4, j5⟩ := k2 (k1 ▸ q)
    have j1 : M 46 2 = G 14 1 := j1
    have j2 : M 46 3 = G 15 1 := j2
    have j3 : M 46 4 = G 18 1 := j3
    have j4 : M 46 5 = G 19 1 := j4
    have j5 : ∀ t : Nat, (t : Int) < G 15 1 → M 47 t = G (16 + 1) t := j5
    rw [if_neg (by rw [eq32_iff] <;> omega), X.1.1, X.1.2.1] at ee
    by_cases q2 : M 46 2 = (hR G : Int)
    · rw [if_neg (fun z => z (by rw [q2]))] at ee
      by_cases q3 : M 46 3 = (hT G : Int)
      · obtain ⟨D', rfl, -⟩ := dsucc (show 1 ≤ D by omega)
        rw [if_neg (fun z => z (by rw [q3])), pbI_rI, if_pos (by decide), c_copy_47_13 (by omega), pbN_rV, T_Past_forget, pbN_rV] at ee
        obtain ⟨z1, z2⟩ := rI_inj ee
        rw [← z1, ← z2]
        refine ⟨fun _ => ⟨rfl, XG_again X (fun t ht => ?_) ?_ ?_ pset_eq (fun o i hc a c e => ?_)⟩, fun z => absurd ⟨by decide, fun y => q (k1.trans y), j1.symm.trans q2, j2.symm.trans q3⟩ z⟩
        · rw [pset_ne (by decide), pset_ne (by decide), pset_ne (by decide), pcp_eq (by omega)]
          exact j5 t (by omega)
        · rw [pset_ne (by decide), pset_ne2 (by decide), pset_eq, pcp_ne (by decide)]; exact j3
        · rw [pset_ne (by decide), pset_eq, pset_ne (show 46 ≠ 0 by decide), pcp_ne (by decide)]; exact j4
        · have : ∀ (N : pM) (x y z : Int), pset (pset (pset N 0 15 x) 0 16 y) 39 3 z o i = N o i := fun N x y z => by
            unfold pset
            rw [if_neg (fun z => e z), if_neg (fun z => c ⟨z.1, Or.inr z.2⟩), if_neg (fun z => c ⟨z.1, Or.inl z.2⟩)]
          rw [this, pcp_ne a]
      · rw [if_pos (by rw [eq32_iff] <;> omega), pbI_rI, if_neg (fun z => z rfl)] at ee
        exact no (fun z => q3 (by rw [j2]; exact z.2.2.2)) ee
    · rw [if_pos (by rw [eq32_iff] <;> omega), pbI_rI, if_neg (fun z => z rfl)] at ee
      exact no (fun z => q2 (by rw [j1]; exact z.2.2.1)) ee
theorem xg_keep (hd : 4 ≤ d) (W : WF G) (X : XG M G) {b v : Int} (h1 : -2147483648 ≤ b) (h2 : b ≤ 2147483647) (ee : xF d 43 [.inr 2, .inl b] M = rI v M') : (0 ≤ b ∧ b ≤ 1 → XG M' (gKeep G b.toNat)) ∧ (¬ (0 ≤ b ∧ b ≤ 1) → XG M' G) := by
  obtain ⟨D, rfl, hD⟩ := dsucc hd
  obtain ⟨D', rfl, hD'⟩ := dsucc (show 1 ≤ D by omega)
  rw [T_X_keep, T_X_keptAt] at ee
  have no : pbR (some (some (.inr 1), M) : Option pR) (fun k2 M1 => xE (D' + 1) 43 3 [.inr 2, .inl b, .inr 0] [.inr (k2 + 1)] M1) = rI 0 M := L_X_keep_n_3 (D' + 1) b M
  have fin : rI 0 M = rI v M' → ¬ (0 ≤ b ∧ b ≤ 1) → (0 ≤ b ∧ b ≤ 1 → XG M' (gKeep G b.toNat)) ∧ (¬ (0 ≤ b ∧ b ≤ 1) → XG M' G) := fun z n => ⟨fun y => absurd y n, fun _ => by rw [← (rI_inj z).2]; exact X⟩
  by_cases q : b < 0
  · rw [if_pos (by rw [lt32_iff] <;> omega), no] at ee
    exact fin ee (by omega)
  · rw [if_neg (by rw [lt32_iff] <;> omega)] at ee
    by_cases q2 : 2 ≤ b
    · rw [if_pos (by rw [le32_iff] <;> omega), no] at ee
      exact fin ee (by omega)
    · rw [if_neg (by rw [le32_iff] <;> omega), if_pos (by omega)] at ee
      have hb : b = 0 ∨ b = 1 := by omega
      rcases hb with rfl | rfl
      · have e2 : xE (D' + 1) 43 3 [.inr 2, .inl 0, .inr 0] [.inr 46] M = rI v M' := ee
        obtain ⟨M1, e3, X1⟩ := x_store0 (d := D' + 1) (by omega) W X
        rw [L_X_keep_44_3, e3, pbN_rV] at e2
        rw [← (rI_inj e2).2]
        exact ⟨fun _ => X1, fun z => absurd (by decide) z⟩
      · have e2 : xE (D' + 1) 43 3 [.inr 2, .inl 1, .inr 0] [.inr 48] M = rI v M' := ee
        obtain ⟨M1, e3, X1⟩ := x_store1 (d := D' + 1) (by omega) W X
        rw [L_X_keep_46_3, e3, pbN_rV] at e2
        rw [← (rI_inj e2).2]
        exact ⟨fun _ => X1, fun z => absurd (by decide) z⟩
theorem xg_again (hd : 4 ≤ d) (W : WF G) (hM : gM gAll M) (X : XG M G) {b v : Int} (h1 : -2147483648 ≤ b) (h2 : b ≤ 2147483647) (ee : xF d 44 [.inr 2, .inl b] M = rI v M') : (agC G b → v = 1 ∧ XG M' (gAgain G b.toNat)) ∧ (¬ agC G b → v = 0 ∧ XG M' G) := by
  obtain ⟨D, rfl, hD⟩ := dsucc hd
  obtain ⟨D', rfl, hD'⟩ := dsucc (show 1 ≤ D by omega)
  rw [T_X_again, T_X_keptAt] at ee
  have no : pbR (some (some (.inr 1), M) : Option pR) (fun k2 M1 => xE (D' + 1) 44 3 [.inr 2, .inl b, .inr 0] [.inr (k2 + 1)] M1) = rI 0 M := L_X_again_n_3 (D' + 1) b M
  have fin : rI 0 M = rI v M' → ¬ (0 ≤ b ∧ b ≤ 1) → (agC G b → v = 1 ∧ XG M' (gAgain G b.toNat)) ∧ (¬ agC G b → v = 0 ∧ XG M' G) := fun z n => ⟨fun y => absurd y.1 n, fun _ => by
    obtain ⟨z1, z2⟩ := rI_inj z
    rw [← z1, ← z2]; exact ⟨rfl, X⟩⟩
  by_cases q : b < 0
  · rw [if_pos (by rw [lt32_iff] <;> omega), no] at ee
    exact fin ee (by omega)
  · rw [if_neg (by rw [lt32_iff] <;> omega)] at ee
    by_cases q2 : 2 ≤ b
    · rw [if_pos (by rw [le32_iff] <;> omega), no] at ee
      exact fin ee (by omega)
    · rw [if_neg (by rw [le32_iff] <;> omega), if_pos (by omega)] at ee
      have hb : b = 0 ∨ b = 1 := by omega
      rcases hb with rfl | rfl
      · exact x_aga0 (d := D' + 1) (by omega) W hM X ee
      · exact x_aga1 (d := D' + 1) (by omega) W hM X ee
end COK
end
section
/-! house: what both sides hold then -/
noncomputable def gNew (tx : Nat → Int) (L : Nat) (G : pM) : pM := fun o i => if o < 8 then hsH tx L G o i else if o = 9 ∧ i = 0 then 0 else G o i
section COH
variable {tx : Nat → Int} {d L : Nat} {M M' G h h' : pM}
theorem XH_cg (e : ∀ o i, o < 8 → h' o i = h o i) (X : XH M h) : XH M h' := by
  obtain ⟨x1, x2, x3, x4, x5, x6, x7⟩ := X
  have eR : hR h' = hR h := by unfold hR; rw [e 0 0 (by decide)]
  have eT : hT h' = hT h := by unfold hT; rw [e 0 1 (by decide)]
  have eS : hS h' = hS h := by unfold hS; rw [e 0 2 (by decide)]
  refine ⟨by rw [eR]; exact x1, by rw [eT]; exact x2, by rw [eS]; exact x3, fun r hr => ?_, fun p hp => ?_, fun t ht => ?_, fun s hs => ?_⟩
  · rw [eR] at hr; rw [e 1 r (by decide)]; exact x4 r hr
  · rw [e 2 p (by decide)]; exact x5 p hp
  · rw [eT] at ht; rw [e 3 t (by decide), e 4 t (by decide), e 5 t (by decide), e 6 t (by decide)]; exact x6 t ht
  · rw [eS] at hs
    have : me h' s = me h s := by unfold me; rw [e 7 s (by decide)]
    rw [this]; exact x7 s hs
theorem MH_cg (e : ∀ o i, o < 8 → h' o i = h o i) (X : MH M h) : MH M h' := by
  obtain ⟨x1, x2, x3, x4, x5, x6, x7⟩ := X
  have eR : hR h' = hR h := by unfold hR; rw [e 0 0 (by decide)]
  have eT : hT h' = hT h := by unfold hT; rw [e 0 1 (by decide)]
  have eS : hS h' = hS h := by unfold hS; rw [e 0 2 (by decide)]
  refine ⟨by rw [eR]; exact x1, by rw [eT]; exact x2, by rw [eS]; exact x3, fun r hr => ?_, fun p hp => ?_, fun t ht => ?_, fun s hs => ?_⟩
  · rw [eR] at hr; rw [e 1 r (by decide)]; exact x4 r hr
  · rw [e 2 p (by decide)]; exact x5 p hp
  · rw [eT] at ht; rw [e 3 t (by decide), e 4 t (by decide), e 5 t (by decide), e 6 t (by decide)]; exact x6 t ht
  · rw [eS] at hs
    have : me h' s = me h s := by unfold me; rw [e 7 s (by decide)]
    rw [this]; exact x7 s hs
theorem gNew_lo {o i : Nat} (ho : o < 8) : gNew tx L G o i = hsH tx L G o i := if_pos ho
theorem gNew_hi {o i : Nat} (ho : 8 ≤ o) (h9 : o ≠ 9) : gNew tx L G o i = G o i := by
  unfold gNew
  rw [if_neg (by omega), if_neg (fun z => h9 z.1)]
theorem gNew_9 : gNew tx L G 9 0 = 0 := by
  unfold gNew
  rw [if_neg (by decide), if_pos ⟨rfl, rfl⟩]
theorem hsH_no (n : ¬ hsN tx L h) : hsH tx L h = h := by
  by_cases q : L = 0
  · exact if_pos q
  · have u : hsH tx L h = match phE L (phS tx (min L 76) 78 0 h 0).1 with
      | .inl _ => h
      | .inr _ => (phS tx (min L 76) 78 0 h 0).2.1 := if_neg q
    cases e : phE L (phS tx (min L 76) 78 0 h 0).1 with
    | inl p => rw [u, e]
    | inr b => exact absurd ⟨q, b, e⟩ n
theorem xg_house (hd : 10 ≤ d) (W : WF G) (hM : gM gAll M) (X : XG M G) (h1 : M 1 1 = (L : Int)) (ht : ∀ i, i < 80 → M 2 i = ux (tx i)) (hx : ∀ i, i < 80 → -128 ≤ tx i ∧ tx i ≤ 127) {v : Int} (e : xF d 2 [.inr 2] M = rI v M') (eo : ∀ o i, cx o i = true → ¬ (7 ≤ o ∧ o ≤ 14) → ¬ (o = 39 ∧ i = 3) → M' o i = M o i) : v = hsA tx L G ∧ (hsN tx L G → XG M' (gNew tx L G)) ∧ (¬ hsN tx L G → XG M' G) := by
  obtain ⟨z1, z2, z3, z4⟩ := x_house hd hM X.1 ⟨W.1, W.2.1, W.2.2.1⟩ h1 ht hx e
  refine ⟨z1, fun n => ?_, fun n => ?_⟩
  · obtain ⟨-, ⟨d1, d2, d3⟩, ⟨p1, p2⟩, k⟩ := X
    refine ⟨XH_cg (fun o i ho => gNew_lo ho) z2, ⟨?_, ?_, ?_⟩, ⟨by rw [gNew_9]; exact z3 n, fun j hj => ?_⟩, fun i hi => ?_⟩
    · rw [eo 0 15 rfl (by omega) (by omega), gNew_hi (by decide) (by decide)]; exact d1
    · rw [eo 0 16 rfl (by omega) (by omega), gNew_hi (by decide) (by decide)]; exact d2
    · rw [eo 0 17 rfl (by omega) (by omega), gNew_hi (by decide) (by decide)]; exact d3
    · rw [gNew_9] at hj; omega
    · have a : ∀ j, M' (44 + 2 * i) j = M (44 + 2 * i) j := fun j => by
        rcases (show i = 0 ∨ i = 1 by omega) with rfl | rfl
        · exact eo 44 j rfl (by omega) (by omega)
        · exact eo 46 j rfl (by omega) (by omega)
      have bb : ∀ j, M' (45 + 2 * i) j = M (45 + 2 * i) j := fun j => by
        rcases (show i = 0 ∨ i = 1 by omega) with rfl | rfl
        · exact eo 45 j rfl (by omega) (by omega)
        · exact eo 47 j rfl (by omega) (by omega)
      have g16 : ∀ j, gNew tx L G (16 + i) j = G (16 + i) j := fun j => gNew_hi (by omega) (by omega)
      simp only [a, bb, g16, gNew_hi (tx := tx) (L := L) (show 8 ≤ 13 by decide) (show 13 ≠ 9 by decide), gNew_hi (tx := tx) (L := L) (show 8 ≤ 14 by decide) (show 14 ≠ 9 by decide), gNew_hi (tx := tx) (L := L) (show 8 ≤ 15 by decide) (show 15 ≠ 9 by decide), gNew_hi (tx := tx) (L := L) (show 8 ≤ 18 by decide) (show 18 ≠ 9 by decide), gNew_hi (tx := tx) (L := L) (show 8 ≤ 19 by decide) (show 19 ≠ 9 by decide)]
      exact k i hi
  · rw [hsH_no n] at z2
    obtain ⟨-, ⟨d1, d2, d3⟩, ⟨p1, p2⟩, k⟩ := X
    refine ⟨z2, ⟨?_, ?_, ?_⟩, ⟨by rw [z4 n]; exact p1, fun j hj => ?_⟩, fun i hi => ?_⟩
    · rw [eo 0 15 rfl (by omega) (by omega)]; exact d1
    · rw [eo 0 16 rfl (by omega) (by omega)]; exact d2
    · rw [eo 0 17 rfl (by omega) (by omega)]; exact d3
    · rw [eo 40 j rfl (by omega) (by omega), eo 41 j rfl (by omega) (by omega), eo 42 j rfl (by omega) (by omega)]; exact p2 j hj
    · have a : ∀ j, M' (44 + 2 * i) j = M (44 + 2 * i) j := fun j => by
        rcases (show i = 0 ∨ i = 1 by omega) with rfl | rfl
        · exact eo 44 j rfl (by omega) (by omega)
        · exact eo 46 j rfl (by omega) (by omega)
      have bb : ∀ j, M' (45 + 2 * i) j = M (45 + 2 * i) j := fun j => by
        rcases (show i = 0 ∨ i = 1 by omega) with rfl | rfl
        · exact eo 45 j rfl (by omega) (by omega)
        · exact eo 47 j rfl (by omega) (by omega)
      simp only [a, bb]
      exact k i hi
theorem mg_house (hd : 8 ≤ d) (W : WF G) (hM : gM gAll M) (X : MG M G) (h14 : M 60 14 = (L : Int)) (ht : ∀ i, i < 80 → M 68 i = tx i) {v : Int} (e : xF d 184 [.inr 62] M = rI v M') : v = hsA tx L G ∧ (hsN tx L G → MG M' (gNew tx L G)) ∧ (¬ hsN tx L G → MG M' G) ∧ M 60 0 ≤ M' 60 0 := by
  obtain ⟨M1, e1, -, f, -, z2, -, z3, z4, z5, z6, z7⟩ := m_house hd W X.1 hM h14 ht
  obtain ⟨rfl, rfl⟩ := rI_inj (e.symm.trans e1)
  have eo : ∀ o i, cm o i = true → ¬ (61 ≤ o ∧ o ≤ 67) → ¬ (o = 60 ∧ (i = 0 ∨ i = 3 ∨ i = 8 ∨ i = 33 ∨ i = 52)) → M' o i = M o i := fun o i q a b => f o i (by
    cases z : wOK wHouse o i with
    | false => rfl
    | true =>
      obtain ⟨r, hr, h2⟩ := List.any_eq_true.mp z
      rw [Bool.and_eq_true, Bool.or_eq_true] at h2
      have k1 := Nat.eq_of_beq_eq_true h2.1
      unfold wHouse at hr
      simp only [List.mem_cons, List.not_mem_nil, or_false] at hr
      have q' := q
      unfold cm at q'
      rcases hr with rfl | rfl | rfl | rfl | rfl | rfl | rfl | rfl | rfl | rfl | rfl | rfl | rfl | rfl | rfl | rfl | rfl | rfl | rfl | rfl
      all_goals first
        | (exfalso; exact a (by omega))
        | (exfalso
           rcases h2.2 with y | y
           · have k2 := Nat.eq_of_beq_eq_true y
             first
               | exact b ⟨k1.symm, by omega⟩
               | (rw [← k1, ← k2] at q; exact absurd q (by decide))
           · exact absurd y (by decide))
        | (rw [← k1] at q'; exact absurd q' (by simp)))
  have z60 : M 60 0 ≤ M' 60 0 := by rw [z2.1, X.1.1]; omega
  obtain ⟨-, ⟨d1, d2, d3⟩, ⟨p1, p2⟩, k⟩ := X
  refine ⟨rfl, fun n => ?_, fun n => ?_, z60⟩
  · have eR : hR (gNew tx L G) = hR (hsH tx L G) := rfl
    have eT : hT (gNew tx L G) = hT (hsH tx L G) := rfl
    refine ⟨MH_cg (fun o i ho => gNew_lo ho) z2, ⟨?_, ?_, ?_⟩, ⟨by rw [gNew_9]; exact z3 n, fun j hj => ?_⟩, fun i hi => ?_⟩
    · rw [eo 60 10 rfl (by omega) (by omega), gNew_hi (by decide) (by decide)]; exact d1
    · rw [eo 60 11 rfl (by omega) (by omega), gNew_hi (by decide) (by decide)]; exact d2
    · rw [eo 60 12 rfl (by omega) (by omega), gNew_hi (by decide) (by decide)]; exact d3
    · rw [gNew_9] at hj; omega
    · have a : ∀ j, M' 87 j = M 87 j := fun j => eo 87 j rfl (by omega) (by omega)
      have bb : ∀ j, M' 88 j = M 88 j := fun j => eo 88 j rfl (by omega) (by omega)
      have cc : ∀ j, M' 89 j = M 89 j := fun j => eo 89 j rfl (by omega) (by omega)
      have g16 : ∀ j, gNew tx L G (16 + i) j = G (16 + i) j := fun j => gNew_hi (by omega) (by omega)
      obtain ⟨k1, k2⟩ := k i hi
      simp only [a, bb, cc, g16, gNew_hi (tx := tx) (L := L) (show 8 ≤ 13 by decide) (show 13 ≠ 9 by decide), gNew_hi (tx := tx) (L := L) (show 8 ≤ 14 by decide) (show 14 ≠ 9 by decide), gNew_hi (tx := tx) (L := L) (show 8 ≤ 15 by decide) (show 15 ≠ 9 by decide), gNew_hi (tx := tx) (L := L) (show 8 ≤ 18 by decide) (show 18 ≠ 9 by decide), gNew_hi (tx := tx) (L := L) (show 8 ≤ 19 by decide) (show 19 ≠ 9 by decide), z5, eR, eT]
      refine ⟨k1, fun z => ?_⟩
      obtain ⟨j1, j2, j3, j4, j5, j6, j7⟩ := k2 z
      refine ⟨?_, ?_, by omega, by omega, j5, j6, j7⟩
      · split <;> omega
      · split
        · exact ⟨fun y => by omega, fun y => by omega⟩
        · have q1 : hR (hsH tx L G) = hR G := by omega
          have q2 : hT (hsH tx L G) = hT G := by omega
          rw [q1, q2]; exact j2
  · rw [hsH_no n] at z2 z5
    have z8 : M' 60 52 = M 60 52 := by rw [z5, if_neg (by omega)]
    refine ⟨z2, ⟨?_, ?_, ?_⟩, ⟨by rw [z4 n]; exact p1, fun j hj => ?_⟩, fun i hi => ?_⟩
    · rw [eo 60 10 rfl (by omega) (by omega)]; exact d1
    · rw [eo 60 11 rfl (by omega) (by omega)]; exact d2
    · rw [eo 60 12 rfl (by omega) (by omega)]; exact d3
    · rw [eo 75 _ rfl (by omega) (by omega), eo 75 _ rfl (by omega) (by omega), eo 75 _ rfl (by omega) (by omega)]; exact p2 j hj
    · have a : ∀ j, M' 87 j = M 87 j := fun j => eo 87 j rfl (by omega) (by omega)
      have bb : ∀ j, M' 88 j = M 88 j := fun j => eo 88 j rfl (by omega) (by omega)
      have cc : ∀ j, M' 89 j = M 89 j := fun j => eo 89 j rfl (by omega) (by omega)
      simp only [a, bb, cc, z8]
      exact k i hi
end COH
/-! hinge, on both sides -/
/-- how many things come to a room -/
def cmN (h : pM) (r : Nat) : Nat := cntTo (fun t => decide (0 ≤ stp h (h 4 t) (h 6 t).toNat r)) (hT h)
def hgB (h : pM) (r a : Nat) : Nat → Nat → Int × Int × Int → Int × Int × Int
  | 0, _, s => s
  | m + 1, b, s => hgB h r a m (b + 1) (if h 2 (6 * a + b) = 0 then s else if s.2.2 < (cmN (addD h a b 9) r : Int) then ((a : Int), (b : Int), (cmN (addD h a b 9) r : Int)) else s)
def hgA (h : pM) (r : Nat) : Nat → Nat → Int × Int × Int → Int × Int × Int
  | 0, _, s => s
  | m + 1, a, s => hgA h r m (a + 1) (hgB h r a (hR h - (a + 1)) (a + 1) s)
def hgZ (h : pM) (r : Nat) : Int := if (hgA h r (hR h) 0 (-1, -1, -1)).1 = -1 then -2 else (hgA h r (hR h) 0 (-1, -1, -1)).1
section COJ
variable {D d : Nat} {M M' G h : pM}
theorem WF_addD (W : WF h) {a b : Nat} (ha : a < hR h) (hb : b < hR h) (hab : a ≠ b) {w : Int} (h0 : 0 ≤ w) (h9 : w ≤ 9) : WF (addD h a b w) := by
  obtain ⟨w1, w2, w3, w4, w5, w6, w7, w8, w9⟩ := W
  have ev : ∀ p, addD h a b w 2 p = if p = 6 * b + a ∨ p = 6 * a + b then w else h 2 p := by
    intro p
    unfold addD
    by_cases q : p = 6 * b + a
    · rw [q, pset_eq, if_pos (Or.inl rfl)]
    · rw [pset_ne2 q]
      by_cases q2 : p = 6 * a + b
      · rw [q2, pset_eq, if_pos (Or.inr rfl)]
      · rw [pset_ne2 q2, if_neg (fun z => z.elim q q2)]
  have eR : hR (addD h a b w) = hR h := by unfold hR; rw [addD_ne (by decide)]
  have eT : hT (addD h a b w) = hT h := by unfold hT; rw [addD_ne (by decide)]
  have eS : hS (addD h a b w) = hS h := by unfold hS; rw [addD_ne (by decide)]
  refine ⟨by rw [eR]; exact w1, by rw [eT]; exact w2, by rw [eS]; exact w3, fun r hr => ?_, fun p hp => ?_, fun x y hx hy => ?_, fun x y hx hy hh => ?_, fun t ht => ?_, fun s hs => ?_⟩
  · rw [eR] at hr; rw [addD_ne (by decide)]; exact w4 r hr
  · rw [ev]; split
    · exact ⟨h0, h9⟩
    · exact w5 p hp
  · rw [ev, ev]
    by_cases q : 6 * x + y = 6 * b + a ∨ 6 * x + y = 6 * a + b
    · rw [if_pos q, if_pos (by omega)]
    · rw [if_neg q, if_neg (by omega)]; exact w6 x y hx hy
  · rw [eR] at hh
    rw [ev, if_neg (by omega)]; exact w7 x y hx hy hh
  · rw [eT] at ht
    rw [addD_ne (by decide), addD_ne (by decide), addD_ne (by decide), addD_ne (by decide), eR]; exact w8 t ht
  · rw [eS] at hs
    have : me (addD h a b w) s = me h s := by unfold me; rw [addD_ne (by decide)]
    rw [this, eT]; exact w9 s hs
theorem x_cm14 (hD : 4 ≤ D) (W : WF h) (X : XH M h) {r : Nat} (hr : r < hR h) (x1 x2 x4 : Int) : ∀ (m t : Nat), t + m = hT h → xE D 84 14 [.inr 9, .inl x1, .inl x2, .inl (r : Int), .inl x4, .inl ((cntTo (fun t => decide (0 ≤ stp h (h 4 t) (h 6 t).toNat r)) t : Nat) : Int), .inl (t : Int)] [] M = (pbN (xF D 73 [.inr 9, .inl x1, .inl x2, .inl x4] M) fun M1 => rI (cmN h r : Nat) M1) := by
  have w1 := W.1
  have w2 := W.2.1
  intro m
  induction m with
  | zero =>
    intro t ht
    have e : t = hT h := by omega
    rw [L_House_comersIfWide_14, X.2.1, if_pos (by rw [le32_iff] <;> omega), e]
    rfl
  | succ m ih =>
    intro t ht
    have hw := W.2.2.2.2.2.2.2.1 t (by omega)
    obtain ⟨y1, y2, y3, y4⟩ := X.2.2.2.2.2.1 t (by omega)
    obtain ⟨z, hz⟩ := natI hw.2.2.2.1
    have i0 : (0 : Int) ≤ (t : Int) ∧ (t : Int) < 10 := by omega
    have sr := stp_range W (h 4 t) z r
    have uu : cntTo (fun t => decide (0 ≤ stp h (h 4 t) (h 6 t).toNat r)) (t + 1) = if decide (0 ≤ stp h (h 4 t) (h 6 t).toNat r) then cntTo (fun t => decide (0 ≤ stp h (h 4 t) (h 6 t).toNat r)) t + 1 else cntTo (fun t => decide (0 ≤ stp h (h 4 t) (h 6 t).toNat r)) t := rfl
    rw [L_House_comersIfWide_14, X.2.1, if_neg (by rw [le32_iff] <;> omega), if_pos i0, if_pos i0, Int.toNat_natCast, y2, y4, hz, c_steps (by omega) W X (by omega) hr (by omega) (by omega), pbI_rI, show ((t : Int) + 1) = ((t + 1 : Nat) : Int) by omega, ← ih (t + 1) (by omega), uu, hz, Int.toNat_natCast]
    by_cases q : stp h (h 4 t) z r < 0
    · rw [if_pos (by rw [lt32_iff] <;> omega), decide_eq_false (by omega), if_neg (by decide)]; rfl
    · rw [if_neg (by rw [lt32_iff] <;> omega), decide_eq_true (by omega), if_pos rfl]; rfl
theorem x_comers (hd : 5 ≤ d) (W : WF h) (X : XH M h) {a b r : Nat} (ha : a < hR h) (hb : b < hR h) (hab : a ≠ b) (hr : r < hR h) : xF d 84 [.inr 9, .inl (a : Int), .inl (b : Int), .inl (r : Int)] M = rI (cmN (addD h a b 9) r : Nat) M := by
  obtain ⟨D, rfl, hD⟩ := dsucc hd
  have w1 := W.1
  have W2 := WF_addD W ha hb hab (w := 9) (by decide) (by decide)
  have X2 := XH_addD X a b 9
  have eR : hR (addD h a b 9) = hR h := by unfold hR; rw [addD_ne (by decide)]
  have key := x_cm14 (D := D) (by omega) W2 X2 (r := r) (by omega) (a : Int) (b : Int) (h 2 (6 * a + b)) (hT (addD h a b 9)) 0 (by omega)
  rw [T_House_comersIfWide, c_doorWidth7n (by omega) W X (by omega) (by omega), pbI_rI, x_makeDoor7 (by omega) W X ha hb hab, pbN_rV]
  refine key.trans ?_
  rw [x_makeDoor7 (by omega) W2 X2 (by omega) (by omega) hab, pbN_rV]
  have e : pset (pset (pset (pset M 9 (6 * a + b) 9) 9 (6 * b + a) 9) 9 (6 * a + b) (h 2 (6 * a + b))) 9 (6 * b + a) (h 2 (6 * a + b)) = M := by
    funext o i
    by_cases q : o = 9
    · subst q
      by_cases q1 : i = 6 * b + a
      · rw [q1, pset_eq, X.2.2.2.2.1 _ (by omega), W.2.2.2.2.2.1 a b (by omega) (by omega)]
      · rw [pset_ne2 q1]
        by_cases q2 : i = 6 * a + b
        · rw [q2, pset_eq, X.2.2.2.2.1 _ (by omega)]
        · rw [pset_ne2 q2, pset_ne2 q1, pset_ne2 q2]
    · rw [pset_ne q, pset_ne q, pset_ne q, pset_ne q]
  rw [e]
def hgO (R : Nat) (s : Int × Int × Int) : Prop := (-1 ≤ s.1 ∧ s.1 < R) ∧ (-1 ≤ s.2.2 ∧ s.2.2 ≤ 10) ∧ (s.1 = -1 ↔ s.2.2 = -1)
theorem cmN_le (W : WF h) (r : Nat) : cmN h r ≤ 10 := Nat.le_trans (cntTo_le _) W.2.1
theorem hg_step (W : WF h) {a b r : Nat} (ha : a < hR h) (hb : b < hR h) (hab : a ≠ b) {s : Int × Int × Int} (hs : hgO (hR h) s) : hgO (hR h) (if h 2 (6 * a + b) = 0 then s else if s.2.2 < (cmN (addD h a b 9) r : Int) then ((a : Int), (b : Int), (cmN (addD h a b 9) r : Int)) else s) := by
  have := cmN_le (WF_addD W ha hb hab (w := 9) (by decide) (by decide)) r
  split
  · exact hs
  · split
    · exact ⟨⟨by show (-1 : Int) ≤ (a : Int); omega, by show (a : Int) < _; omega⟩, ⟨by show (-1 : Int) ≤ ((cmN (addD h a b 9) r : Nat) : Int); omega, by show ((_ : Nat) : Int) ≤ 10; omega⟩, ⟨fun z => by have z : (a : Int) = -1 := z; omega, fun z => by have z : ((cmN (addD h a b 9) r : Nat) : Int) = -1 := z; omega⟩⟩
    · exact hs
theorem hgB_ok (W : WF h) {a r : Nat} (ha : a < hR h) : ∀ (m b : Nat) (s : Int × Int × Int), a < b → b + m ≤ hR h → hgO (hR h) s → hgO (hR h) (hgB h r a m b s)
  | 0, _, _, _, _, hs => hs
  | m + 1, b, s, h1, h2, hs => hgB_ok W ha m (b + 1) _ (by omega) (by omega) (hg_step W ha (by omega) (by omega) hs)
theorem x_hg24 (hD : 5 ≤ D) (W : WF h) (X : XH M h) {r : Nat} (hr : r < hR h) {a : Nat} (ha : a < hR h) : ∀ (m b : Nat) (s : Int × Int × Int) (y7 : pV), b + m = hR h → a < b → hgO (hR h) s → ∃ y7' : pV, xE D 37 24 [.inr 2, .inl (r : Int), .inl s.1, .inl s.2.1, .inl s.2.2, .inl (a : Int), .inl (b : Int), y7] [] M = xE D 37 15 [.inr 2, .inl (r : Int), .inl (hgB h r a m b s).1, .inl (hgB h r a m b s).2.1, .inl (hgB h r a m b s).2.2, .inl ((a + 1 : Nat) : Int), .inl (hR h : Int), y7'] [] M := by
  have w1 := W.1
  intro m
  induction m with
  | zero =>
    intro b s y7 hb hab hs
    have e : b = hR h := by omega
    rw [L_X_hinge_24, X.1, if_pos (by rw [le32_iff] <;> omega), show ((a : Int) + 1) = ((a + 1 : Nat) : Int) by omega, e]
    exact ⟨y7, rfl⟩
  | succ m ih =>
    intro b s y7 hb hab hs
    have hv := W.2.2.2.2.1 (6 * a + b) (by omega)
    have st := hg_step (r := r) W ha (show b < hR h by omega) (by omega) hs
    have ee : ((b : Int) + 1) = ((b + 1 : Nat) : Int) := by omega
    have u : hgB h r a (m + 1) b s = hgB h r a m (b + 1) (if h 2 (6 * a + b) = 0 then s else if s.2.2 < (cmN (addD h a b 9) r : Int) then ((a : Int), (b : Int), (cmN (addD h a b 9) r : Int)) else s) := rfl
    rw [L_X_hinge_24, X.1, if_neg (by rw [le32_iff] <;> omega), c_doorWidth7n (by omega) W X (by omega) (by omega), pbI_rI, u, ee]
    by_cases q : h 2 (6 * a + b) = 0
    · rw [if_pos q] at st
      rw [if_neg (fun z => z (by rw [q])), if_pos (by have := hs.2.1; rw [le32_iff] <;> omega), if_pos q]
      exact ih (b + 1) s _ (by omega) (by omega) hs
    · have cl := cmN_le (WF_addD W ha (show b < hR h by omega) (by omega) (w := 9) (by decide) (by decide)) r
      rw [if_neg q] at st
      rw [if_pos (by rw [eq32_iff] <;> omega), x_comers (by omega) W X ha (by omega) (by omega) hr, pbI_rI, if_neg q]
      by_cases q2 : s.2.2 < (cmN (addD h a b 9) r : Int)
      · rw [if_pos q2] at st
        rw [if_neg (by have := hs.2.1; rw [le32_iff] <;> omega), if_pos q2]
        exact ih (b + 1) ((a : Int), (b : Int), (cmN (addD h a b 9) r : Int)) _ (by omega) (by omega) st
      · rw [if_neg q2] at st
        rw [if_pos (by have := hs.2.1; rw [le32_iff] <;> omega), if_neg q2]
        exact ih (b + 1) s _ (by omega) (by omega) hs
theorem x_hg15 (hD : 5 ≤ D) (W : WF h) (X : XH M h) {r : Nat} (hr : r < hR h) : ∀ (m a : Nat) (s : Int × Int × Int) (y6 y7 : pV), a + m = hR h → hgO (hR h) s → ∃ y6' y7' : pV, xE D 37 15 [.inr 2, .inl (r : Int), .inl s.1, .inl s.2.1, .inl s.2.2, .inl (a : Int), y6, y7] [] M = xE D 37 15 [.inr 2, .inl (r : Int), .inl (hgA h r m a s).1, .inl (hgA h r m a s).2.1, .inl (hgA h r m a s).2.2, .inl (hR h : Int), y6', y7'] [] M ∧ hgO (hR h) (hgA h r m a s) := by
  have w1 := W.1
  intro m
  induction m with
  | zero =>
    intro a s y6 y7 ha hs
    have e : a = hR h := by omega
    rw [e]
    exact ⟨y6, y7, rfl, hs⟩
  | succ m ih =>
    intro a s y6 y7 ha hs
    have hs2 := hgB_ok (r := r) W (show a < hR h by omega) (hR h - (a + 1)) (a + 1) s (by omega) (by omega) hs
    obtain ⟨y, e⟩ := x_hg24 (D := D) hD W X hr (show a < hR h by omega) (hR h - (a + 1)) (a + 1) s y7 (by omega) (by omega) hs
    rw [L_X_hinge_15, X.1, if_neg (by rw [le32_iff] <;> omega), show ((a : Int) + 1) = ((a + 1 : Nat) : Int) by omega, e]
    exact ih (a + 1) _ _ _ (by omega) hs2
theorem xg_hinge (hd : 6 ≤ d) (W : WF G) (X : XG M G) {b : Int} (hb : -2147483648 ≤ b ∧ b ≤ 2147483647) {v : Int} (ee : xF d 37 [.inr 2, .inl b] M = rI v M') : v = (if 0 ≤ b ∧ b < hR G then hgZ G b.toNat else -1) ∧ XG M' G := by
  obtain ⟨D, rfl, hD⟩ := dsucc hd
  have w1 := W.1
  rw [T_X_hinge, c_isRoom7 (by omega) W X.1 (by omega) (by omega), pbI_rI, ite01pn] at ee
  by_cases q : 0 ≤ b ∧ b < (hR G : Int)
  · obtain ⟨r, rfl⟩ := natI q.1
    obtain ⟨y6, y7, e, hs⟩ := x_hg15 (D := D) (by omega) W X.1 (r := r) (by omega) (hR G) 0 (-1, -1, -1) (.inr 0) (.inr 0) (by omega) ⟨⟨by decide, by show (-1 : Int) < _; omega⟩, ⟨by decide, by decide⟩, ⟨fun _ => rfl, fun _ => rfl⟩⟩
    have e' : xE D 37 15 [.inr 2, .inl (r : Int), .inl (-1), .inl (-1), .inl (-1), .inl 0, .inr 0, .inr 0] [] M = _ := e
    rw [if_pos q, e', L_X_hinge_15, X.1.1, if_pos (by rw [le32_iff] <;> omega)] at ee
    rw [if_pos q, Int.toNat_natCast]
    unfold hgZ
    generalize hgA G r (hR G) 0 (-1, -1, -1) = s at ee hs ⊢
    by_cases q2 : s.1 = -1
    · rw [if_neg (fun z => z (by rw [q2]))] at ee
      obtain ⟨z1, z2⟩ := rI_inj ee
      rw [if_pos q2, ← z1, ← z2]; exact ⟨rfl, X⟩
    · obtain ⟨D', rfl, -⟩ := dsucc (show 1 ≤ D by omega)
      obtain ⟨M1, e1, k1, f1⟩ := x_tell (d := D' + 1) (M := pset M 5 1 0) (n := 0) (by omega) (by decide) pset_eq s.2.1
      obtain ⟨M2, e2, k2, f2⟩ := x_tell (d := D' + 1) (M := M1) (n := 1) (by omega) (by decide) k1 s.2.2
      rw [if_pos (by have := hs.1; rw [eq32_iff] <;> omega), T_Numbers_start, pbN_rV, e1, pbN_rV, e2, pbN_rV] at ee
      obtain ⟨z1, z2⟩ := rI_inj ee
      rw [if_neg q2, ← z1, ← z2]
      refine ⟨rfl, XG_ag (fun o i q => ?_) X⟩
      have h5 : o ≠ 5 := fun z => by rw [z] at q; cases q
      have h6 : o ≠ 6 := fun z => by rw [z] at q; cases q
      rw [f2 o i h5 h6, f1 o i h5 h6, pset_ne h5]
  · rw [if_neg q] at ee
    obtain ⟨z1, z2⟩ := rI_inj ee
    rw [if_neg q, ← z1, ← z2]; exact ⟨rfl, X⟩
/-! the reference's hinge -/
theorem m_cm4 (hD : 4 ≤ D) (W : WF h) {r : Nat} (hr : r < hR h) : ∀ (m t : Nat) (M : pM), t + m = hT h → MH M h → ∃ M', xE D 253 4 [.inr 62, .inl (r : Int), .inl ((cntTo (fun t => decide (0 ≤ stp h (h 4 t) (h 6 t).toNat r)) t : Nat) : Int), .inl (t : Int)] [] M = rI (cmN h r : Nat) M' ∧ ∀ o i, o ≠ 74 → M' o i = M o i := by
  have w1 := W.1
  have w2 := W.2.1
  intro m
  induction m with
  | zero =>
    intro t M ht X
    have e : t = hT h := by omega
    rw [L_M_comeTo_4, X.2.1, if_pos (by rw [le32_iff] <;> omega), e]
    exact ⟨M, rfl, fun _ _ _ => rfl⟩
  | succ m ih =>
    intro t M ht X
    have hw := W.2.2.2.2.2.2.2.1 t (by omega)
    obtain ⟨y1, y2, y3, y4⟩ := X.2.2.2.2.2.1 t (by omega)
    obtain ⟨z, hz⟩ := natI hw.2.2.2.1
    have i0 : (0 : Int) ≤ (t : Int) ∧ (t : Int) < 10 := by omega
    have sr := stp_range W (h 4 t) z r
    obtain ⟨M1, e1, f1⟩ := m_stepsF (d := D) (M := M) (t := t) (a := z) (b := r) (by omega) W (by omega) (by omega) hr y2 X.2.2.2.2.1 X.1
    have X1 : MH M1 h := by
      obtain ⟨x1, x2, x3, x4, x5, x6, x7⟩ := X
      exact ⟨by rw [f1 60 0 (by decide)]; exact x1, by rw [f1 60 3 (by decide)]; exact x2, by rw [f1 60 8 (by decide)]; exact x3, fun r hr => by rw [f1 61 r (by decide)]; exact x4 r hr, fun p hp => by rw [f1 62 p (by decide)]; exact x5 p hp, fun t ht => by rw [f1 63 t (by decide), f1 64 t (by decide), f1 65 t (by decide), f1 66 t (by decide)]; exact x6 t ht, fun s hs => by rw [f1 67 s (by decide)]; exact x7 s hs⟩
    obtain ⟨M2, e2, f2⟩ := ih (t + 1) M1 (by omega) X1
    have uu : cntTo (fun t => decide (0 ≤ stp h (h 4 t) (h 6 t).toNat r)) (t + 1) = if decide (0 ≤ stp h (h 4 t) (h 6 t).toNat r) then cntTo (fun t => decide (0 ≤ stp h (h 4 t) (h 6 t).toNat r)) t + 1 else cntTo (fun t => decide (0 ≤ stp h (h 4 t) (h 6 t).toNat r)) t := rfl
    refine ⟨M2, ?_, fun o i ho => (f2 o i ho).trans (f1 o i ho)⟩
    rw [L_M_comeTo_4, X.2.1, if_neg (by rw [le32_iff] <;> omega), if_pos i0, Int.toNat_natCast, y4, hz, e1, pbI_rI, show ((t : Int) + 1) = ((t + 1 : Nat) : Int) by omega, ← e2, uu, hz, Int.toNat_natCast]
    unfold fv
    by_cases q : stp h (h 4 t) z r < 0
    · rw [if_pos q, if_pos (by decide), decide_eq_false (by omega), if_neg (by decide)]; rfl
    · rw [if_neg q, if_neg (by rw [le32_iff] <;> omega), decide_eq_true (by omega), if_pos rfl]; rfl
theorem m_comeF (hd : 5 ≤ d) (W : WF h) (X : MH M h) {r : Nat} (hr : r < hR h) : ∃ M', xF d 253 [.inr 62, .inl (r : Int)] M = rI (cmN h r : Nat) M' ∧ ∀ o i, o ≠ 74 → M' o i = M o i := by
  obtain ⟨D, rfl, hD⟩ := dsucc hd
  rw [T_M_comeTo]
  exact m_cm4 (D := D) (by omega) W hr (hT h) 0 M (by omega) X
theorem m_put2 (hd : 1 ≤ d) {x y : Nat} (hx : x < 6) (hy : y < 6) (w : Int) : xF d 185 [.inr 62, .inl (x : Int), .inl (y : Int), .inl w] M = rV (pset (pset M 62 (6 * x + y) w) 62 (6 * y + x) w) := by
  obtain ⟨D, rfl, -⟩ := dsucc hd
  rw [T_M_put, if_pos (by omega), if_pos (by omega), show (6 * (x : Int) + (y : Int)).toNat = 6 * x + y by omega, show (6 * (y : Int) + (x : Int)).toNat = 6 * y + x by omega]
/-- a door is made 9 wide, and given back -/
theorem m_tryD (hd : 5 ≤ d) (W : WF h) (X : MH M h) {a b r : Nat} (ha : a < hR h) (hb : b < hR h) (hab : a ≠ b) (hr : r < hR h) : ∃ M1 M2, xF d 185 [.inr 62, .inl (a : Int), .inl (b : Int), .inl 9] M = rV M1 ∧ xF d 253 [.inr 62, .inl (r : Int)] M1 = rI (cmN (addD h a b 9) r : Nat) M2 ∧ ∃ M3, xF d 185 [.inr 62, .inl (a : Int), .inl (b : Int), .inl (h 2 (6 * a + b))] M2 = rV M3 ∧ ∀ o i, o ≠ 74 → M3 o i = M o i := by
  have w1 := W.1
  have eR : hR (addD h a b 9) = hR h := by unfold hR; rw [addD_ne (by decide)]
  obtain ⟨M2, e2, f2⟩ := m_comeF (d := d) hd (WF_addD W ha hb hab (w := 9) (by decide) (by decide)) (MH_addD X a b 9) (r := r) (by omega)
  refine ⟨_, M2, m_put2 (by omega) (by omega) (by omega) 9, e2, _, m_put2 (by omega) (by omega) (by omega) _, fun o i ho => ?_⟩
  by_cases q : o = 62
  · subst q
    by_cases q1 : i = 6 * b + a
    · rw [q1, pset_eq, X.2.2.2.2.1 _ (by omega), W.2.2.2.2.2.1 a b (by omega) (by omega)]
    · rw [pset_ne2 q1]
      by_cases q2 : i = 6 * a + b
      · rw [q2, pset_eq, X.2.2.2.2.1 _ (by omega)]
      · rw [pset_ne2 q2, f2 62 i (by decide), pset_ne2 q1, pset_ne2 q2]
  · rw [pset_ne q, pset_ne q, f2 o i ho, pset_ne q, pset_ne q]
/-- what the reference has found so far, against the class -/
def hgR (s : Int × Int × Int) (x2 x3 x4 : Int) : Prop := (s.1 = -1 ∧ x2 = -2) ∨ (s.1 ≠ -1 ∧ x2 = s.1 ∧ x3 = s.2.1 ∧ x4 = s.2.2)
theorem m_hg25F (hD : 6 ≤ D) (W : WF h) {r : Nat} (hr : r < hR h) {a : Nat} (ha : a < hR h) : ∀ (m b : Nat) (s : Int × Int × Int) (x2 x3 x4 : Int) (y7 y8 : pV) (M : pM), b + m = hR h → a < b → hgO (hR h) s → hgR s x2 x3 x4 → MH M h → ∃ (x2' x3' x4' : Int) (y7' y8' : pV) (M' : pM), xE D 254 25 [.inr 62, .inl (r : Int), .inl x2, .inl x3, .inl x4, .inl (a : Int), .inl (b : Int), y7, y8] [] M = xE D 254 17 [.inr 62, .inl (r : Int), .inl x2', .inl x3', .inl x4', .inl ((a + 1 : Nat) : Int), .inl (hR h : Int), y7', y8'] [] M' ∧ hgR (hgB h r a m b s) x2' x3' x4' ∧ ∀ o i, o ≠ 74 → M' o i = M o i := by
  have w1 := W.1
  intro m
  induction m with
  | zero =>
    intro b s x2 x3 x4 y7 y8 M hb hab hs hg X
    have e : b = hR h := by omega
    rw [L_M_hinge_25, X.1, if_pos (by rw [le32_iff] <;> omega), show ((a : Int) + 1) = ((a + 1 : Nat) : Int) by omega, e]
    exact ⟨x2, x3, x4, y7, y8, M, rfl, hg, fun _ _ _ => rfl⟩
  | succ m ih =>
    intro b s x2 x3 x4 y7 y8 M hb hab hs hg X
    have hv := W.2.2.2.2.1 (6 * a + b) (by omega)
    have st := hg_step (r := r) W ha (show b < hR h by omega) (by omega) hs
    have ee : ((b : Int) + 1) = ((b + 1 : Nat) : Int) := by omega
    have n1 : (6 * (a : Int) + (b : Int)).toNat = 6 * a + b := by omega
    have u : hgB h r a (m + 1) b s = hgB h r a m (b + 1) (if h 2 (6 * a + b) = 0 then s else if s.2.2 < (cmN (addD h a b 9) r : Int) then ((a : Int), (b : Int), (cmN (addD h a b 9) r : Int)) else s) := rfl
    rw [L_M_hinge_25, X.1, if_neg (by rw [le32_iff] <;> omega), if_pos (by omega), n1, X.2.2.2.2.1 _ (by omega), u, ee]
    by_cases q : h 2 (6 * a + b) = 0
    · rw [if_neg (fun z => z (by rw [q])), if_pos q]
      exact ih (b + 1) s x2 x3 x4 _ _ M (by omega) (by omega) hs hg X
    · have cl := cmN_le (WF_addD W ha (show b < hR h by omega) (by omega) (w := 9) (by decide) (by decide)) r
      obtain ⟨M1, M2, e1, e2, M3, e3, f3⟩ := m_tryD (d := D) (by omega) W X ha (show b < hR h by omega) (by omega) hr
      have X3 : MH M3 h := by
        obtain ⟨x1, x2, x3, x4, x5, x6, x7⟩ := X
        exact ⟨by rw [f3 60 0 (by decide)]; exact x1, by rw [f3 60 3 (by decide)]; exact x2, by rw [f3 60 8 (by decide)]; exact x3, fun r hr => by rw [f3 61 r (by decide)]; exact x4 r hr, fun p hp => by rw [f3 62 p (by decide)]; exact x5 p hp, fun t ht => by rw [f3 63 t (by decide), f3 64 t (by decide), f3 65 t (by decide), f3 66 t (by decide)]; exact x6 t ht, fun s hs => by rw [f3 67 s (by decide)]; exact x7 s hs⟩
      rw [if_neg q] at st
      rw [if_pos (by rw [eq32_iff] <;> omega), e1, pbN_rV, e2, pbI_rI, e3, pbN_rV, if_neg q]
      have goA : hgO (hR h) ((a : Int), (b : Int), (cmN (addD h a b 9) r : Int)) → ∃ (x2' x3' x4' : Int) (y7' y8' : pV) (M' : pM), xE D 254 25 [.inr 62, .inl (r : Int), .inl (a : Int), .inl (b : Int), .inl (cmN (addD h a b 9) r : Int), .inl (a : Int), .inl ((b + 1 : Nat) : Int), .inl (h 2 (6 * a + b)), .inl (cmN (addD h a b 9) r : Int)] [] M3 = xE D 254 17 [.inr 62, .inl (r : Int), .inl x2', .inl x3', .inl x4', .inl ((a + 1 : Nat) : Int), .inl (hR h : Int), y7', y8'] [] M' ∧ hgR (hgB h r a m (b + 1) ((a : Int), (b : Int), (cmN (addD h a b 9) r : Int))) x2' x3' x4' ∧ ∀ o i, o ≠ 74 → M' o i = M o i := fun st => by
        obtain ⟨z2, z3, z4, y7', y8', M', e, g, f⟩ := ih (b + 1) ((a : Int), (b : Int), (cmN (addD h a b 9) r : Int)) (a : Int) (b : Int) (cmN (addD h a b 9) r : Int) (.inl (h 2 (6 * a + b))) (.inl (cmN (addD h a b 9) r : Int)) M3 (by omega) (by omega) st (Or.inr ⟨by show (a : Int) ≠ -1; omega, rfl, rfl, rfl⟩) X3
        exact ⟨z2, z3, z4, y7', y8', M', e, g, fun o i ho => (f o i ho).trans (f3 o i ho)⟩
      rcases hg with ⟨g1, g2⟩ | ⟨g1, g2, g3, g4⟩
      · have : s.2.2 = -1 := hs.2.2.mp g1
        have q2 : s.2.2 < (cmN (addD h a b 9) r : Int) := by omega
        rw [if_pos q2] at st
        rw [if_pos (by rw [g2]; decide), if_pos q2]
        exact goA st
      · have o1 := hs.1
        have o2 := hs.2.1
        rw [if_neg (by rw [g2, lt32_iff] <;> omega), g4]
        by_cases q2 : s.2.2 < (cmN (addD h a b 9) r : Int)
        · rw [if_pos q2] at st
          rw [if_pos (by rw [lt32_iff] <;> omega), if_pos q2]
          exact goA st
        · rw [if_neg (by rw [lt32_iff] <;> omega), if_neg q2]
          obtain ⟨z2, z3, z4, y7', y8', M', e, g, f⟩ := ih (b + 1) s x2 x3 s.2.2 (.inl (h 2 (6 * a + b))) (.inl (cmN (addD h a b 9) r : Int)) M3 (by omega) (by omega) hs (Or.inr ⟨g1, g2, g3, rfl⟩) X3
          exact ⟨z2, z3, z4, y7', y8', M', e, g, fun o i ho => (f o i ho).trans (f3 o i ho)⟩
theorem m_hg17F (hD : 6 ≤ D) (W : WF h) {r : Nat} (hr : r < hR h) : ∀ (m a : Nat) (s : Int × Int × Int) (x2 x3 x4 : Int) (y6 y7 y8 : pV) (M : pM), a + m = hR h → hgO (hR h) s → hgR s x2 x3 x4 → MH M h → ∃ (x2' x3' x4' : Int) (y6' y7' y8' : pV) (M' : pM), xE D 254 17 [.inr 62, .inl (r : Int), .inl x2, .inl x3, .inl x4, .inl (a : Int), y6, y7, y8] [] M = xE D 254 17 [.inr 62, .inl (r : Int), .inl x2', .inl x3', .inl x4', .inl (hR h : Int), y6', y7', y8'] [] M' ∧ hgR (hgA h r m a s) x2' x3' x4' ∧ hgO (hR h) (hgA h r m a s) ∧ ∀ o i, o ≠ 74 → M' o i = M o i := by
  have w1 := W.1
  intro m
  induction m with
  | zero =>
    intro a s x2 x3 x4 y6 y7 y8 M ha hs hg X
    have e : a = hR h := by omega
    rw [e]
    exact ⟨x2, x3, x4, y6, y7, y8, M, rfl, hg, hs, fun _ _ _ => rfl⟩
  | succ m ih =>
    intro a s x2 x3 x4 y6 y7 y8 M ha hs hg X
    have hs2 := hgB_ok (r := r) W (show a < hR h by omega) (hR h - (a + 1)) (a + 1) s (by omega) (by omega) hs
    obtain ⟨z2, z3, z4, y7', y8', M1, e, g, f⟩ := m_hg25F (D := D) hD W hr (show a < hR h by omega) (hR h - (a + 1)) (a + 1) s x2 x3 x4 y7 y8 M (by omega) (by omega) hs hg X
    have X1 : MH M1 h := by
      obtain ⟨x1, x2, x3, x4, x5, x6, x7⟩ := X
      exact ⟨by rw [f 60 0 (by decide)]; exact x1, by rw [f 60 3 (by decide)]; exact x2, by rw [f 60 8 (by decide)]; exact x3, fun r hr => by rw [f 61 r (by decide)]; exact x4 r hr, fun p hp => by rw [f 62 p (by decide)]; exact x5 p hp, fun t ht => by rw [f 63 t (by decide), f 64 t (by decide), f 65 t (by decide), f 66 t (by decide)]; exact x6 t ht, fun s hs => by rw [f 67 s (by decide)]; exact x7 s hs⟩
    obtain ⟨v2, v3, v4, u6, u7, u8, M2, e2, g2, h2, f2⟩ := ih (a + 1) _ z2 z3 z4 (.inl (hR h : Int)) y7' y8' M1 (by omega) hs2 g X1
    rw [L_M_hinge_17, X.1, if_neg (by rw [le32_iff] <;> omega), show ((a : Int) + 1) = ((a + 1 : Nat) : Int) by omega, e]
    exact ⟨v2, v3, v4, u6, u7, u8, M2, e2, g2, h2, fun o i ho => (f2 o i ho).trans (f o i ho)⟩
theorem mg_hinge (hd : 7 ≤ d) (W : WF G) (X : MG M G) {b : Int} (hb : -2147483648 ≤ b ∧ b ≤ 2147483647) {v : Int} (ee : xF d 254 [.inr 62, .inl b] M = rI v M') : v = (if 0 ≤ b ∧ b < hR G then hgZ G b.toNat else -1) ∧ MG M' G := by
  obtain ⟨D, rfl, hD⟩ := dsucc hd
  have w1 := W.1
  have X1 := MG_thr X
  rw [T_M_hinge] at ee
  generalize pset M 60 17 0 = M0 at X1 ee
  rw [m_isRoom (by omega) X1.1.1 (by omega) (by omega) (by omega), pbI_rI] at ee
  by_cases q : 0 ≤ b ∧ b < (hR G : Int)
  · obtain ⟨r, rfl⟩ := natI q.1
    obtain ⟨x2, x3, x4, y6, y7, y8, M1, e, g, hs, f⟩ := m_hg17F (D := D) (by omega) W (r := r) (by omega) (hR G) 0 (-1, -1, -1) (-2) 0 0 (.inr 0) (.inr 0) (.inr 0) M0 (by omega) ⟨⟨by decide, by show (-1 : Int) < _; omega⟩, ⟨by decide, by decide⟩, ⟨fun _ => rfl, fun _ => rfl⟩⟩ (Or.inl ⟨rfl, rfl⟩) X1.1
    have e : xE D 254 17 [.inr 62, .inl (r : Int), .inl (-2), .inl 0, .inl 0, .inl 0, .inr 0, .inr 0, .inr 0] [] M0 = _ := e
    have X2 : MG M1 G := MG_ag (fun o i q => f o i (fun z => by rw [z] at q; cases q)) X1
    rw [if_pos q, if_pos (by decide), e, L_M_hinge_17, X2.1.1, if_pos (by rw [le32_iff] <;> omega)] at ee
    rw [if_pos q, Int.toNat_natCast]
    unfold hgZ
    generalize hgA G r (hR G) 0 (-1, -1, -1) = s at ee hs g ⊢
    rcases g with ⟨g1, g2⟩ | ⟨g1, g2, g3, g4⟩
    · rw [g2, if_neg (by decide)] at ee
      obtain ⟨z1, z2⟩ := rI_inj ee
      rw [if_pos g1, ← z1, ← z2]; exact ⟨rfl, X2⟩
    · have o1 := hs.1
      obtain ⟨M3, e3, k3, f3⟩ := m_tellX (d := D) (M := pset M1 60 16 0) (n := 0) (by omega) (by decide) pset_eq x3
      obtain ⟨M4, e4, k4, f4⟩ := m_tellX (d := D) (M := M3) (n := 1) (by omega) (by decide) k3 x4
      rw [if_pos (by rw [g2, le32_iff] <;> omega), e3, pbN_rV, e4, pbN_rV] at ee
      obtain ⟨z1, z2⟩ := rI_inj ee
      rw [if_neg g1, ← z1, ← z2]
      refine ⟨g2, MG_ag (fun o i q => ?_) X2⟩
      have h5 : ¬ (o = 60 ∧ i = 16) := fun z => by rw [z.1, z.2] at q; cases q
      have h6 : o ≠ 69 := fun z => by rw [z] at q; cases q
      rw [f4 o i h5 h6, f3 o i h5 h6]
      unfold pset
      rw [if_neg (fun z => h5 z)]
  · rw [if_neg q, if_neg (fun z => z rfl)] at ee
    obtain ⟨z1, z2⟩ := rI_inj ee
    rw [if_neg q, ← z1, ← z2]; exact ⟨rfl, X1⟩
end COJ
/-! judge, on both sides -/
def jdB (c : Int) (k : Nat) : Int := jdiv (jand (jshr c (7 * (k : Int))) 127) 10
def jdC (c : Int) (k : Nat) : Int := jrem (jand (jshr c (7 * (k : Int))) 127) 10
/-- the first carrying told that can't be -/
def jdZ (G : pM) (c : Int) : Nat → Nat → (Nat → Int) → Int → Int
  | 0, _, _, _ => -2
  | m + 1, k, p, e => if 0 ≤ attF G p e (jdB c k) (jdC c k) then jdZ G c m (k + 1) (fun i => if i = (jdB c k).toNat then jdC c k else p i) (e + attF G p e (jdB c k) (jdC c k)) else (k : Int)
/-- things elsewhere, something carried -/
def gWe (G : pM) (p : Nat → Int) (e : Int) : pM := fun o i => if o = 6 then p i else if o = 8 ∧ i = 1 then e else G o i
section COL
variable {D d : Nat} {M M' G H : pM} {p q : Nat → Int}
theorem jdB_r (c : Int) (k : Nat) : -2147483648 ≤ jdB c k ∧ jdB c k ≤ 2147483647 := by
  have ra : -2147483648 ≤ jdB c k := r32a _
  have rb : jdB c k < 2147483648 := r32b _
  omega
theorem jdC_r (c : Int) (k : Nat) : -2147483648 ≤ jdC c k ∧ jdC c k ≤ 2147483647 := by
  have ra : -2147483648 ≤ jdC c k := r32a _
  have rb : jdC c k < 2147483648 := r32b _
  omega
theorem rch_cg {w : Int} {a : Nat} (e : H 2 = G 2) : ∀ n, rch H w a n = rch G w a n
  | 0 => rfl
  | n + 1 => by
    show oneS H w (rch H w a n) = oneS G w (rch G w a n)
    rw [rch_cg e n]
    unfold oneS
    rw [e]
theorem stp_cg {w : Int} {a b : Nat} (e : H 2 = G 2) (eR : hR H = hR G) : stp H w a b = stp G w a b := by
  unfold stp
  rw [eR]
  exact firstN_congr fun i _ _ => by rw [rch_cg e]
theorem cst_we {t a b : Nat} {e : Int} : cst (gWe G p e) t a b = cst G t a b := by
  have : stp (gWe G p e) (G 4 t) a b = stp G (G 4 t) a b := stp_cg rfl rfl
  show (if stp (gWe G p e) (G 4 t) a b < 0 then (-1 : Int) else stp (gWe G p e) (G 4 t) a b * G 5 t) = cst G t a b
  rw [this]; rfl
theorem attF_we {e b c : Int} : attF (gWe G p e) (gWe G p e 6) (gWe G p e 8 1) b c = attF G p e b c := by
  show attF (gWe G p e) p e b c = attF G p e b c
  unfold attF att
  rw [cst_we]; rfl
theorem gWe_self : gWe G (G 6) (G 8 1) = G := by
  funext o i
  unfold gWe
  by_cases q : o = 6
  · rw [if_pos q, q]
  · rw [if_neg q]
    by_cases q2 : o = 8 ∧ i = 1
    · rw [if_pos q2, q2.1, q2.2]
    · rw [if_neg q2]
theorem WF_we (W : WF G) (hp : ∀ t, t < hT G → 0 ≤ p t ∧ p t < hR G) (e : Int) : WF (gWe G p e) := by
  obtain ⟨w1, w2, w3, w4, w5, w6, w7, w8, w9⟩ := W
  exact ⟨w1, w2, w3, w4, w5, w6, w7, fun t ht => ⟨(w8 t ht).1, (w8 t ht).2.1, (w8 t ht).2.2.1, hp t ht⟩, w9⟩
/-! the class -/
theorem x_att59 (hd : 5 ≤ d) (W : WF G) (X : XG M G) (P : PL M G 59 p) {b c : Int} (hb : -2147483648 ≤ b ∧ b ≤ 2147483647) (hc : -2147483648 ≤ c ∧ c ≤ 2147483647) (e : Int) : xF d 51 [.inr 2, .inl b, .inl c, .inr 61, .inl e] M = rI (attF G p e b c) M := by
  obtain ⟨D, rfl, hD⟩ := dsucc hd
  have w1 := W.1
  have w2 := W.2.1
  rw [T_X_attempt_59, c_isThing7 (by omega) W X.1 (by omega) (by omega), pbI_rI, ite01p]
  unfold attF
  by_cases q1 : 0 ≤ b ∧ b < (hT G : Int)
  · rw [if_pos q1, c_isRoom7 (by omega) W X.1 (by omega) (by omega), pbI_rI, ite01pn]
    by_cases q2 : 0 ≤ c ∧ c < (hR G : Int)
    · obtain ⟨x, rfl⟩ := natI q1.1
      obtain ⟨y, rfl⟩ := natI q2.1
      obtain ⟨hx, hw⟩ := P x (by omega)
      obtain ⟨z, hz⟩ := natI hw.1
      have cr := cst_range W (t := x) (by omega) z y
      rw [if_pos q2, if_pos ⟨q1, q2⟩, c_numberAt_59n (by omega) (by omega), pbI_rI, hx, hz, c_cost (by omega) W X.1 (by omega) (by omega) (by omega), pbI_rI]
      unfold att
      rw [Int.toNat_natCast, Int.toNat_natCast, hz, Int.toNat_natCast]
      by_cases q3 : cst G x z y < 0
      · rw [if_neg (by rw [le32_iff] <;> omega), if_pos q3]
      · rw [if_pos (by rw [le32_iff] <;> omega), if_neg q3, X.2.1.2.2]
        by_cases q4 : le32 (e + cst G x z y) (G 8 2)
        · rw [if_pos q4, if_pos q4]
        · rw [if_neg q4, if_neg q4]
    · rw [if_neg q2, if_neg (fun z => q2 z.2)]
  · rw [if_neg q1, if_neg (fun z => q1 z.1)]
theorem x_jdE (hD : 6 ≤ D) (W : WF G) (X : XG M G) (P : PL M G 59 p) (x3 x4 : Int) : ∃ M', (pbN (xF D 127 [.inr 7] M) fun M1 =>
 pbN (xF D 128 [.inr 7, .inl x3] M1) fun M2 =>
 pbI (xF D 91 [.inr 9, .inr 61] M2) fun v4 M3 =>
 if eq32 v4 0 then
 (pbN (xF D 128 [.inr 7, .inl 0] M3) fun M5 =>
 some (some (.inl x4), M5))
 else
 (pbN (xF D 128 [.inr 7, .inl 1] M3) fun M6 =>
 some (some (.inl x4), M6))) = rI x4 M' := by
  obtain ⟨D', rfl, hD'⟩ := dsucc (show 1 ≤ D by omega)
  obtain ⟨M1, e1, k1, f1⟩ := x_tell (d := D' + 1) (M := pset M 5 1 0) (n := 0) (by omega) (by decide) pset_eq x3
  have X1 : XH M1 G := XH_eq X.1 (fun o i h1 h2 _ => by rw [f1 o i (by omega) (by omega), pset_ne (by omega)])
  have P1 : PL M1 G 59 p := fun t ht => by rw [f1 59 t (by decide) (by decide), pset_ne (by decide)]; exact P t ht
  have el := @c_lawful_59 (D' + 1) M1 G p (by omega) W X1 P1 (inferInstanceAs (Decidable (ptd G p = 0 ∧ ovf G p = 0)))
  have tl : ∀ v : Int, ∃ M', xF (D' + 1) 128 [.inr 7, .inl v] M1 = rV M' := fun v => by
    obtain ⟨M2, e2, -⟩ := x_tell (d := D' + 1) (M := M1) (n := 1) (by omega) (by decide) k1 v
    exact ⟨M2, e2⟩
  obtain ⟨Ma, ea⟩ := tl 0
  obtain ⟨Mb, eb⟩ := tl 1
  rw [T_Numbers_start, pbN_rV, e1, pbN_rV, el, pbI_rI, ea, eb, pbN_rV, pbN_rV]
  split
  · exact ⟨_, rfl⟩
  · exact ⟨_, rfl⟩
theorem x_jd19 (hD : 6 ≤ D) (W : WF G) {n : Nat} (hn : n ≤ 4) (c : Int) : ∀ (m k : Nat) (x3 : Int) (p : Nat → Int) (y6 y7 : pV) (M : pM), k + m = n → XG M G → PL M G 59 p → ∃ M', xE D 15 19 [.inr 2, .inl (n : Int), .inl c, .inl x3, .inl (-2), .inl (k : Int), y6, y7] [] M = rI (jdZ G c m k p (G 8 1 + x3)) M' := by
  have w1 := W.1
  have w2 := W.2.1
  intro m
  induction m with
  | zero =>
    intro k x3 p y6 y7 M hk X P
    rw [L_X_judge_19, if_pos (by rw [le32_iff] <;> omega)]
    exact x_jdE hD W X P x3 (-2)
  | succ m ih =>
    intro k x3 p y6 y7 M hk X P
    have eB : jdiv (jand (jshr c (7 * (k : Int))) 127) 10 = jdB c k := rfl
    have eC : jrem (jand (jshr c (7 * (k : Int))) 127) 10 = jdC c k := rfl
    have rb := jdB_r c k
    have rc := jdC_r c k
    have ar := attF_range (p := p) W (G 8 1 + x3) (jdB c k) (jdC c k)
    rw [L_X_judge_19, if_neg (by rw [le32_iff] <;> omega), if_neg (fun z => z rfl), X.2.1.2.1]
    have ea := x_att59 (d := D) (by omega) W X P rb rc (G 8 1 + x3)
    have u : jdZ G c (m + 1) k p (G 8 1 + x3) = if 0 ≤ attF G p (G 8 1 + x3) (jdB c k) (jdC c k) then jdZ G c m (k + 1) (fun i => if i = (jdB c k).toNat then jdC c k else p i) (G 8 1 + x3 + attF G p (G 8 1 + x3) (jdB c k) (jdC c k)) else (k : Int) := rfl
    rw [u]
    rw [eB, eC, ea, pbI_rI, show ((k : Int) + 1) = ((k + 1 : Nat) : Int) by omega]
    clear eB eC ea u
    generalize jdB c k = b at rb ar ⊢
    generalize jdC c k = r at rc ar ⊢
    by_cases q : 0 ≤ attF G p (G 8 1 + x3) b r
    · obtain ⟨⟨r1, r2⟩, -⟩ := attF_room q
      obtain ⟨x, rfl⟩ := natI r1.1
      rw [if_pos (by rw [le32_iff] <;> omega), if_pos (by omega), if_pos q, Int.toNat_natCast, Int.add_assoc]
      refine ih (k + 1) (x3 + attF G p (G 8 1 + x3) (x : Int) r) (fun i => if i = x then r else p i) _ _ (pset M 59 x r) (by omega) (XG_Fr (w := [(59, 999)]) (Fr_set Fr_rfl (wOK_r (by decide) _)) (by decide) X) (fun t ht => ?_)
      by_cases z : t = x
      · rw [z, pset_eq]
        simp only [if_true]
        exact ⟨trivial, r2.1, r2.2⟩
      · rw [pset_ne2 z]
        simp only [if_neg z]
        exact P t ht
    · rw [if_neg (by rw [le32_iff] <;> omega), if_neg q, L_X_judge_19]
      by_cases z : le32 (n : Int) ((k + 1 : Nat) : Int)
      · rw [if_pos z]
        exact x_jdE hD W X P x3 (k : Int)
      · rw [if_neg z, if_pos (by rw [eq32_iff] <;> omega)]
        exact x_jdE hD W X P x3 (k : Int)
theorem xg_judge (hd : 7 ≤ d) (W : WF G) (X : XG M G) {b c : Int} (hb : -2147483648 ≤ b ∧ b ≤ 2147483647) {v : Int} (ee : xF d 15 [.inr 2, .inl b, .inl c] M = rI v M') : v = if 0 ≤ b ∧ b ≤ 4 then jdZ G c b.toNat 0 (G 6) (G 8 1) else -1 := by
  obtain ⟨D, rfl, hD⟩ := dsucc hd
  rw [T_X_judge] at ee
  have w2 := W.2.1
  by_cases q : b < 0
  · rw [if_pos (by rw [lt32_iff] <;> omega)] at ee
    rw [if_neg (by omega)]
    exact (rI_inj ee).1.symm
  · rw [if_neg (by rw [lt32_iff] <;> omega)] at ee
    by_cases q2 : b ≤ 4
    · obtain ⟨n, rfl⟩ := natI (show 0 ≤ b by omega)
      have P : PL (pcp M 13 59 10) G 59 (G 6) := fun t ht => by
        rw [pcp_eq (by omega)]; exact PL13 W X t ht
      have X1 : XG (pcp M 13 59 10) G := XG_ag (fun o i h => pcp_ne (fun z => by rw [z] at h; cases h)) X
      obtain ⟨M1, e⟩ := x_jd19 (D := D) (by omega) W (n := n) (by omega) c n 0 0 (G 6) (.inr 0) (.inr 0) (pcp M 13 59 10) (by omega) X1 P
      have e' : xE D 15 19 [.inr 2, .inl (n : Int), .inl c, .inl 0, .inl (-2), .inl 0, .inr 0, .inr 0] [] (pcp M 13 59 10) = _ := e
      rw [if_pos (by rw [le32_iff] <;> omega), c_copy_13_59 (by omega), pbN_rV, e', Int.add_zero] at ee
      rw [if_pos (by omega), Int.toNat_natCast]
      exact (rI_inj ee).1.symm
    · rw [if_neg (by rw [le32_iff] <;> omega)] at ee
      rw [if_neg (by omega)]
      exact (rI_inj ee).1.symm
/-! the reference -/
theorem MG_we {e e' : Int} (X : MG M (gWe G p e)) (e66 : ∀ t, t < hT G → M' 66 t = q t) (e11 : M' 60 11 = e') (eo : ∀ o i, cm o i = true → o ≠ 66 → ¬ (o = 60 ∧ i = 11) → M' o i = M o i) : MG M' (gWe G q e') := by
  obtain ⟨⟨x1, x2, x3, x4, x5, x6, x7⟩, ⟨d1, d2, d3⟩, ⟨p1, p2⟩, k⟩ := X
  refine ⟨⟨by rw [eo 60 0 rfl (by omega) (by omega)]; exact x1, by rw [eo 60 3 rfl (by omega) (by omega)]; exact x2, by rw [eo 60 8 rfl (by omega) (by omega)]; exact x3, fun r hr => by rw [eo 61 r rfl (by omega) (by omega)]; exact x4 r hr, fun q hq => by rw [eo 62 q rfl (by omega) (by omega)]; exact x5 q hq, fun t ht => ?_, fun s hs => by rw [eo 67 s rfl (by omega) (by omega)]; exact x7 s hs⟩, ⟨by rw [eo 60 10 rfl (by omega) (by omega)]; exact d1, e11, by rw [eo 60 12 rfl (by omega) (by omega)]; exact d3⟩, ⟨by rw [eo 60 33 rfl (by omega) (by omega)]; exact p1, fun j hj => ?_⟩, fun i hi => ?_⟩
  · obtain ⟨y1, y2, y3, -⟩ := x6 t ht
    rw [eo 63 t rfl (by omega) (by omega), eo 64 t rfl (by omega) (by omega), eo 65 t rfl (by omega) (by omega)]
    exact ⟨y1, y2, y3, e66 t ht⟩
  · rw [eo 75 _ rfl (by omega) (by omega), eo 75 _ rfl (by omega) (by omega), eo 75 _ rfl (by omega) (by omega)]; exact p2 j hj
  · have a : ∀ j, M' 87 j = M 87 j := fun j => eo 87 j rfl (by omega) (by omega)
    have bb : ∀ j, M' 88 j = M 88 j := fun j => eo 88 j rfl (by omega) (by omega)
    have cc : ∀ j, M' 89 j = M 89 j := fun j => eo 89 j rfl (by omega) (by omega)
    have g16 : ∀ j, gWe G q e' (16 + i) j = gWe G p e (16 + i) j := fun j => by
      unfold gWe
      rw [if_neg (by omega), if_neg (by omega), if_neg (by omega), if_neg (by omega)]
    simp only [a, bb, cc, eo 60 52 rfl (by omega) (by omega), g16]
    exact k i hi
/-- a thing is carried, nothing is remembered -/
theorem m_carF (hd : 4 ≤ d) (W : WF H) (X : MG M H) {b c : Int} (h : 0 ≤ attF H (H 6) (H 8 1) b c) : ∃ M', xF d 214 [.inr 62, .inl b, .inl c] M = rI (attF H (H 6) (H 8 1) b c) M' ∧ (∀ i, M' 66 i = if i = b.toNat then c else M 66 i) ∧ M' 60 11 = H 8 1 + attF H (H 6) (H 8 1) b c ∧ ∀ o i, o ≠ 66 → o ≠ 74 → ¬ (o = 60 ∧ i = 11) → M' o i = M o i := by
  obtain ⟨D, rfl, hD⟩ := dsucc hd
  have w1 := W.1
  have w2 := W.2.1
  obtain ⟨⟨r1, r2⟩, r3, r4, r5⟩ := attF_room h
  generalize attF H (H 6) (H 8 1) b c = kk at *
  obtain ⟨x, rfl⟩ := natI r1.1
  obtain ⟨y, rfl⟩ := natI r2.1
  rw [Int.toNat_natCast, Int.toNat_natCast] at r3 r4 r5
  obtain ⟨h63, h64, h65, h66⟩ := X.1.2.2.2.2.2.1 x (by omega)
  have hw := W.2.2.2.2.2.2.2.1 x (by omega)
  obtain ⟨z, hz⟩ := natI hw.2.2.2.1
  obtain ⟨M2, e2, f2⟩ := m_stepsF (d := D) (M := M) (t := x) (a := z) (b := y) (by omega) W (by omega) (by omega) (by omega) h64 X.1.2.2.2.2.1 X.1.1
  have sr := stp_range W (H 4 x) z y
  have i0 : (0 : Int) ≤ (x : Int) ∧ (x : Int) < 10 := by omega
  have ek : fv H (H 4 x) z y * H 5 x = kk := by
    rw [r5, hz, Int.toNat_natCast]
    rw [hz, Int.toNat_natCast] at r3
    unfold fv
    unfold cst at r3 ⊢
    by_cases q : stp H (H 4 x) z y < 0
    · rw [if_pos q] at r3; omega
    · rw [if_neg q, if_neg q]
  have k65 : M2 65 x = H 5 x := by rw [f2 65 x (by decide), h65]
  refine ⟨pset (pset M2 66 x (y : Int)) 60 11 (pset M2 66 x (y : Int) 60 11 + kk), ?_, fun i => ?_, ?_, fun o i a1 a2 a3 => ?_⟩
  · rw [T_M_carries, if_pos i0, Int.toNat_natCast, h66, hz, e2, pbI_rI, if_pos i0, if_pos i0, k65, ek]
  · rw [Int.toNat_natCast, pset_ne (show 66 ≠ 60 by decide)]
    by_cases q : i = x
    · rw [q, pset_eq, if_pos rfl]
    · rw [pset_ne2 q, if_neg q, f2 66 i (by decide)]
  · rw [pset_eq, pset_ne (show 60 ≠ 66 by decide), f2 60 11 (by decide), X.2.1.2.1]
  · have e : pset (pset M2 66 x (y : Int)) 60 11 (pset M2 66 x (y : Int) 60 11 + kk) o i = M2 o i := by
      unfold pset
      rw [if_neg (fun z => a3 z), if_neg (fun z => a1 z.1)]
    rw [e, f2 o i a2]
theorem m_jd85F (hD : 1 ≤ D) (hT10 : hT G ≤ 10) (x1 x2 x4 x5 x6 : Int) {e : Int} : ∀ (m t : Nat) (M : pM), t + m = hT G → (∃ p, MG M (gWe G p e) ∧ ∀ i, i < t → p i = G 6 i) → (∀ i, i < hT G → M 77 i = G 6 i) → ∃ M', xE D 221 85 [.inr 62, .inl x1, .inl x2, .inl (G 8 1), .inl x4, .inl x5, .inl x6, .inl (t : Int)] [] M = rI x4 M' ∧ MG M' G := by
  intro m
  induction m with
  | zero =>
    intro t M ht ⟨p, X, hp⟩ h77
    have h3 : M 60 3 = (hT G : Int) := X.1.2.1
    obtain ⟨M1, e1, k1, f1⟩ := m_tellX (d := D) (M := pset (pset M 60 11 (G 8 1)) 60 16 0) (n := 0) hD (by decide) pset_eq x5
    obtain ⟨M2, e2, k2, f2⟩ := m_tellX (d := D) (M := M1) (n := 1) hD (by decide) k1 x6
    rw [L_M_judge_85, h3, if_pos (by rw [le32_iff] <;> omega), e1, pbN_rV, e2, pbN_rV]
    have ho : ∀ o i, ¬ (o = 60 ∧ i = 16) → o ≠ 69 → ¬ (o = 60 ∧ i = 11) → M2 o i = M o i := fun o i a b c => by
      rw [f2 o i a b, f1 o i a b]
      unfold pset
      rw [if_neg (fun z => a z), if_neg (fun z => c z)]
    refine ⟨M2, rfl, ?_⟩
    have := MG_we (M' := M2) (q := G 6) (e' := G 8 1) X (fun t ht2 => by
      rw [ho 66 t (by omega) (by omega) (by omega), (X.1.2.2.2.2.2.1 t ht2).2.2.2]
      exact hp t (by omega)) (by
      rw [f2 60 11 (by omega) (by omega), f1 60 11 (by omega) (by omega), pset_ne2 (by decide), pset_eq]) (fun o i hc a b => ho o i (fun z => by rw [z.1, z.2] at hc; cases hc) (fun z => by rw [z] at hc; cases hc) b)
    rw [gWe_self] at this
    exact this
  | succ m ih =>
    intro t M ht ⟨p, X, hp⟩ h77
    have h3 : M 60 3 = (hT G : Int) := X.1.2.1
    rw [L_M_judge_85, h3, if_neg (by rw [le32_iff] <;> omega), if_pos (by omega), if_pos (by omega), Int.toNat_natCast, h77 t (by omega), show ((t : Int) + 1) = ((t + 1 : Nat) : Int) by omega]
    refine ih (t + 1) (pset M 66 t (G 6 t)) (by omega) ⟨fun i => if i = t then G 6 t else p i, ?_, fun i hi => ?_⟩ (fun i hi => by rw [pset_ne (by decide)]; exact h77 i hi)
    · refine MG_we X (fun i hi => ?_) (by rw [pset_ne (by decide)]; exact X.2.1.2.1) (fun o i _ a _ => pset_ne a)
      by_cases q : i = t
      · rw [q, pset_eq]; simp only [if_true]
      · rw [pset_ne2 q]; simp only [if_neg q]
        exact (X.1.2.2.2.2.2.1 i hi).2.2.2
    · by_cases q : i = t
      · simp only [if_pos q]; rw [q]
      · simp only [if_neg q]; exact hp i (by omega)
theorem m_jdE (hD : 4 ≤ D) (W : WF G) {e : Int} (hp : ∀ t, t < hT G → 0 ≤ p t ∧ p t < hR G) (X : MG M (gWe G p e)) (h77 : ∀ i, i < hT G → M 77 i = G 6 i) (x1 x2 x4 x5 : Int) : ∃ M', (pbI (xF D 212 [.inr 62, .inr 68] M) fun v2 M1 =>
 if eq32 v2 0 then
 xE D 221 85 [.inr 62, .inl x1, .inl x2, .inl (G 8 1), .inl x4, .inl x5, .inl 0, .inl 0] [] M1
 else
 xE D 221 85 [.inr 62, .inl x1, .inl x2, .inl (G 8 1), .inl x4, .inl x5, .inl 1, .inl 0] [] M1) = rI x4 M' ∧ MG M' G := by
  have W2 := WF_we W hp e
  obtain ⟨u1, u2⟩ := m_law66F (d := D) (by omega) W2 X
  have fin : ∀ x6, ∃ M', xE D 221 85 [.inr 62, .inl x1, .inl x2, .inl (G 8 1), .inl x4, .inl x5, .inl x6, .inl 0] [] M = rI x4 M' ∧ MG M' G := fun x6 => m_jd85F (D := D) (by omega) W.2.1 x1 x2 x4 x5 x6 (hT G) 0 M (by omega) ⟨p, X, fun i hi => absurd hi (Nat.not_lt_zero i)⟩ h77
  by_cases q : lwf (gWe G p e) (gWe G p e 6)
  · rw [u1 q, pbI_rI, if_neg (by decide)]; exact fin 1
  · rw [u2 q, pbI_rI, if_pos rfl]; exact fin 0
theorem m_jd35F (hD : 5 ≤ D) (W : WF G) {n : Nat} (hn : n ≤ 4) (c : Int) : ∀ (m k : Nat) (x5 e : Int) (p : Nat → Int) (y7 : pV) (M : pM), k + m = n → (∀ t, t < hT G → 0 ≤ p t ∧ p t < hR G) → MG M (gWe G p e) → (∀ i, i < hT G → M 77 i = G 6 i) → ∃ M', xE D 221 35 [.inr 62, .inl (n : Int), .inl c, .inl (G 8 1), .inl (-2), .inl x5, .inl (k : Int), y7] [] M = rI (jdZ G c m k p e) M' ∧ MG M' G := by
  have w1 := W.1
  have w2 := W.2.1
  intro m
  induction m with
  | zero =>
    intro k x5 e p y7 M hk hp X h77
    rw [L_M_judge_35, if_pos (by rw [le32_iff] <;> omega)]
    exact m_jdE (by omega) W hp X h77 _ _ _ _
  | succ m ih =>
    intro k x5 e p y7 M hk hp X h77
    have eB : jdiv (jand (jshr c (7 * (k : Int))) 127) 10 = jdB c k := rfl
    have eC : jrem (jand (jshr c (7 * (k : Int))) 127) 10 = jdC c k := rfl
    have rb := jdB_r c k
    have rc := jdC_r c k
    have W2 := WF_we W hp e
    have ar := attF_range (p := p) W e (jdB c k) (jdC c k)
    obtain ⟨M1, e1, f1⟩ := m_refF (d := D) (by omega) W2 X rb rc
    rw [attF_we] at e1
    have X1 : MG M1 (gWe G p e) := MG_ag (fun o i q => f1 o i (fun z => by rw [z] at q; cases q)) X
    have k77 : ∀ i, i < hT G → M1 77 i = G 6 i := fun i hi => by rw [f1 77 i (by decide)]; exact h77 i hi
    have u : jdZ G c (m + 1) k p e = if 0 ≤ attF G p e (jdB c k) (jdC c k) then jdZ G c m (k + 1) (fun i => if i = (jdB c k).toNat then jdC c k else p i) (e + attF G p e (jdB c k) (jdC c k)) else (k : Int) := rfl
    have hcar : 0 ≤ attF G p e (jdB c k) (jdC c k) → _ := fun h => m_carF (d := D) (by omega) W2 X1 (b := jdB c k) (c := jdC c k) (by rw [attF_we]; exact h)
    rw [attF_we] at hcar
    rw [L_M_judge_35, if_neg (by rw [le32_iff] <;> omega), if_neg (fun z => z rfl), u]
    rw [eB, eC, e1, pbI_rI, show ((k : Int) + 1) = ((k + 1 : Nat) : Int) by omega]
    clear eB eC e1 u
    generalize jdB c k = b at rb ar hcar ⊢
    generalize jdC c k = r at rc ar hcar ⊢
    by_cases q : 0 ≤ attF G p e b r
    · obtain ⟨M2, e2, r1, r2, r3⟩ := hcar q
      obtain ⟨⟨s1, s2⟩, -⟩ := attF_room q
      rw [if_pos q, if_pos (by decide), e2, pbI_rI, if_pos q]
      refine ih (k + 1) _ (e + attF G p e b r) (fun i => if i = b.toNat then r else p i) _ M2 (by omega) (fun t ht => ?_) (MG_we X1 (fun t ht => ?_) r2 (fun o i hc a1 a2 => r3 o i a1 (fun z => by rw [z] at hc; cases hc) a2)) (fun i hi => ?_)
      · by_cases z : t = b.toNat
        · simp only [if_pos z]; exact s2
        · simp only [if_neg z]; exact hp t ht
      · rw [r1 t]
        by_cases z : t = b.toNat
        · simp only [if_pos z]
        · simp only [if_neg z]; exact (X1.1.2.2.2.2.2.1 t ht).2.2.2
      · rw [r3 77 i (by decide) (by decide) (by omega)]; exact k77 i hi
    · rw [if_neg q, if_neg (by rw [le32_iff] <;> omega), if_neg q, L_M_judge_35]
      by_cases z : le32 (n : Int) ((k + 1 : Nat) : Int)
      · rw [if_pos z]
        exact m_jdE (by omega) W hp X1 k77 _ _ _ _
      · rw [if_neg z, if_pos (by rw [eq32_iff] <;> omega)]
        exact m_jdE (by omega) W hp X1 k77 _ _ _ _
theorem m_jd12 (hT10 : hT G ≤ 10) (x1 x2 : Int) : ∀ (m t : Nat) (M : pM), t + m = hT G → MG M G → (∀ i, i < t → M 77 i = G 6 i) → ∃ M', xE D 221 12 [.inr 62, .inl x1, .inl x2, .inl (t : Int), .inr 0, .inr 0, .inr 0, .inr 0] [] M = xE D 221 35 [.inr 62, .inl x1, .inl x2, .inl (G 8 1), .inl (-2), .inl 0, .inl 0, .inr 0] [] M' ∧ MG M' G ∧ ∀ i, i < hT G → M' 77 i = G 6 i := by
  intro m
  induction m with
  | zero =>
    intro t M ht X h77
    rw [L_M_judge_12, X.1.2.1, if_pos (by rw [le32_iff] <;> omega), X.2.1.2.1]
    exact ⟨M, rfl, X, fun i hi => h77 i (by omega)⟩
  | succ m ih =>
    intro t M ht X h77
    rw [L_M_judge_12, X.1.2.1, if_neg (by rw [le32_iff] <;> omega), if_pos (by omega), if_pos (by omega), Int.toNat_natCast, show ((t : Int) + 1) = ((t + 1 : Nat) : Int) by omega, (X.1.2.2.2.2.2.1 t (by omega)).2.2.2]
    refine ih (t + 1) _ (by omega) (MG_Fr (w := [(77, 999)]) (Fr_set Fr_rfl (wOK_r (by decide) _)) (by decide) X) (fun i hi => ?_)
    by_cases q : i = t
    · rw [q, pset_eq]
    · rw [pset_ne2 q]; exact h77 i (by omega)
theorem mg_judge (hd : 6 ≤ d) (W : WF G) (X : MG M G) {b c : Int} (hb : -2147483648 ≤ b ∧ b ≤ 2147483647) {v : Int} (ee : xF d 221 [.inr 62, .inl b, .inl c] M = rI v M') : (v = if 0 ≤ b ∧ b ≤ 4 then jdZ G c b.toNat 0 (G 6) (G 8 1) else -1) ∧ MG M' G := by
  obtain ⟨D, rfl, hD⟩ := dsucc hd
  have X1 := MG_thr X
  rw [T_M_judge, m_in (by omega), pbI_rI] at ee
  generalize pset M 60 17 0 = M0 at X1 ee
  by_cases q : lt32 b 0 ∨ lt32 4 b
  · rw [if_pos q, if_neg (fun z => z rfl)] at ee
    rw [lt32_iff (by omega) (by omega) (by omega) (by omega), lt32_iff (by omega) (by omega) (by omega) (by omega)] at q
    obtain ⟨z1, z2⟩ := rI_inj ee
    rw [← z1, ← z2, if_neg (by omega)]; exact ⟨rfl, X1⟩
  · rw [if_neg q, if_pos (by decide)] at ee
    rw [lt32_iff (by omega) (by omega) (by omega) (by omega), lt32_iff (by omega) (by omega) (by omega) (by omega)] at q
    obtain ⟨n, rfl⟩ := natI (show 0 ≤ b by omega)
    obtain ⟨M1, e1, X2, h77⟩ := m_jd12 (D := D) W.2.1 (n : Int) c (hT G) 0 M0 (by omega) X1 (fun i hi => absurd hi (Nat.not_lt_zero i))
    have e1' : xE D 221 12 [.inr 62, .inl (n : Int), .inl c, .inl 0, .inr 0, .inr 0, .inr 0, .inr 0] [] M0 = _ := e1
    obtain ⟨M2, e2, X3⟩ := m_jd35F (D := D) (by omega) W (n := n) (by omega) c n 0 0 (G 8 1) (G 6) (.inr 0) M1 (by omega) (fun t ht => (W.2.2.2.2.2.2.2.1 t ht).2.2.2) (by rw [gWe_self]; exact X2) h77
    have e2' : xE D 221 35 [.inr 62, .inl (n : Int), .inl c, .inl (G 8 1), .inl (-2), .inl 0, .inl 0, .inr 0] [] M1 = _ := e2
    rw [e1', e2'] at ee
    obtain ⟨z1, z2⟩ := rI_inj ee
    rw [← z1, ← z2, if_pos (by omega), Int.toNat_natCast]; exact ⟨rfl, X3⟩
end COL
/-! day, on both sides -/
noncomputable def dyC (tx : Nat → Int) (st a : Nat) : rgs := if 97 ≤ hc tx st a ∧ hc tx st a ≤ 106 then .inr (a + 1) else .inl a
/-- one carrying is read -/
noncomputable def dyO (tx : Nat → Int) (st : Nat) : rgs → rgs
  | .inl p => .inl p
  | .inr a => sgD tx st 0 9 (sgN tx st 62 (dyC tx st a))
noncomputable def dyS (tx : Nat → Int) (st : Nat) : Nat → Nat → rgs
  | 0, a => .inl a
  | f + 1, a => match dyO tx st (.inr a) with
    | .inl p => .inl p
    | .inr b => if hc tx st b = 59 then dyS tx st f (b + 1) else .inr b
noncomputable def dyT (tx : Nat → Int) (st f b : Nat) : rgs := if hc tx st b = 59 then dyS tx st f (b + 1) else .inr b
/-- where the text can't stand, -1: it can -/
def dyG (L : Nat) : rgs → Int
  | .inl p => (p : Int)
  | .inr b => if b < L then (b : Int) else -1
/-- carryings are done till one can't be -/
def dyRun (tx : Nat → Int) : Nat → Nat → pM → Nat × pM
  | 0, k, G => (k, G)
  | m + 1, k, G => if 0 ≤ attF G (G 6) (G 8 1) (tx (4 * k) - 97) (tx (4 * k + 2) - 48) then dyRun tx m (k + 1) (gCarry G (tx (4 * k) - 97).toNat (tx (4 * k + 2) - 48).toNat) else (k, G)
section DYS
variable {tx : Nat → Int} {st : Nat}
theorem dyO_inr {a b : Nat} (h : dyO tx st (.inr a) = .inr b) : b = a + 3 ∧ (97 ≤ tx a ∧ tx a ≤ 106) ∧ (48 ≤ tx (a + 2) ∧ tx (a + 2) ≤ 57) ∧ a + 2 < st := by
  have h : sgD tx st 0 9 (sgN tx st 62 (dyC tx st a)) = .inr b := h
  unfold dyC at h
  by_cases q1 : 97 ≤ hc tx st a ∧ hc tx st a ≤ 106
  · rw [if_pos q1] at h
    have h : sgD tx st 0 9 (if hc tx st (a + 1) = 62 then .inr (a + 1 + 1) else .inl (a + 1)) = .inr b := h
    by_cases q2 : hc tx st (a + 1) = 62
    · rw [if_pos q2] at h
      have h : (if 48 ≤ hc tx st (a + 1 + 1) ∧ hc tx st (a + 1 + 1) ≤ 57 ∧ 0 ≤ hc tx st (a + 1 + 1) - 48 ∧ hc tx st (a + 1 + 1) - 48 ≤ 9 then (.inr (a + 1 + 1 + 1) : rgs) else .inl (a + 1 + 1)) = .inr b := h
      by_cases q3 : 48 ≤ hc tx st (a + 1 + 1) ∧ hc tx st (a + 1 + 1) ≤ 57 ∧ 0 ≤ hc tx st (a + 1 + 1) - 48 ∧ hc tx st (a + 1 + 1) - 48 ≤ 9
      · rw [if_pos q3] at h
        have l2 : a + 1 + 1 < st := hc_lt (tx := tx) (by omega)
        have l0 : a < st := by omega
        have e2 : hc tx st (a + 1 + 1) = tx (a + 1 + 1) := if_pos l2
        have e0 : hc tx st a = tx a := if_pos l0
        cases h
        exact ⟨rfl, by omega, by rw [show a + 2 = a + 1 + 1 from rfl]; omega, l2⟩
      · rw [if_neg q3] at h; cases h
    · rw [if_neg q2] at h
      exact absurd (show (.inl (a + 1) : rgs) = .inr b from h) (fun z => by cases z)
  · rw [if_neg q1] at h
    exact absurd (show (.inl a : rgs) = .inr b from h) (fun z => by cases z)
theorem dyO_inl {a p : Nat} (h : dyO tx st (.inr a) = .inl p) : p ≤ a + 2 := by
  have h : sgD tx st 0 9 (sgN tx st 62 (dyC tx st a)) = .inl p := h
  unfold dyC at h
  by_cases q1 : 97 ≤ hc tx st a ∧ hc tx st a ≤ 106
  · rw [if_pos q1] at h
    have h : sgD tx st 0 9 (if hc tx st (a + 1) = 62 then .inr (a + 1 + 1) else .inl (a + 1)) = .inl p := h
    by_cases q2 : hc tx st (a + 1) = 62
    · rw [if_pos q2] at h
      have h : (if 48 ≤ hc tx st (a + 1 + 1) ∧ hc tx st (a + 1 + 1) ≤ 57 ∧ 0 ≤ hc tx st (a + 1 + 1) - 48 ∧ hc tx st (a + 1 + 1) - 48 ≤ 9 then (.inr (a + 1 + 1 + 1) : rgs) else .inl (a + 1 + 1)) = .inl p := h
      by_cases q3 : 48 ≤ hc tx st (a + 1 + 1) ∧ hc tx st (a + 1 + 1) ≤ 57 ∧ 0 ≤ hc tx st (a + 1 + 1) - 48 ∧ hc tx st (a + 1 + 1) - 48 ≤ 9
      · rw [if_pos q3] at h; cases h
      · rw [if_neg q3] at h; cases h; exact Nat.le_refl _
    · rw [if_neg q2] at h
      have h : (.inl (a + 1) : rgs) = .inl p := h
      cases h; omega
  · rw [if_neg q1] at h
    have h : (.inl a : rgs) = .inl p := h
    cases h; omega
end DYS
section COD
variable {tx : Nat → Int} {D d st L : Nat} {M M' G : pM}
/-! the class reads a day -/
theorem x_letterB (hd : 3 ≤ d) {p : Nat} (h : XSt tx st M (.inl p)) (lo hi : Int) (h1 : 0 ≤ lo) (h2 : lo ≤ 10) : xF d 140 [.inr 5, .inl lo, .inl hi] M = rI (-1) M := by
  obtain ⟨D, rfl, hD⟩ := dsucc hd
  obtain ⟨D', rfl, hD'⟩ := dsucc (show 1 ≤ D by omega)
  rw [T_Reader_letter, x_peekB (by omega) h, pbI_rI, T_Reader_counted_3, if_pos (by rw [lt32_iff] <;> omega), x_failB (by omega) h, pbN_rV, pbI_rI]
theorem x_rc (hd : 4 ≤ d) {s : rgs} (h : XSt tx st M s) : ∃ M', xF d 55 [.inr 2] M = rV M' ∧ XSt tx st M' (dyO tx st s) ∧ AGx M M' := by
  obtain ⟨D, rfl, hD⟩ := dsucc hd
  rw [T_X_readCarrying]
  cases s with
  | inl p =>
    obtain ⟨M2, e2, x2, a2⟩ := x_take (d := D) (by omega) h (c := 62) (by decide) (by decide)
    obtain ⟨v, M3, e3, x3, a3, -⟩ := x_digit (d := D) (by omega) x2 (lo := 0) (hi := 9) (by decide) (by decide) (by decide) (by decide)
    have e3' : xF D 139 [.inr 5, .inl 0, .inl 10] M2 = rI v M3 := e3
    rw [x_letterB (by omega) h 0 10 (by decide) (by decide), pbI_rI, e2, pbN_rV, e3', pbI_rI]
    exact ⟨M3, rfl, x3, AGx_tr a2 a3⟩
  | inr a =>
    obtain ⟨v1, M1, e1, a1, alt⟩ := x_letter (d := D) (T := 10) (by omega) h (lo := 0) (by decide) (by decide) (by decide)
    have e1' : xF D 140 [.inr 5, .inl 0, .inl 10] M = rI v1 M1 := e1
    have x1 : XSt tx st M1 (dyC tx st a) := by
      unfold dyC
      rcases alt with ⟨r1, r2, -, r3⟩ | ⟨r1, -, r3⟩
      · rw [if_pos (by omega)]; exact r3
      · rw [if_neg (by omega)]; exact r3
    obtain ⟨M2, e2, x2, a2⟩ := x_take (d := D) (by omega) x1 (c := 62) (by decide) (by decide)
    obtain ⟨v, M3, e3, x3, a3, -⟩ := x_digit (d := D) (by omega) x2 (lo := 0) (hi := 9) (by decide) (by decide) (by decide) (by decide)
    have e3' : xF D 139 [.inr 5, .inl 0, .inl 10] M2 = rI v M3 := e3
    rw [e1', pbI_rI, e2, pbN_rV, e3', pbI_rI]
    exact ⟨M3, rfl, x3, AGx_tr a1 (AGx_tr a2 a3)⟩
theorem x_dyB (hD : 1 ≤ D) {p : Nat} (h : XSt tx st M (.inl p)) (x1 : Int) : xE D 54 14 [.inr 2, .inl x1] [] M = rI (p : Int) M := by
  rw [L_X_dayFault_14]
  split
  · rw [x_faultB hD h, pbI_rI]
  · rw [x_goesB hD h, pbI_rI, if_pos rfl, x_faultB hD h, pbI_rI]
theorem x_dy14 (hD : 4 ≤ D) (hL : L ≤ 80) (hst : st = min L 40) : ∀ (f x b : Nat) (M : pM), XSt tx st M (.inr b) → M 1 1 = (L : Int) → 40 ≤ b + 4 * f → 4 * x ≤ b → ∃ M', xE D 54 14 [.inr 2, .inl (x : Int)] [] M = rI (dyG L (dyT tx st f b)) M' ∧ AGx M M' := by
  intro f
  induction f with
  | zero =>
    intro x b M h h1 hf hx
    have hb := h.2.2.2.2.2.2.2.1
    have nb : ¬ hc tx st b = 59 := fun z => by
      have := hc_lt (tx := tx) (st := st) (a := b) (by rw [z]; decide)
      omega
    have u : dyT tx st 0 b = .inr b := if_neg nb
    rw [L_X_dayFault_14, if_neg (by rw [le32_iff] <;> omega), x_goesG (by omega) h, pbI_rI, if_neg (show ¬ b < st by omega), if_pos rfl, x_faultG (by omega) h h1 hL, pbI_rI, u]
    refine ⟨M, ?_, AGx_rfl⟩
    show rI _ M = rI (if b < L then (b : Int) else -1) M
    by_cases q : L ≤ st
    · rw [if_pos q, if_neg (by omega)]
    · rw [if_neg q, if_pos (by omega), show st = b by omega]
  | succ f ih =>
    intro x b M h h1 hf hx
    have hb := h.2.2.2.2.2.2.2.1
    rw [L_X_dayFault_14, if_neg (by rw [le32_iff] <;> omega), x_goesG (by omega) h, pbI_rI]
    by_cases q1 : b < st
    · obtain ⟨M2, e2, x2, a2⟩ := x_take (d := D) (by omega) h (c := 59) (by decide) (by decide)
      obtain ⟨M3, e3, x3, a3⟩ := x_rc (d := D) (by omega) x2
      rw [if_pos q1, if_neg (by decide), e2, pbN_rV, e3, pbN_rV, show ((x : Int) + 1) = ((x + 1 : Nat) : Int) by omega]
      have x3 : XSt tx st M3 (dyO tx st (if hc tx st b = 59 then .inr (b + 1) else .inl b)) := x3
      by_cases q2 : hc tx st b = 59
      · rw [if_pos q2] at x3
        have u : dyT tx st (f + 1) b = match dyO tx st (.inr (b + 1)) with
          | .inl p => .inl p
          | .inr c => dyT tx st f c := if_pos q2
        cases z : dyO tx st (.inr (b + 1)) with
        | inl p =>
          rw [z] at x3 u
          rw [x_dyB (by omega) x3, u]
          exact ⟨M3, rfl, AGx_tr a2 a3⟩
        | inr c =>
          rw [z] at x3 u
          have hc3 := (dyO_inr z).1
          obtain ⟨M4, e4, a4⟩ := ih (x + 1) c M3 x3 (by rw [a3 1 1 (by omega), a2 1 1 (by omega)]; exact h1) (by omega) (by omega)
          rw [e4, u]
          exact ⟨M4, rfl, AGx_tr a2 (AGx_tr a3 a4)⟩
      · rw [if_neg q2] at x3
        have x3 : XSt tx st M3 (.inl b) := x3
        have u : dyT tx st (f + 1) b = .inr b := if_neg q2
        rw [x_dyB (by omega) x3, u]
        refine ⟨M3, ?_, AGx_tr a2 a3⟩
        show rI (b : Int) M3 = rI (if b < L then (b : Int) else -1) M3
        rw [if_pos (by omega)]
    · have nb : ¬ hc tx st b = 59 := fun z => q1 (hc_lt (tx := tx) (by rw [z]; decide))
      have u : dyT tx st (f + 1) b = .inr b := if_neg nb
      rw [if_neg q1, if_pos rfl, x_faultG (by omega) h h1 hL, pbI_rI, u]
      refine ⟨M, ?_, AGx_rfl⟩
      show rI _ M = rI (if b < L then (b : Int) else -1) M
      by_cases q : L ≤ st
      · rw [if_pos q, if_neg (by omega)]
      · rw [if_neg q, if_pos (by omega), show st = b by omega]
/-- what dayFault answers -/
noncomputable def dyF (tx : Nat → Int) (L : Nat) : Int := if L = 0 then -1 else dyG L (dyS tx (min L 40) 11 0)
theorem x_dayFault (hd : 5 ≤ d) (hL : L ≤ 80) (h1 : M 1 1 = (L : Int)) (ht : ∀ i, i < 80 → M 2 i = ux (tx i)) (hx : ∀ i, i < 80 → -128 ≤ tx i ∧ tx i ≤ 127) : ∃ M', xF d 54 [.inr 2] M = rI (dyF tx L) M' ∧ ∀ o i, o ≠ 3 → M' o i = M o i := by
  obtain ⟨D, rfl, hD⟩ := dsucc hd
  obtain ⟨D', rfl, -⟩ := dsucc (show 1 ≤ D by omega)
  have ej : jmin (L : Int) 40 = ((min L 40 : Nat) : Int) := by
    rw [jmin_eq (by omega) (by omega) (by decide) (by decide)]; omega
  rw [T_X_dayFault, T_Reader_start_3, pbN_rV, pset_ne (show 1 ≠ 3 by decide), pset_ne (show 1 ≠ 3 by decide), pset_ne (show 1 ≠ 3 by decide), h1, ej]
  generalize hB : pset (pset (pset M 3 1 0) 3 3 (-1)) 3 2 ((min L 40 : Nat) : Int) = MB
  have eo : ∀ o i, o ≠ 3 → MB o i = M o i := fun o i ho => by rw [← hB, pset_ne ho, pset_ne ho, pset_ne ho]
  unfold dyF
  by_cases q : L = 0
  · rw [if_neg (fun z => z (by rw [q]; rfl)), if_pos q]
    exact ⟨MB, rfl, eo⟩
  · have xB : XSt tx (min L 40) MB (.inr 0) := by
      refine ⟨?_, by omega, fun i hi => by rw [eo 2 i (by decide)]; exact ht i hi, hx, ?_, ?_, ?_, by omega, ?_⟩
      · rw [← hB, pset_eq]
      · rw [← hB, pset_ne2 (by decide), pset_ne2 (by decide), pset_eq]; decide
      · rw [← hB, pset_ne2 (by decide), pset_ne2 (by decide), pset_eq]; decide
      · rw [← hB, pset_ne2 (by decide), pset_ne2 (by decide), pset_eq]; rfl
      · rw [← hB, pset_ne2 (by decide), pset_eq]
    obtain ⟨M1, e1, x1, a1⟩ := x_rc (d := D' + 1) (by omega) xB
    have u : dyS tx (min L 40) 11 0 = match dyO tx (min L 40) (.inr 0) with
      | .inl p => .inl p
      | .inr c => dyT tx (min L 40) 10 c := rfl
    have k1 : M1 1 1 = (L : Int) := by rw [a1 1 1 (by omega), eo 1 1 (by decide)]; exact h1
    have a1o : ∀ o i, o ≠ 3 → M1 o i = M o i := fun o i ho => (a1 o i (fun z => ho z.1)).trans (eo o i ho)
    rw [if_pos (by rw [eq32_iff] <;> omega), e1, pbN_rV, if_neg q, u]
    cases z : dyO tx (min L 40) (.inr 0) with
    | inl p =>
      rw [z] at x1
      rw [x_dyB (by omega) x1]
      exact ⟨M1, rfl, a1o⟩
    | inr c =>
      rw [z] at x1
      have c3 := (dyO_inr z).1
      obtain ⟨M2, e2, a2⟩ := x_dy14 (D := D' + 1) (by omega) hL rfl 10 0 c M1 x1 k1 (by omega) (by omega)
      have e2' : xE (D' + 1) 54 14 [.inr 2, .inl 0] [] M1 = _ := e2
      rw [e2']
      exact ⟨M2, rfl, fun o i ho => (a2 o i (fun z => ho z.1)).trans (a1o o i ho)⟩
/-! what stands in a day that can stand -/
theorem dyS_good (hst : st = min L 40) : ∀ (f n : Nat) (b : Nat), dyS tx st f (4 * n) = .inr b → L ≤ b → ∃ N, L + 1 = 4 * N ∧ n < N ∧ ∀ k, n ≤ k → k < N → (97 ≤ tx (4 * k) ∧ tx (4 * k) ≤ 106) ∧ (48 ≤ tx (4 * k + 2) ∧ tx (4 * k + 2) ≤ 57) ∧ 4 * k + 2 < st
  | 0, n, b, h, _ => absurd (show (.inl (4 * n) : rgs) = .inr b from h) (fun z => by cases z)
  | f + 1, n, b, h, hb => by
    have h : (match dyO tx st (.inr (4 * n)) with
      | .inl p => (.inl p : rgs)
      | .inr b => if hc tx st b = 59 then dyS tx st f (b + 1) else .inr b) = .inr b := h
    cases z : dyO tx st (.inr (4 * n)) with
    | inl p => rw [z] at h; cases h
    | inr c =>
      rw [z] at h
      obtain ⟨c1, c2, c3, c4⟩ := dyO_inr z
      have h : (if hc tx st c = 59 then dyS tx st f (c + 1) else .inr c) = .inr b := h
      by_cases q : hc tx st c = 59
      · rw [if_pos q, show c + 1 = 4 * (n + 1) by omega] at h
        obtain ⟨N, n1, n2, n3⟩ := dyS_good hst f (n + 1) b h hb
        refine ⟨N, n1, by omega, fun k k1 k2 => ?_⟩
        by_cases k3 : k = n
        · rw [k3]; exact ⟨c2, c3, c4⟩
        · exact n3 k (by omega) k2
      · rw [if_neg q] at h
        cases h
        refine ⟨n + 1, by omega, by omega, fun k k1 k2 => ?_⟩
        have : k = n := by omega
        rw [this]; exact ⟨c2, c3, c4⟩
/-- nothing told, or N carryings -/
theorem dyF_good (h : dyF tx L = -1) : ∃ N, ((L + 1) / 4 = N) ∧ N ≤ 10 ∧ 4 * N ≤ L + 1 ∧ ∀ k, k < N → (97 ≤ tx (4 * k) ∧ tx (4 * k) ≤ 106) ∧ (48 ≤ tx (4 * k + 2) ∧ tx (4 * k + 2) ≤ 57) := by
  unfold dyF at h
  by_cases q : L = 0
  · exact ⟨0, by omega, by omega, by omega, fun k hk => by omega⟩
  · rw [if_neg q] at h
    cases z : dyS tx (min L 40) 11 0 with
    | inl p =>
      rw [z] at h
      have h : (p : Int) = -1 := h
      omega
    | inr b =>
      rw [z] at h
      have h : (if b < L then (b : Int) else -1) = -1 := h
      have hb : L ≤ b := by
        rcases Nat.lt_or_ge b L with y | y
        · rw [if_pos y] at h; omega
        · exact y
      obtain ⟨N, n1, n2, n3⟩ := dyS_good (tx := tx) (L := L) rfl 11 0 b z hb
      have := n3 (N - 1) (by omega) (by omega)
      exact ⟨N, by omega, by omega, by omega, fun k hk => ⟨(n3 k (by omega) hk).1, (n3 k (by omega) hk).2.1⟩⟩
theorem dyS_inl : ∀ (f a p : Nat), dyS tx st f a = .inl p → p ≤ a + 4 * f + 2
  | 0, a, p, h => by
    have h : (.inl a : rgs) = .inl p := h
    cases h; omega
  | f + 1, a, p, h => by
    have h : (match dyO tx st (.inr a) with
      | .inl p => (.inl p : rgs)
      | .inr b => if hc tx st b = 59 then dyS tx st f (b + 1) else .inr b) = .inl p := h
    cases z : dyO tx st (.inr a) with
    | inl p' =>
      rw [z] at h
      have := dyO_inl z
      cases h; omega
    | inr c =>
      rw [z] at h
      have c1 := (dyO_inr z).1
      have h : (if hc tx st c = 59 then dyS tx st f (c + 1) else .inr c) = .inl p := h
      by_cases q : hc tx st c = 59
      · rw [if_pos q] at h
        have := dyS_inl f (c + 1) p h
        omega
      · rw [if_neg q] at h; cases h
theorem dyF_range (hL : L ≤ 80) : -1 ≤ dyF tx L ∧ dyF tx L ≤ 80 := by
  unfold dyF
  by_cases q : L = 0
  · rw [if_pos q]; omega
  · rw [if_neg q]
    cases z : dyS tx (min L 40) 11 0 with
    | inl p =>
      have := dyS_inl 11 0 p z
      show -1 ≤ (p : Int) ∧ (p : Int) ≤ 80
      omega
    | inr b =>
      show -1 ≤ (if b < L then (b : Int) else -1) ∧ (if b < L then (b : Int) else -1) ≤ 80
      by_cases y : b < L
      · rw [if_pos y]; omega
      · rw [if_neg y]; omega
/-! the class carries all day -/
theorem WF_carry (W : WF G) {b c : Nat} (hc : c < hR G) : WF (gCarry G b c) := by
  obtain ⟨w1, w2, w3, w4, w5, w6, w7, w8, w9⟩ := W
  have g : ∀ o j, o < 6 ∨ o = 7 → gCarry G b c o j = G o j := fun o j ho => gCarry_ne (by omega) (by omega) (by omega)
  have eR : hR (gCarry G b c) = hR G := by unfold hR; rw [g 0 0 (by decide)]
  have eT : hT (gCarry G b c) = hT G := by unfold hT; rw [g 0 1 (by decide)]
  have eS : hS (gCarry G b c) = hS G := by unfold hS; rw [g 0 2 (by decide)]
  refine ⟨by rw [eR]; exact w1, by rw [eT]; exact w2, by rw [eS]; exact w3, fun r hr => ?_, fun p hp => ?_, fun x y hx hy => ?_, fun x y hx hy hh => ?_, fun t ht => ?_, fun s hs => ?_⟩
  · rw [eR] at hr; rw [g 1 r (by decide)]; exact w4 r hr
  · rw [g 2 p (by decide)]; exact w5 p hp
  · rw [g 2 _ (by decide), g 2 _ (by decide)]; exact w6 x y hx hy
  · rw [eR] at hh; rw [g 2 _ (by decide)]; exact w7 x y hx hy hh
  · rw [eT] at ht
    rw [g 3 t (by decide), g 4 t (by decide), g 5 t (by decide), g66_free, eR]
    have k := w8 t ht
    refine ⟨k.1, k.2.1, k.2.2.1, ?_⟩
    by_cases q : t = b
    · rw [if_pos q]; omega
    · rw [if_neg q]; exact k.2.2.2
  · rw [eS] at hs
    have : me (gCarry G b c) s = me G s := by unfold me; rw [g 7 s (by decide)]
    rw [this, eT]; exact w9 s hs
theorem pqN_r {n : Int} (hn : 0 ≤ n ∧ n ≤ 20) : 0 ≤ pqN n ∧ pqN n ≤ 20 := by
  unfold pqN
  split <;> omega
theorem x_carryE (hd : 6 ≤ d) (W : WF G) (X : XG M G) (hn : 0 ≤ G 9 0 ∧ G 9 0 ≤ 20) {b c : Int} (hb : -2147483648 ≤ b ∧ b ≤ 2147483647) (hc : -2147483648 ≤ c ∧ c ≤ 2147483647) : ∃ M', xF d 11 [.inr 2, .inl b, .inl c] M = rI (attF G (G 6) (G 8 1) b c) M' ∧ ∀ o i, o ≠ 13 → ¬ (o = 0 ∧ i = 16) → ¬ (o = 39 ∧ i = 3) → o ≠ 40 → o ≠ 41 → o ≠ 42 → M' o i = M o i := by
  obtain ⟨D, rfl, hD⟩ := dsucc hd
  have w2 := W.2.1
  have ar := attF_range (p := G 6) W (G 8 1) b c
  rw [T_X_carry, x_att13 (by omega) W X hb hc, pbI_rI, X.2.1.2.1]
  by_cases q : attF G (G 6) (G 8 1) b c < 0
  · rw [if_pos (by rw [lt32_iff] <;> omega)]
    exact ⟨M, rfl, fun _ _ _ _ _ _ _ _ => rfl⟩
  · obtain ⟨⟨r1, r2⟩, -⟩ := attF_room (show 0 ≤ attF G (G 6) (G 8 1) b c by omega)
    rw [if_neg (by rw [lt32_iff] <;> omega)]
    generalize attF G (G 6) (G 8 1) b c = kk
    obtain ⟨x, rfl⟩ := natI r1.1
    obtain ⟨D', rfl, -⟩ := dsucc (show 1 ≤ D by omega)
    have hx := (X.1.2.2.2.2.2.1 x (by omega)).2.2.2
    obtain ⟨M1, e1, p1, p2, p3⟩ := x_push (d := D') (M := M) (by omega) (by rw [X.2.2.1.1]; exact hn) (x : Int) (G 6 x) (G 8 1)
    have i0 : (0 : Int) ≤ (x : Int) ∧ (x : Int) < 10 := by omega
    rw [T_X_bring, c_isThing7 (by omega) W X.1 (by omega) (by omega), pbI_rI, ite01p, if_pos (by omega), if_pos i0, Int.toNat_natCast, hx, X.2.1.2.1, e1, pbN_rV, if_pos i0, pbN_rV]
    refine ⟨_, rfl, fun o i a1 a2 a3 a4 a5 a6 => ?_⟩
    have e : pset (pset M1 13 x c) 0 16 (pset M1 13 x c 0 16 + kk) o i = M1 o i := by
      unfold pset
      rw [if_neg (fun z => a2 z), if_neg (fun z => a1 z.1)]
    rw [e]; exact p3 o i a3 a4 a5 a6
theorem x_tells (hd : 1 ≤ d) (X : XG M G) (v w : Int) (x4 : Int) : ∃ M', (pbN (xF d 127 [.inr 7] M) fun M5 =>
 pbN (xF d 128 [.inr 7, .inl v] M5) fun M6 =>
 pbN (xF d 128 [.inr 7, .inl w] M6) fun M7 =>
 (some (some (.inl x4), M7) : Option pR)) = rI x4 M' ∧ XG M' G := by
  obtain ⟨D, rfl, -⟩ := dsucc hd
  obtain ⟨M1, e1, k1, f1⟩ := x_tell (d := D + 1) (M := pset M 5 1 0) (n := 0) (by omega) (by decide) pset_eq v
  obtain ⟨M2, e2, k2, f2⟩ := x_tell (d := D + 1) (M := M1) (n := 1) (by omega) (by decide) k1 w
  rw [T_Numbers_start, pbN_rV, e1, pbN_rV, e2, pbN_rV]
  refine ⟨M2, rfl, XG_ag (fun o i q => ?_) X⟩
  have h5 : o ≠ 5 := fun z => by rw [z] at q; cases q
  have h6 : o ≠ 6 := fun z => by rw [z] at q; cases q
  rw [f2 o i h5 h6, f1 o i h5 h6, pset_ne h5]
theorem x_dyFin (hD : 6 ≤ D) (W : WF G) (X : XG M G) (h1 : M 1 1 = (L : Int)) (hL : L ≤ 80) {N n : Nat} (hn : n ≤ N) (hN : N ≤ 10) (x3 : Int) : ∃ M', (pbI (xF D 153 [.inr 3, .inl 0] M) fun v2 M1 =>
 if le32 (N : Int) (n : Int) then
 (pbI (xF D 91 [.inr 9, .inr 15] M1) fun v4 M3 =>
 if eq32 v4 0 then
 (pbN (xF D 127 [.inr 7] M3) fun M5 =>
 pbN (xF D 128 [.inr 7, .inl 0] M5) fun M6 =>
 pbN (xF D 128 [.inr 7, .inl x3] M6) fun M7 =>
 (some (some (.inl (n : Int)), M7) : Option pR))
 else
 (pbI (xF D 53 [.inr 2] M3) fun v9 M8 =>
 pbN (xF D 127 [.inr 7] M8) fun M10 =>
 pbN (xF D 128 [.inr 7, .inl v9] M10) fun M11 =>
 pbN (xF D 128 [.inr 7, .inl x3] M11) fun M12 =>
 some (some (.inl (n : Int)), M12)))
 else
 (pbN (xF D 127 [.inr 7] M1) fun M13 =>
 pbN (xF D 128 [.inr 7, .inl (-1)] M13) fun M14 =>
 pbN (xF D 128 [.inr 7, .inl x3] M14) fun M15 =>
 some (some (.inl (n : Int)), M15))) = rI (n : Int) M' ∧ (n = N ∧ lwf G (G 6) → XG M' (gEve G)) ∧ (¬ (n = N ∧ lwf G (G 6)) → XG M' G) := by
  have X1 : XG (pset M 1 1 0) G := XG_Fr (w := [(1, 1)]) (Fr_set Fr_rfl (by decide)) (by decide) X
  rw [x_cutL (by omega) h1 hL, pbI_rI]
  by_cases q : n = N
  · obtain ⟨u1, u2⟩ := x_lawful13 (d := D) (by omega) W X1
    rw [if_pos (by rw [le32_iff] <;> omega)]
    by_cases q2 : lwf G (G 6)
    · obtain ⟨M2, e2, X2⟩ := x_sleep (d := D) (by omega) X1
      rw [u1 q2, pbI_rI, if_neg (by decide), e2, pbI_rI]
      obtain ⟨M3, e3, X3⟩ := x_tells (d := D) (by omega) X2 1 x3 (n : Int)
      exact ⟨M3, e3, fun _ => X3, fun z => absurd ⟨q, q2⟩ z⟩
    · rw [u2 q2, pbI_rI, if_pos rfl]
      obtain ⟨M3, e3, X3⟩ := x_tells (d := D) (by omega) X1 0 x3 (n : Int)
      exact ⟨M3, e3, fun z => absurd z.2 q2, fun _ => X3⟩
  · rw [if_neg (by rw [le32_iff] <;> omega)]
    obtain ⟨M3, e3, X3⟩ := x_tells (d := D) (by omega) X1 (-1) x3 (n : Int)
    exact ⟨M3, e3, fun z => absurd z.1 q, fun _ => X3⟩
theorem x_dy29 (hD : 7 ≤ D) (hL : L ≤ 80) {N : Nat} (hN : N ≤ 10) (hNL : 4 * N ≤ L + 1) (hv : ∀ k, k < N → (97 ≤ tx (4 * k) ∧ tx (4 * k) ≤ 106) ∧ (48 ≤ tx (4 * k + 2) ∧ tx (4 * k + 2) ≤ 57)) (x1 : Int) : ∀ (m k : Nat) (x3 : Int) (y6 : pV) (M G : pM), k + m = N → WF G → XG M G → (0 ≤ G 9 0 ∧ G 9 0 ≤ 20) → M 1 1 = (L : Int) → (∀ i, i < 80 → M 2 i = ux (tx i)) → ∃ M', xE D 13 29 [.inr 2, .inl x1, .inl (N : Int), .inl x3, .inl (k : Int), .inl (k : Int), y6] [] M = rI ((dyRun tx m k G).1 : Int) M' ∧ ((dyRun tx m k G).1 = N ∧ lwf (dyRun tx m k G).2 ((dyRun tx m k G).2 6) → XG M' (gEve (dyRun tx m k G).2)) ∧ (¬ ((dyRun tx m k G).1 = N ∧ lwf (dyRun tx m k G).2 ((dyRun tx m k G).2 6)) → XG M' (dyRun tx m k G).2) := by
  intro m
  induction m with
  | zero =>
    intro k x3 y6 M G hk W X hn h1 ht
    rw [L_X_day_29, if_pos (by rw [le32_iff] <;> omega)]
    exact x_dyFin (by omega) W X h1 hL (by omega) hN x3
  | succ m ih =>
    intro k x3 y6 M G hk W X hn h1 ht
    obtain ⟨⟨v1, v2⟩, v3, v4⟩ := hv k (by omega)
    have ar := attF_range (p := G 6) W (G 8 1) (tx (4 * k) - 97) (tx (4 * k + 2) - 48)
    have e0 : M 2 (4 * k) = tx (4 * k) := by rw [ht _ (by omega)]; exact if_neg (by omega)
    have e2 : M 2 (4 * k + 2) = tx (4 * k + 2) := by rw [ht _ (by omega)]; exact if_neg (by omega)
    obtain ⟨M1, ec, fc⟩ := x_carryE (d := D) (by omega) W X hn (b := tx (4 * k) - 97) (c := tx (4 * k + 2) - 48) (by omega) (by omega)
    obtain ⟨-, c1, c2⟩ := xg_carry (d := D) (by omega) W X hn (by omega) (by omega) ec
    have k1 : M1 1 1 = (L : Int) := by rw [fc 1 1 (by omega) (by omega) (by omega) (by omega) (by omega) (by omega)]; exact h1
    have k2 : ∀ i, i < 80 → M1 2 i = ux (tx i) := fun i hi => by rw [fc 2 i (by omega) (by omega) (by omega) (by omega) (by omega) (by omega)]; exact ht i hi
    rw [L_X_day_29, if_neg (by rw [le32_iff] <;> omega), show ((k : Int) * 4) = ((4 * k : Nat) : Int) by omega, x_at (by omega) h1 hL (by omega), pbI_rI, show (((4 * k : Nat) : Int) + 2) = ((4 * k + 2 : Nat) : Int) by omega, x_at (by omega) h1 hL (by omega), pbI_rI, e0, e2, ec, pbI_rI, show ((k : Int) + 1) = ((k + 1 : Nat) : Int) by omega]
    by_cases q : 0 ≤ attF G (G 6) (G 8 1) (tx (4 * k) - 97) (tx (4 * k + 2) - 48)
    · have u : dyRun tx (m + 1) k G = dyRun tx m (k + 1) (gCarry G (tx (4 * k) - 97).toNat (tx (4 * k + 2) - 48).toNat) := if_pos q
      obtain ⟨⟨r1, r2⟩, -⟩ := attF_room q
      rw [if_pos (by rw [le32_iff] <;> omega), u]
      exact ih (k + 1) _ _ M1 _ (by omega) (WF_carry W (by omega)) (c1 q) (by rw [gCarry_9]; exact pqN_r hn) k1 k2
    · have u : dyRun tx (m + 1) k G = (k, G) := if_neg q
      rw [if_neg (by rw [le32_iff] <;> omega), u]
      exact x_dyFin (by omega) W (c2 (by omega)) k1 hL (by omega) hN x3
theorem xg_day (hd : 9 ≤ d) (W : WF G) (X : XG M G) (hn : 0 ≤ G 9 0 ∧ G 9 0 ≤ 20) (hL : L ≤ 80) (h1 : M 1 1 = (L : Int)) (ht : ∀ i, i < 80 → M 2 i = ux (tx i)) (hx : ∀ i, i < 80 → -128 ≤ tx i ∧ tx i ≤ 127) {v : Int} (ee : xF d 13 [.inr 2] M = rI v M') : (dyF tx L ≠ -1 → v = -1 - dyF tx L ∧ XG M' G) ∧ (dyF tx L = -1 → v = ((dyRun tx ((L + 1) / 4) 0 G).1 : Int) ∧ ((dyRun tx ((L + 1) / 4) 0 G).1 = (L + 1) / 4 ∧ lwf (dyRun tx ((L + 1) / 4) 0 G).2 ((dyRun tx ((L + 1) / 4) 0 G).2 6) → XG M' (gEve (dyRun tx ((L + 1) / 4) 0 G).2)) ∧ (¬ ((dyRun tx ((L + 1) / 4) 0 G).1 = (L + 1) / 4 ∧ lwf (dyRun tx ((L + 1) / 4) 0 G).2 ((dyRun tx ((L + 1) / 4) 0 G).2 6)) → XG M' (dyRun tx ((L + 1) / 4) 0 G).2)) := by
  obtain ⟨D, rfl, hD⟩ := dsucc hd
  obtain ⟨M1, e1, f1⟩ := x_dayFault (tx := tx) (d := D) (by omega) hL h1 ht hx
  have X1 : XG M1 G := XG_ag (fun o i q => f1 o i (fun z => by rw [z] at q; cases q)) X
  have k1 : M1 1 1 = (L : Int) := by rw [f1 1 1 (by decide)]; exact h1
  have k2 : ∀ i, i < 80 → M1 2 i = ux (tx i) := fun i hi => by rw [f1 2 i (by decide)]; exact ht i hi
  have fr := dyF_range (tx := tx) hL
  rw [T_X_day, e1, pbI_rI] at ee
  by_cases q : dyF tx L = -1
  · obtain ⟨N, n1, n2, n3, n4⟩ := dyF_good q
    obtain ⟨M2, e2, r1, r2⟩ := x_dy29 (tx := tx) (D := D) (L := L) (by omega) hL n2 n3 n4 (-1) N 0 0 (.inr 0) M1 G (by omega) W X1 hn k1 k2
    have e2' : xE D 13 29 [.inr 2, .inl (-1), .inl (N : Int), .inl 0, .inl 0, .inl 0, .inr 0] [] M1 = _ := e2
    have ej : jdiv ((L : Int) + 1) 4 = (N : Int) := by
      rw [show ((L : Int) + 1) = ((L + 1 : Nat) : Int) by omega, show (4 : Int) = ((4 : Nat) : Int) from rfl, jdiv_nat (by omega) (by decide) (by decide), n1]
    rw [q, if_pos rfl, k1, ej, e2'] at ee
    obtain ⟨z1, z2⟩ := rI_inj ee
    rw [← z1, ← z2, n1]
    exact ⟨fun z => absurd q z, fun _ => ⟨rfl, r1, r2⟩⟩
  · rw [if_neg (by rw [eq32_iff] <;> omega), x_cutL (by omega) k1 hL, pbI_rI] at ee
    obtain ⟨z1, z2⟩ := rI_inj ee
    rw [← z1, ← z2]
    exact ⟨fun _ => ⟨rfl, XG_Fr (w := [(1, 1)]) (Fr_set Fr_rfl (by decide)) (by decide) X1⟩, fun z => absurd z q⟩
end COD
/-! day of the reference -/
def TL (tx : Nat → Int) (n : Nat) (M : pM) : Prop := ∀ k, k < n → M 76 (2 * k) = tx (4 * k) - 97 ∧ M 76 (2 * k + 1) = tx (4 * k + 2) - 48
def AGy (M M' : pM) : Prop := ∀ o i, o ≠ 76 → ¬ (o = 60 ∧ (i = 14 ∨ i = 17 ∨ i = 18 ∨ i = 19 ∨ i = 20 ∨ i = 21 ∨ i = 22)) → M' o i = M o i
/-- what comes of a text that was read to s -/
def dyP (tx : Nat → Int) (L D : Nat) (M0 : pM) (s : rgs) (e : Option pR) : Prop := (dyG L s ≠ -1 → ∃ M', e = rI (-1 - dyG L s) M' ∧ AGy M0 M') ∧ (dyG L s = -1 → ∃ (x2 : Int) (M' : pM), e = xE D 219 96 [.inr 62, .inl (((L + 1) / 4 : Nat) : Int), .inl x2, .inl 0, .inl 0] [] M' ∧ TL tx ((L + 1) / 4) M' ∧ AGy M0 M')
section COM
variable {tx : Nat → Int} {D d L : Nat} {M M0 M' G : pM}
theorem AGy_r {M1 M2 : pM} (h : AGy M0 M1) (a : AGr M1 M2) : AGy M0 M2 := fun o i h1 h2 => (a o i (fun z => h2 ⟨z.1, by omega⟩)).trans (h o i h1 h2)
theorem AGy_76 (h : AGy M0 M) {i : Nat} {v : Int} : AGy M0 (pset M 76 i v) := fun o j h1 h2 => by rw [pset_ne h1]; exact h o j h1 h2
theorem TL_ag {n : Nat} (h : TL tx n M) (e : ∀ i, M' 76 i = M 76 i) : TL tx n M' := fun k hk => by rw [e, e]; exact h k hk
theorem m_dyE (hD : 4 ≤ D) {n : Nat} {s : rgs} (h : RSt tx L 40 M s) (hn : ∀ b, s = .inr b → b + 1 = 4 * n) (t : ∀ b, s = .inr b → TL tx n M) (F : AGy M0 M) : dyP tx L D M0 s (xE D 219 22 [.inr 62, .inl (n : Int), .inl 0, .inr 0, .inr 0] [] M) := by
  rw [L_M_day_22, if_pos rfl]
  cases s with
  | inl p =>
    have k22 : M 60 22 = (p : Int) := h.2.2.2.2.2.2.2.2.2.1
    have fin : (pbI (xF D 179 [.inr 62] M) fun v2 M1 => if ¬ eq32 v2 0 then xE D 219 96 [.inr 62, .inl (n : Int), .inl 0, .inl 0, .inl 0] [] M1 else some (some (.inl ((-1) - (M1 60 22))), M1)) = rI (-1 - (p : Int)) M := by
      rw [m_fineB (by omega) h, pbI_rI, if_neg (fun z => z rfl), k22]
    have pk : (if le32 (M 60 19) (M 60 21) then (pbI (xF D 179 [.inr 62] M) fun v2 M1 => if ¬ eq32 v2 0 then xE D 219 96 [.inr 62, .inl (n : Int), .inl 0, .inl 0, .inl 0] [] M1 else some (some (.inl ((-1) - (M1 60 22))), M1)) else (pbN (xF D 180 [.inr 62, .inl (M 60 21)] M) fun M3 => pbI (xF D 179 [.inr 62] M3) fun v5 M4 => if ¬ eq32 v5 0 then xE D 219 96 [.inr 62, .inl (n : Int), .inl 0, .inl 0, .inl 0] [] M4 else some (some (.inl ((-1) - (M4 60 22))), M4))) = rI (-1 - (p : Int)) M := by
      by_cases q : le32 (M 60 19) (M 60 21)
      · rw [if_pos q]; exact fin
      · rw [if_neg q, m_faultB (by omega) h, pbN_rV]; exact fin
    rw [pk]
    have u : dyG L (.inl p) = (p : Int) := rfl
    refine ⟨fun _ => ⟨M, by rw [u], F⟩, fun z => ?_⟩
    rw [u] at z; omega
  | inr b =>
    have k21 := h.2.2.2.2.2.2.2.2.2.1
    have k19 := h.2.1
    have kb := h.2.2.2.2.2.2.2.2.2.2.1
    have L8 := h.2.2.2.1
    have hb := hn b rfl
    have u : dyG L (.inr b) = if b < L then (b : Int) else -1 := rfl
    rw [k19, k21]
    by_cases q : b < L
    · obtain ⟨e, r⟩ := m_faultG (d := D) (by omega) h (p := b) (by omega)
      rw [if_neg (by rw [le32_iff] <;> omega), e, pbN_rV, m_fineB (by omega) r, pbI_rI, if_neg (fun z => z rfl), pset_eq]
      rw [if_pos q] at u
      refine ⟨fun _ => ⟨_, by rw [u], AGy_r F (AGr_bad AGr_rfl)⟩, fun z => ?_⟩
      rw [u] at z; omega
    · rw [if_neg q] at u
      have en : (L + 1) / 4 = n := by omega
      rw [if_pos (by rw [le32_iff] <;> omega), m_fineG (by omega) h, pbI_rI, if_pos (by decide)]
      refine ⟨fun z => absurd u z, fun _ => ⟨0, M, by rw [en], by rw [en]; exact t b rfl, F⟩⟩
theorem m_dy22 (hD : 4 ≤ D) : ∀ (f n : Nat) (M : pM), 44 ≤ 4 * n + 4 * f → RSt tx L 40 M (.inr (4 * n)) → TL tx n M → AGy M0 M → dyP tx L D M0 (dyS tx (min L 40) f (4 * n)) (xE D 219 22 [.inr 62, .inl (n : Int), .inl 1, .inr 0, .inr 0] [] M) := by
  intro f
  induction f with
  | zero =>
    intro n M hf h t F
    have kb := h.2.2.2.2.2.2.2.2.2.2.1
    omega
  | succ f ih =>
    intro n M hf h t F
    have b21 := h.2.2.2.2.2.2.2.2.2.1
    have kb := h.2.2.2.2.2.2.2.2.2.2.1
    have i1 : (0 : Int) ≤ 2 * (n : Int) ∧ 2 * (n : Int) < 80 := by omega
    have i2 : (0 : Int) ≤ 2 * (n : Int) + 1 ∧ 2 * (n : Int) + 1 < 80 := by omega
    have n1 : (2 * (n : Int)).toNat = 2 * n := by omega
    have n2 : (2 * (n : Int) + 1).toNat = 2 * n + 1 := by omega
    have hr := hc_range h (4 * n)
    have us : dyS tx (min L 40) (f + 1) (4 * n) = match dyO tx (min L 40) (.inr (4 * n)) with
      | .inl p => .inl p
      | .inr b => if hc tx (min L 40) b = 59 then dyS tx (min L 40) f (b + 1) else .inr b := rfl
    /- behind the letter -/
    have key : ∀ (M1 : pM) (s : rgs) (v0 : Int), RSt tx L 40 M1 s → s = dyC tx (min L 40) (4 * n) → AGy M0 M1 → TL tx n M1 → M1 76 (2 * n) = v0 → (∀ b, s = .inr b → v0 = tx (4 * n) - 97) → dyP tx L D M0 (dyS tx (min L 40) (f + 1) (4 * n)) (pbN (xF D 182 [.inr 62, .inl 62] M1) fun M19 => pbI (xF D 183 [.inr 62, .inl 1, .inl 0, .inl 9] M19) fun v21 M20 => if 0 ≤ (2 * (n : Int)) + 1 ∧ (2 * (n : Int)) + 1 < 80 then pbI (xF D 181 [.inr 62, .inl 59] (pset M20 76 (((2 * (n : Int)) + 1).toNat) v21)) fun v23 M22 => xE D 219 22 [.inr 62, .inl ((n + 1 : Nat) : Int), .inl v23, .inr 0, .inr 0] [] M22 else none) := by
      intro M1 s v0 h1 es F1 t1 e0 ev
      obtain ⟨M2, e2, r2, a2⟩ := m_need (d := D) (by omega) h1 (c := 62) (by decide) (by decide)
      obtain ⟨M3, e3, r3, a3⟩ := m_num1 (d := D) (by omega) r2 (lo := 0) (hi := 9) (by decide) (by decide) (by decide) (by decide)
      have eO : sgD tx (min L 40) 0 9 (sgN tx (min L 40) 62 s) = dyO tx (min L 40) (.inr (4 * n)) := by rw [es]; rfl
      rw [e2, pbN_rV, e3, pbI_rI, if_pos i2, n2]
      have hv := sgV_range (tx := tx) (st := min L 40) (lo := 0) (hi := 9) (by decide) (Or.inl (by decide)) (sgN tx (min L 40) 62 s)
      have r4 := RSt_ne (v := sgV tx (min L 40) 0 9 (sgN tx (min L 40) 62 s)) (o := 76) (i := 2 * n + 1) r3 (by decide) (by decide)
      have F4 : AGy M0 (pset M3 76 (2 * n + 1) (sgV tx (min L 40) 0 9 (sgN tx (min L 40) 62 s))) := AGy_76 (AGy_r (AGy_r F1 a2) a3)
      have o76 : ∀ i, M3 76 i = M1 76 i := fun i => by rw [a3 76 i (by omega), a2 76 i (by omega)]
      have t4 : TL tx n (pset M3 76 (2 * n + 1) (sgV tx (min L 40) 0 9 (sgN tx (min L 40) 62 s))) := fun k hk => by
        rw [pset_ne2 (by omega), pset_ne2 (by omega), o76, o76]; exact t1 k hk
      rw [eO] at r4
      rw [us]
      cases z : dyO tx (min L 40) (.inr (4 * n)) with
      | inl p =>
        rw [z] at r4
        rw [m_passesB (by omega) r4, pbI_rI]
        exact m_dyE hD (n := n + 1) r4 (fun b hb => by cases hb) (fun b hb => by cases hb) F4
      | inr b =>
        rw [z] at r4
        obtain ⟨c1, c2, c3, c4⟩ := dyO_inr z
        obtain ⟨b1, hb1, hb2, w1, w2, w3, w4⟩ := sgD_inr (eO.trans z)
        obtain ⟨b0, hb3, hb4, -⟩ := sgN_inr hb1
        have es2 : dyC tx (min L 40) (4 * n) = .inr b0 := es.symm.trans hb3
        have v0e := ev b0 hb3
        have hb5 : b1 = 4 * n + 2 := by omega
        have t5 : TL tx (n + 1) (pset M3 76 (2 * n + 1) (sgV tx (min L 40) 0 9 (sgN tx (min L 40) 62 s))) := fun k hk => by
          by_cases q : k = n
          · rw [q, pset_eq, pset_ne2 (by omega), o76, e0, v0e, w3, hb5]
            exact ⟨rfl, by rw [show hc tx (min L 40) (4 * n + 2) = tx (4 * n + 2) from if_pos (by omega)]⟩
          · exact t4 k (by omega)
        rw [m_passesG (by omega) r4 (by decide) (by decide)]
        show dyP tx L D M0 (if hc tx (min L 40) b = 59 then dyS tx (min L 40) f (b + 1) else .inr b) _
        by_cases q : hc tx (min L 40) b = 59
        · have hlt : b < min L 40 := hc_lt (tx := tx) (st := min L 40) (by rw [q]; decide)
          have r5 := RSt_next r4 hlt
          rw [if_pos q, if_pos q, pbI_rI]
          have eb : b + 1 = 4 * (n + 1) := by omega
          rw [eb] at r5 ⊢
          exact ih (n + 1) _ (by omega) r5 (TL_ag t5 (fun i => pset_ne (by decide))) (AGy_r F4 (AGr_at AGr_rfl))
        · rw [if_neg q, if_neg q, pbI_rI]
          exact m_dyE hD (n := n + 1) r4 (fun b' hb => by cases hb; omega) (fun _ _ => t5) F4
    rw [L_M_day_22, if_neg (by decide), m_fineG (by omega) h, pbI_rI, if_neg (by decide), m_here (by omega) h, pbI_rI]
    rw [m_inD (by omega) (by omega) (by omega) (by decide) (by decide) (by decide) (by decide), pbI_rI, show ((n : Int) + 1) = ((n + 1 : Nat) : Int) by omega]
    by_cases q : 97 ≤ hc tx (min L 40) (4 * n) ∧ hc tx (min L 40) (4 * n) ≤ 106
    · have hlt : 4 * n < min L 40 := hc_lt (tx := tx) (st := min L 40) (by omega)
      have r1 := RSt_ne (v := hc tx (min L 40) (4 * n) - 97) (o := 76) (i := 2 * n) h (by decide) (by decide)
      have r2 := RSt_next r1 hlt
      rw [if_pos q, if_pos (by decide), m_here (by omega) h, pbI_rI, if_pos i1, n1, pset_ne (show 60 ≠ 76 by decide), b21]
      refine key _ (.inr (4 * n + 1)) (hc tx (min L 40) (4 * n) - 97) r2 (by unfold dyC; rw [if_pos q]) (AGy_r (AGy_76 F) (AGr_at AGr_rfl)) (fun k hk => ?_) ?_ (fun b hb => by rw [show hc tx (min L 40) (4 * n) = tx (4 * n) from if_pos hlt])
      · rw [pset_ne (show 76 ≠ 60 by decide), pset_ne (show 76 ≠ 60 by decide), pset_ne2 (show 2 * k ≠ 2 * n by omega), pset_ne2 (show 2 * k + 1 ≠ 2 * n by omega)]; exact t k hk
      · rw [pset_ne (by decide), pset_eq]
    · obtain ⟨e, r⟩ := m_faultG (d := D) (by omega) h (p := 4 * n) (by omega)
      obtain ⟨v, ev, v1, v2⟩ := m_hereA (d := D) (by omega) r
      have r1 := RSt_ne (v := v - 97) (o := 76) (i := 2 * n) r (by decide) (by decide)
      have r2 : RSt tx L 40 (pset (pset (pset M 60 22 ((4 * n : Nat) : Int)) 76 (2 * n) (v - 97)) 60 21 (((4 * n : Nat) : Int) + 1)) (.inl (4 * n)) := by
        obtain ⟨h1, h2, h3, h4, h5, h6, h7, h8, h9, h10⟩ := r1
        exact ⟨by rw [pset_ne2 (by decide)]; exact h1, by rw [pset_ne2 (by decide)]; exact h2, by rw [pset_ne2 (by decide)]; exact h3, h4, h5, fun i hi => by rw [pset_ne (by decide)]; exact h6 i hi, h7, by rw [pset_eq]; omega, by rw [pset_eq]; omega, by rw [pset_ne2 (by decide)]; exact h10.1, h10.2⟩
      rw [if_neg q, if_neg (fun z => z rfl), b21, e, pbN_rV, ev, pbI_rI, if_pos i1, n1, pset_ne (show 60 ≠ 76 by decide), pset_ne2 (show 21 ≠ 22 by decide), b21]
      refine key _ (.inl (4 * n)) (v - 97) r2 (by unfold dyC; rw [if_neg q]) (AGy_r (AGy_76 (AGy_r F (AGr_bad AGr_rfl))) (AGr_at AGr_rfl)) (fun k hk => ?_) ?_ (fun b hb => by cases hb)
      · rw [pset_ne (show 76 ≠ 60 by decide), pset_ne (show 76 ≠ 60 by decide), pset_ne2 (show 2 * k ≠ 2 * n by omega), pset_ne2 (show 2 * k + 1 ≠ 2 * n by omega), pset_ne (show 76 ≠ 60 by decide), pset_ne (show 76 ≠ 60 by decide)]; exact t k hk
      · rw [pset_ne (by decide), pset_eq]
/-! the carryings -/
theorem m_dyFin (hD : 4 ≤ D) (W : WF G) (X : MG M G) {N n : Nat} (hn : n ≤ N) (hN : N ≤ 10) (x4 : Int) : ∃ M', (if le32 (N : Int) (n : Int) then
 (pbI (xF D 217 [.inr 62] (pset M 60 16 0)) fun v2 M1 =>
 if eq32 v2 0 then
 (pbN (xF D 172 [.inr 62, .inl 0] M1) fun M3 =>
 pbN (xF D 172 [.inr 62, .inl x4] M3) fun M4 =>
 (some (some (.inl (n : Int)), M4) : Option pR))
 else
 (pbN (xF D 172 [.inr 62, .inl 1] M1) fun M5 =>
 pbN (xF D 172 [.inr 62, .inl x4] M5) fun M6 =>
 some (some (.inl (n : Int)), M6)))
 else
 (pbN (xF D 172 [.inr 62, .inl (-1)] (pset M 60 16 0)) fun M7 =>
 pbN (xF D 172 [.inr 62, .inl x4] M7) fun M8 =>
 some (some (.inl (n : Int)), M8))) = rI (n : Int) M' ∧ (n = N ∧ lwf G (G 6) → MG M' (gEve G)) ∧ (¬ (n = N ∧ lwf G (G 6)) → MG M' G) := by
  have X1 : MG (pset M 60 16 0) G := MG_Fr (w := [(60, 16)]) (Fr_set Fr_rfl (by decide)) (by decide) X
  have tells : ∀ (M1 G1 : pM) (v : Int), MG M1 G1 → M1 60 16 = 0 → ∃ M', (pbN (xF D 172 [.inr 62, .inl v] M1) fun M3 => pbN (xF D 172 [.inr 62, .inl x4] M3) fun M4 => (some (some (.inl (n : Int)), M4) : Option pR)) = rI (n : Int) M' ∧ MG M' G1 := by
    intro M1 G1 v Y k
    obtain ⟨M2, e2, k2, f2⟩ := m_tellX (d := D) (M := M1) (n := 0) (by omega) (by decide) k v
    obtain ⟨M3, e3, k3, f3⟩ := m_tellX (d := D) (M := M2) (n := 1) (by omega) (by decide) k2 x4
    rw [e2, pbN_rV, e3, pbN_rV]
    refine ⟨M3, rfl, MG_ag (fun o i q => ?_) Y⟩
    have h5 : ¬ (o = 60 ∧ i = 16) := fun z => by rw [z.1, z.2] at q; cases q
    have h6 : o ≠ 69 := fun z => by rw [z] at q; cases q
    rw [f3 o i h5 h6, f2 o i h5 h6]
  by_cases q : n = N
  · obtain ⟨u1, u2⟩ := m_goEvF (d := D) (by omega) W X1
    rw [if_pos (by rw [le32_iff] <;> omega)]
    by_cases q2 : lwf G (G 6)
    · obtain ⟨M2, e2, X2, k2⟩ := u1 q2
      obtain ⟨M3, e3, X3⟩ := tells M2 (gEve G) 1 X2 (by rw [k2 16 (by decide) (by decide) (by decide), pset_eq])
      rw [e2, pbI_rI, if_neg (by decide), e3]
      exact ⟨M3, rfl, fun _ => X3, fun z => absurd ⟨q, q2⟩ z⟩
    · obtain ⟨M3, e3, X3⟩ := tells _ G 0 X1 pset_eq
      rw [u2 q2, pbI_rI, if_pos rfl, e3]
      exact ⟨M3, rfl, fun z => absurd z.2 q2, fun _ => X3⟩
  · obtain ⟨M3, e3, X3⟩ := tells _ G (-1) X1 pset_eq
    rw [if_neg (by rw [le32_iff] <;> omega), e3]
    exact ⟨M3, rfl, fun z => absurd z.1 q, fun _ => X3⟩
theorem m_dy96 (hD : 5 ≤ D) {N : Nat} (hN : N ≤ 10) (hv : ∀ k, k < N → (97 ≤ tx (4 * k) ∧ tx (4 * k) ≤ 106) ∧ (48 ≤ tx (4 * k + 2) ∧ tx (4 * k + 2) ≤ 57)) (x2 : Int) : ∀ (m k : Nat) (x4 : Int) (M G : pM), k + m = N → WF G → MG M G → (0 ≤ G 9 0 ∧ G 9 0 ≤ 20) → TL tx N M → ∃ M', xE D 219 96 [.inr 62, .inl (N : Int), .inl x2, .inl (k : Int), .inl x4] [] M = rI ((dyRun tx m k G).1 : Int) M' ∧ ((dyRun tx m k G).1 = N ∧ lwf (dyRun tx m k G).2 ((dyRun tx m k G).2 6) → MG M' (gEve (dyRun tx m k G).2)) ∧ (¬ ((dyRun tx m k G).1 = N ∧ lwf (dyRun tx m k G).2 ((dyRun tx m k G).2 6)) → MG M' (dyRun tx m k G).2) := by
  intro m
  induction m with
  | zero =>
    intro k x4 M G hk W X hn t
    rw [L_M_day_96, if_pos (by rw [le32_iff] <;> omega)]
    exact m_dyFin (by omega) W X (by omega) hN x4
  | succ m ih =>
    intro k x4 M G hk W X hn t
    obtain ⟨⟨v1, v2⟩, v3, v4⟩ := hv k (by omega)
    obtain ⟨t1, t2⟩ := t k (by omega)
    have ar := attF_range (p := G 6) W (G 8 1) (tx (4 * k) - 97) (tx (4 * k + 2) - 48)
    have i1 : (0 : Int) ≤ 2 * (k : Int) ∧ 2 * (k : Int) < 80 := by omega
    have i2 : (0 : Int) ≤ 2 * (k : Int) + 1 ∧ 2 * (k : Int) + 1 < 80 := by omega
    have n1 : (2 * (k : Int)).toNat = 2 * k := by omega
    have n2 : (2 * (k : Int) + 1).toNat = 2 * k + 1 := by omega
    obtain ⟨M1, e1, f1⟩ := m_refF (d := D) (by omega) W X (b := tx (4 * k) - 97) (c := tx (4 * k + 2) - 48) (by omega) (by omega)
    have X1 : MG M1 G := MG_ag (fun o i q => f1 o i (fun z => by rw [z] at q; cases q)) X
    rw [L_M_day_96, if_neg (by rw [le32_iff] <;> omega), if_pos i1, if_pos i2, n1, n2, t1, t2, e1, pbI_rI]
    by_cases q : 0 ≤ attF G (G 6) (G 8 1) (tx (4 * k) - 97) (tx (4 * k + 2) - 48)
    · have u : dyRun tx (m + 1) k G = dyRun tx m (k + 1) (gCarry G (tx (4 * k) - 97).toNat (tx (4 * k + 2) - 48).toNat) := if_pos q
      obtain ⟨⟨r1, r2⟩, -⟩ := attF_room q
      obtain ⟨M2, M3, e2, e3, X3, f3⟩ := m_remCarry (D := D) (by omega) W X1 hn q
      obtain ⟨M2', e2', -, -, f2⟩ := m_push (d := D) (M := M1) (by omega) (by rw [X1.2.2.1.1]; exact hn) (b := (tx (4 * k) - 97).toNat) (by omega)
      rw [show (((tx (4 * k) - 97).toNat : Nat) : Int) = tx (4 * k) - 97 by omega] at e2'
      obtain rfl := rV_inj (e2.symm.trans e2')
      rw [if_pos q, if_neg (fun z => z rfl), if_pos i1, f1 76 _ (by decide), t1, e2, pbN_rV, if_pos i1, if_pos i2, f2 76 _ (by omega) (by decide), f2 76 _ (by omega) (by decide), f1 76 _ (by decide), f1 76 _ (by decide), t1, t2, e3, pbI_rI, u, show ((k : Int) + 1) = ((k + 1 : Nat) : Int) by omega]
      exact ih (k + 1) _ M3 _ (by omega) (WF_carry W (by omega)) X3 (by rw [gCarry_9]; exact pqN_r hn) (TL_ag t (fun i => by rw [f3 76 i (by omega) (by decide) (by decide) (by decide), f1 76 i (by decide)]))
    · have u : dyRun tx (m + 1) k G = (k, G) := if_neg q
      rw [if_neg q, if_pos (by rw [eq32_iff] <;> omega), u]
      exact m_dyFin (by omega) W X1 (by omega) hN x4
theorem mg_day (hd : 7 ≤ d) (W : WF G) (X : MG M G) (hn : 0 ≤ G 9 0 ∧ G 9 0 ≤ 20) (hL : L ≤ 80) (h14 : M 60 14 = (L : Int)) (ht : ∀ i, i < 80 → M 68 i = tx i) (hx : ∀ i, i < 80 → -128 ≤ tx i ∧ tx i ≤ 127) {v : Int} (ee : xF d 219 [.inr 62] M = rI v M') : (dyF tx L ≠ -1 → v = -1 - dyF tx L ∧ MG M' G) ∧ (dyF tx L = -1 → v = ((dyRun tx ((L + 1) / 4) 0 G).1 : Int) ∧ ((dyRun tx ((L + 1) / 4) 0 G).1 = (L + 1) / 4 ∧ lwf (dyRun tx ((L + 1) / 4) 0 G).2 ((dyRun tx ((L + 1) / 4) 0 G).2 6) → MG M' (gEve (dyRun tx ((L + 1) / 4) 0 G).2)) ∧ (¬ ((dyRun tx ((L + 1) / 4) 0 G).1 = (L + 1) / 4 ∧ lwf (dyRun tx ((L + 1) / 4) 0 G).2 ((dyRun tx ((L + 1) / 4) 0 G).2 6)) → MG M' (dyRun tx ((L + 1) / 4) 0 G).2)) := by
  obtain ⟨D, rfl, hD⟩ := dsucc hd
  obtain ⟨D', rfl, -⟩ := dsucc (show 1 ≤ D by omega)
  rw [T_M_day, T_M_begin_68, pbN_rV] at ee
  generalize hB : pset (pset (pset (pset (pset (pset (pset M 60 17 0) 60 18 70) 60 19 (pset M 60 17 0 60 14)) 60 20 40) 60 21 0) 60 22 (-1)) 60 14 0 = MB at ee
  have F0 : AGy M MB := fun o i _ q => by
    rw [← hB]
    unfold pset
    rw [if_neg (fun z => q ⟨z.1, by omega⟩), if_neg (fun z => q ⟨z.1, by omega⟩), if_neg (fun z => q ⟨z.1, by omega⟩), if_neg (fun z => q ⟨z.1, by omega⟩), if_neg (fun z => q ⟨z.1, by omega⟩), if_neg (fun z => q ⟨z.1, by omega⟩), if_neg (fun z => q ⟨z.1, by omega⟩)]
  have e19 : MB 60 19 = (L : Int) := by
    rw [← hB, pset_ne2 (by decide), pset_ne2 (by decide), pset_ne2 (by decide), pset_ne2 (by decide), pset_eq, pset_ne2 (by decide)]; exact h14
  have rB : RSt tx L 40 MB (.inr 0) := by
    refine ⟨?_, e19, ?_, by omega, by decide, fun i hi => (F0 68 i (by decide) (by omega)).trans (ht i hi), hx, ?_, ?_, ?_, by omega, ?_⟩
    · rw [← hB, pset_ne2 (by decide), pset_ne2 (by decide), pset_ne2 (by decide), pset_ne2 (by decide), pset_ne2 (by decide), pset_eq]
    · rw [← hB, pset_ne2 (by decide), pset_ne2 (by decide), pset_ne2 (by decide), pset_eq]; rfl
    · rw [← hB, pset_ne2 (by decide), pset_ne2 (by decide), pset_eq]; decide
    · rw [← hB, pset_ne2 (by decide), pset_ne2 (by decide), pset_eq]; decide
    · rw [← hB, pset_ne2 (by decide), pset_ne2 (by decide), pset_eq]; rfl
    · rw [← hB, pset_ne2 (by decide), pset_eq]
  have ag : ∀ {M1 : pM}, AGy M M1 → MG M1 G := fun F => MG_ag (fun o i q => F o i (fun z => by rw [z] at q; cases q) (fun z => by
    obtain ⟨z1, z2⟩ := z
    rw [z1] at q
    rcases z2 with z2 | z2 | z2 | z2 | z2 | z2 | z2 <;> (rw [z2] at q; cases q))) X
  have main : ∀ e : Option pR, (dyF tx L ≠ -1 → ∃ M1, e = rI (-1 - dyF tx L) M1 ∧ AGy M M1) → (dyF tx L = -1 → ∃ (x2 : Int) (M1 : pM), e = xE (D' + 1) 219 96 [.inr 62, .inl (((L + 1) / 4 : Nat) : Int), .inl x2, .inl 0, .inl 0] [] M1 ∧ TL tx ((L + 1) / 4) M1 ∧ AGy M M1) → e = rI v M' → (dyF tx L ≠ -1 → v = -1 - dyF tx L ∧ MG M' G) ∧ (dyF tx L = -1 → v = ((dyRun tx ((L + 1) / 4) 0 G).1 : Int) ∧ ((dyRun tx ((L + 1) / 4) 0 G).1 = (L + 1) / 4 ∧ lwf (dyRun tx ((L + 1) / 4) 0 G).2 ((dyRun tx ((L + 1) / 4) 0 G).2 6) → MG M' (gEve (dyRun tx ((L + 1) / 4) 0 G).2)) ∧ (¬ ((dyRun tx ((L + 1) / 4) 0 G).1 = (L + 1) / 4 ∧ lwf (dyRun tx ((L + 1) / 4) 0 G).2 ((dyRun tx ((L + 1) / 4) 0 G).2 6)) → MG M' (dyRun tx ((L + 1) / 4) 0 G).2)) := by
    intro e p1 p2 h
    refine ⟨fun z => ?_, fun z => ?_⟩
    · obtain ⟨M1, e1, F1⟩ := p1 z
      obtain ⟨z1, z2⟩ := rI_inj (h.symm.trans e1)
      rw [z1, z2]; exact ⟨rfl, ag F1⟩
    · obtain ⟨x2, M1, e1, t1, F1⟩ := p2 z
      obtain ⟨N, n1, n2, n3, n4⟩ := dyF_good z
      rw [n1] at e1 t1 ⊢
      obtain ⟨M2, e2, r1, r2⟩ := m_dy96 (tx := tx) (D := D' + 1) (by omega) n2 n4 x2 N 0 0 M1 G (by omega) W (ag F1) hn t1
      obtain ⟨z1, z2⟩ := rI_inj (h.symm.trans (e1.trans e2))
      rw [z1, z2]; exact ⟨rfl, r1, r2⟩
  rw [e19] at ee
  by_cases q : L = 0
  · have uF : dyF tx L = -1 := if_pos q
    rw [if_pos (by rw [q]; decide)] at ee
    refine main _ (fun z => absurd uF z) (fun _ => ?_) ee
    have k21 := rB.2.2.2.2.2.2.2.2.2.1
    rw [L_M_day_22, if_pos rfl, e19, k21, if_pos (by rw [q]; decide), m_fineG (by omega) rB, pbI_rI, if_pos (by decide)]
    refine ⟨0, MB, by rw [show (L + 1) / 4 = 0 by omega]; rfl, fun k hk => by omega, F0⟩
  · have uF : dyF tx L = dyG L (dyS tx (min L 40) 11 0) := if_neg q
    rw [if_neg (by rw [le32_iff] <;> omega)] at ee
    have := m_dy22 (tx := tx) (M0 := M) (D := D' + 1) (L := L) (by omega) 11 0 MB (by omega) rB (fun k hk => absurd hk (Nat.not_lt_zero k)) F0
    obtain ⟨p1, p2⟩ := this
    rw [show 4 * 0 = 0 from rfl, ← uF] at p1 p2
    exact main _ p1 p2 ee
end COM
end
