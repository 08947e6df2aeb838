/-! evening, undo, keep, again: what both sides hold then -/
set_option maxRecDepth 10000 in
theorem T_X_copy_45_13 (D : Nat) (M : pM) : xF (D + 1) 48 [.inr 47, .inr 15] M = xE D 48 2 [.inr 47, .inr 15, .inl 0] [] M := (show xF (D + 1) 48 [.inr 47, .inr 15] M = xE D 48 0 [.inr 47, .inr 15, .inr 0] [] M from rfl).trans ((x_run D 48 (fun i => C_48.getD i s_none) rfl (fun i => Nat.beq i 2) 20 0 [.inr 47, .inr 15, .inr 0] [] M).trans rfl)
set_option maxRecDepth 10000 in
theorem L_X_copy_45_13_2 (D : Nat) (x2 : Int) (M : pM) : xE D 48 2 [.inr 47, .inr 15, .inl x2] [] M =
 if le32 10 x2 then
 some (none, M)
 else
 (if le32 10 x2 then
 some (none, M)
 else
 (if 0 ≤ x2 ∧ x2 < 10 then
 if 0 ≤ x2 ∧ x2 < 10 then
 xE D 48 2 [.inr 47, .inr 15, .inl (x2 + 1)] [] (pset M 13 x2.toNat (M 45 x2.toNat))
 else none
 else none)) :=
 (x_run D 48 (fun i => C_48.getD i s_none) rfl (fun i => Nat.beq i 2) 20 2 [.inr 47, .inr 15, .inl x2] [] M).trans rfl
theorem c_copy_45_13 {d : Nat} (hd : 1 ≤ d) {M : pM} : xF d 48 [.inr 47, .inr 15] M = rV (pcp M 45 13 10) := by
  obtain ⟨D, rfl, -⟩ := dsucc hd
  rw [T_X_copy_45_13]
  have key : ∀ m i : Nat, i + m = 10 → xE D 48 2 [.inr 47, .inr 15, .inl (i : Int)] [] (pcp M 45 13 i) = rV (pcp M 45 13 10) := by
    intro m
    induction m with
    | zero =>
      intro i hi
      have hi : i = 10 := by omega
      subst hi
      rw [L_X_copy_45_13_2, if_pos (by rw [le32_iff] <;> omega)]
    | succ m ih =>
      intro i hi
      rw [L_X_copy_45_13_2, if_neg (by rw [le32_iff] <;> omega), if_neg (by rw [le32_iff] <;> omega), if_pos (by omega), if_pos (by omega), Int.toNat_natCast, pcp_succ (by decide)]
      exact ih (i + 1) (by omega)
  have h := key 10 0 (by omega)
  rw [pcp_zero] at h
  exact h
set_option maxRecDepth 10000 in
theorem T_X_copy_47_13 (D : Nat) (M : pM) : xF (D + 1) 48 [.inr 49, .inr 15] M = xE D 48 2 [.inr 49, .inr 15, .inl 0] [] M := (show xF (D + 1) 48 [.inr 49, .inr 15] M = xE D 48 0 [.inr 49, .inr 15, .inr 0] [] M from rfl).trans ((x_run D 48 (fun i => C_48.getD i s_none) rfl (fun i => Nat.beq i 2) 20 0 [.inr 49, .inr 15, .inr 0] [] M).trans rfl)
set_option maxRecDepth 10000 in
theorem L_X_copy_47_13_2 (D : Nat) (x2 : Int) (M : pM) : xE D 48 2 [.inr 49, .inr 15, .inl x2] [] M =
 if le32 10 x2 then
 some (none, M)
 else
 (if le32 10 x2 then
 some (none, M)
 else
 (if 0 ≤ x2 ∧ x2 < 10 then
 if 0 ≤ x2 ∧ x2 < 10 then
 xE D 48 2 [.inr 49, .inr 15, .inl (x2 + 1)] [] (pset M 13 x2.toNat (M 47 x2.toNat))
 else none
 else none)) :=
 (x_run D 48 (fun i => C_48.getD i s_none) rfl (fun i => Nat.beq i 2) 20 2 [.inr 49, .inr 15, .inl x2] [] M).trans rfl
theorem c_copy_47_13 {d : Nat} (hd : 1 ≤ d) {M : pM} : xF d 48 [.inr 49, .inr 15] M = rV (pcp M 47 13 10) := by
  obtain ⟨D, rfl, -⟩ := dsucc hd
  rw [T_X_copy_47_13]
  have key : ∀ m i : Nat, i + m = 10 → xE D 48 2 [.inr 49, .inr 15, .inl (i : Int)] [] (pcp M 47 13 i) = rV (pcp M 47 13 10) := by
    intro m
    induction m with
    | zero =>
      intro i hi
      have hi : i = 10 := by omega
      subst hi
      rw [L_X_copy_47_13_2, if_pos (by rw [le32_iff] <;> omega)]
    | succ m ih =>
      intro i hi
      rw [L_X_copy_47_13_2, if_neg (by rw [le32_iff] <;> omega), if_neg (by rw [le32_iff] <;> omega), if_pos (by omega), if_pos (by omega), Int.toNat_natCast, pcp_succ (by decide)]
      exact ih (i + 1) (by omega)
  have h := key 10 0 (by omega)
  rw [pcp_zero] at h
  exact h
section COF
variable {D d : Nat} {M M' G G' h : pM} {p q : Nat → Int}
theorem inR_cg (e : ∀ t, t < hT h → p t = q t) (r : Int) : inR h p r = inR h q r := bitsOf_congr fun t ht => by rw [e t ht]
theorem ovf_cg (e : ∀ t, t < hT h → p t = q t) : ovf h p = ovf h q := bitsOf_congr fun r _ => by rw [inR_cg e]
theorem ptd_cg (e : ∀ t, t < hT h → p t = q t) : ptd h p = ptd h q := bitsOf_congr fun s _ => by
  unfold oneR
  simp only [inR_cg e]
theorem lwf_cg (e : ∀ t, t < hT h → p t = q t) : lwf h p ↔ lwf h q := by
  unfold lwf
  rw [ptd_cg e, ovf_cg e]
/-! evening -/
def gEve (G : pM) : pM := fun o i => if o = 8 ∧ i = 0 then G 8 0 + 1 else if o = 8 ∧ i = 1 then 0 else if o = 9 ∧ i = 0 then 0 else G o i
theorem gEve_ne {o i : Nat} (h : o ≠ 8) (h2 : o ≠ 9) : gEve G o i = G o i := by
  unfold gEve
  rw [if_neg (fun z => h z.1), if_neg (fun z => h z.1), if_neg (fun z => h2 z.1)]
theorem x_tell (hd : 1 ≤ d) {n : Nat} (hn : n < 12) (h5 : M 5 1 = (n : Int)) (v : Int) : ∃ M', xF d 128 [.inr 7, .inl v] M = rV M' ∧ M' 5 1 = ((n + 1 : Nat) : Int) ∧ ∀ o i, o ≠ 5 → o ≠ 6 → M' o i = M o i := by
  obtain ⟨D, rfl, -⟩ := dsucc hd
  rw [T_Numbers_tell, h5, if_neg (by rw [lt32_iff] <;> omega), if_neg (by rw [le32_iff] <;> omega), if_pos (by omega), pset_ne (show 5 ≠ 6 by decide), h5]
  exact ⟨_, rfl, pset_eq, fun o i a b => by rw [pset_ne a, pset_ne b]⟩
theorem m_tellX (hd : 1 ≤ d) {n : Nat} (hn : n < 16) (h16 : M 60 16 = (n : Int)) (v : Int) : ∃ M', xF d 172 [.inr 62, .inl v] M = rV M' ∧ M' 60 16 = ((n + 1 : Nat) : Int) ∧ ∀ o i, ¬ (o = 60 ∧ i = 16) → o ≠ 69 → M' o i = M o i := by
  obtain ⟨D, rfl, -⟩ := dsucc hd
  rw [T_M_tell, h16, if_pos (by omega), pset_ne (show 60 ≠ 69 by decide), h16]
  refine ⟨_, rfl, pset_eq, fun o i a b => ?_⟩
  unfold pset
  rw [if_neg (fun z => a z), if_neg (fun z => b z.1)]
theorem PL13 (W : WF G) (X : XG M G) : PL M G 13 (G 6) := fun t ht => ⟨(X.1.2.2.2.2.2.1 t ht).2.2.2, (W.2.2.2.2.2.2.2.1 t ht).2.2.2⟩
/-- the night of the class -/
theorem XG_eve (X : XG M G) (e15 : M' 0 15 = G 8 0 + 1) (e16 : M' 0 16 = 0) (e39 : M' 39 3 = 0) (eo : ∀ o i, cx o i = true → ¬ (o = 0 ∧ (i = 15 ∨ i = 16)) → ¬ (o = 39 ∧ i = 3) → M' o i = M o i) : XG M' (gEve G) := by
  obtain ⟨⟨x1, x2, x3, x4, x5, x6, x7⟩, ⟨d1, d2, d3⟩, ⟨p1, p2⟩, k⟩ := X
  refine ⟨⟨by rw [eo 7 9 rfl (by omega) (by omega)]; exact x1, by rw [eo 7 10 rfl (by omega) (by omega)]; exact x2, by rw [eo 7 11 rfl (by omega) (by omega)]; exact x3, fun r hr => by rw [eo 8 r rfl (by omega) (by omega)]; exact x4 r hr, fun q hq => by rw [eo 9 q rfl (by omega) (by omega)]; exact x5 q hq, fun t ht => by rw [eo 10 t rfl (by omega) (by omega), eo 11 t rfl (by omega) (by omega), eo 12 t rfl (by omega) (by omega), eo 13 t rfl (by omega) (by omega)]; exact x6 t ht, fun s hs => by rw [eo 14 s rfl (by omega) (by omega)]; exact x7 s hs⟩, ⟨e15, e16, by rw [eo 0 17 rfl (by omega) (by omega)]; exact d3⟩, ⟨e39, fun j hj => ?_⟩, fun i hi => ?_⟩
  · have hj : (j : Int) < 0 := hj
    omega
  · have a : ∀ j, M' (44 + 2 * i) j = M (44 + 2 * i) j := fun j => by
      rcases (show i = 0 ∨ i = 1 by omega) with rfl | rfl
      · exact eo 44 j rfl (by omega) (by omega)
      · exact eo 46 j rfl (by omega) (by omega)
    have bb : ∀ j, M' (45 + 2 * i) j = M (45 + 2 * i) j := fun j => by
      rcases (show i = 0 ∨ i = 1 by omega) with rfl | rfl
      · exact eo 45 j rfl (by omega) (by omega)
      · exact eo 47 j rfl (by omega) (by omega)
    have g16 : ∀ j, gEve G (16 + i) j = G (16 + i) j := fun j => gEve_ne (by omega) (by omega)
    simp only [a, bb, g16, gEve_ne (show 13 ≠ 8 by decide) (show 13 ≠ 9 by decide), gEve_ne (show 14 ≠ 8 by decide) (show 14 ≠ 9 by decide), gEve_ne (show 15 ≠ 8 by decide) (show 15 ≠ 9 by decide), gEve_ne (show 18 ≠ 8 by decide) (show 18 ≠ 9 by decide), gEve_ne (show 19 ≠ 8 by decide) (show 19 ≠ 9 by decide)]
    exact k i hi
theorem x_sleep (hd : 2 ≤ d) (X : XG M G) : ∃ M', xF d 53 [.inr 2] M = rI 1 M' ∧ XG M' (gEve G) := by
  obtain ⟨D, rfl, hD⟩ := dsucc hd
  obtain ⟨D', rfl, -⟩ := dsucc (show 1 ≤ D by omega)
  rw [T_X_sleep, T_Past_forget, pbN_rV]
  refine ⟨_, rfl, XG_eve X ?_ ?_ pset_eq (fun o i _ a b => ?_)⟩
  · rw [pset_ne (by decide), pset_ne2 (by decide), pset_eq, X.2.1.1]
  · rw [pset_ne (by decide), pset_eq]
  · unfold pset
    rw [if_neg (fun z => b z), if_neg (fun z => a ⟨z.1, Or.inr z.2⟩), if_neg (fun z => a ⟨z.1, Or.inl z.2⟩)]
theorem x_lawful13 (hd : 5 ≤ d) (W : WF G) (X : XG M G) : (lwf G (G 6) → xF d 91 [.inr 9, .inr 15] M = rI 1 M) ∧ (¬ lwf G (G 6) → xF d 91 [.inr 9, .inr 15] M = rI 0 M) := by
  have e := @c_lawful_13 d M G (G 6) hd W X.1 (PL13 W X) (inferInstanceAs (Decidable (ptd G (G 6) = 0 ∧ ovf G (G 6) = 0)))
  refine ⟨fun q => ?_, fun q => ?_⟩
  · rw [if_pos q] at e; exact e
  · rw [if_neg q] at e; exact e
theorem xg_evening (hd : 6 ≤ d) (W : WF G) (X : XG M G) {v : Int} (ee : xF d 12 [.inr 2] M = rI v M') : (lwf G (G 6) → v = 1 ∧ XG M' (gEve G)) ∧ (¬ lwf G (G 6) → v = 0 ∧ XG M' G) := by
  obtain ⟨D, rfl, hD⟩ := dsucc hd
  obtain ⟨D', rfl, -⟩ := dsucc (show 1 ≤ D by omega)
  have P := PL13 W X
  have q1 : ptd G (G 6) < 2 ^ hS G := bitsOf_lt _ _
  have q2 : ovf G (G 6) < 2 ^ hR G := bitsOf_lt _ _
  have q3 := p_S W
  have q4 := p_R W
  have q5 : ptd G (G 6) ||| ovf G (G 6) < 2 ^ 8 := Nat.or_lt_two_pow (by omega) (by omega)
  obtain ⟨M1, e1, k1, f1⟩ := x_tell (d := D' + 1) (M := pset M 5 1 0) (n := 0) (by omega) (by decide) pset_eq (ptd G (G 6) : Nat)
  obtain ⟨M2, e2, k2, f2⟩ := x_tell (d := D' + 1) (M := M1) (n := 1) (by omega) (by decide) k1 (ovf G (G 6) : Nat)
  have X2 : XG M2 G := XG_ag (fun o i q => by
    have h5 : o ≠ 5 := fun z => by rw [z] at q; cases q
    have h6 : o ≠ 6 := fun z => by rw [z] at q; cases q
    rw [f2 o i h5 h6, f1 o i h5 h6, pset_ne h5]) X
  rw [T_X_evening, c_parted_13 (by omega) W X.1 P, pbI_rI, c_overfull_13 (by omega) W X.1 P, pbI_rI, T_Numbers_start, pbN_rV, e1, pbN_rV, e2, pbN_rV, jor_nat (by omega) (by omega)] at ee
  by_cases e : ptd G (G 6) ||| ovf G (G 6) = 0
  · have hl : lwf G (G 6) := or_zero.mp e
    obtain ⟨M3, e3, X3⟩ := x_sleep (d := D' + 1) (by omega) X2
    rw [e, if_neg (fun z => z rfl), e3, pbI_rI] at ee
    obtain ⟨z1, z2⟩ := rI_inj ee
    rw [← z1, ← z2]
    exact ⟨fun _ => ⟨rfl, X3⟩, fun z => absurd hl z⟩
  · have hl : ¬ lwf G (G 6) := fun z => e (or_zero.mpr z)
    rw [if_pos (by rw [show (0 : Int) = ((0 : Nat) : Int) from rfl, eq32_iff] <;> omega)] at ee
    obtain ⟨z1, z2⟩ := rI_inj ee
    rw [← z1, ← z2]
    exact ⟨fun z => absurd z hl, fun _ => ⟨rfl, X2⟩⟩
/-- the night of the reference -/
theorem MG_eve (X : MG M G) (e10 : M' 60 10 = G 8 0 + 1) (e11 : M' 60 11 = 0) (e33 : M' 60 33 = 0) (eo : ∀ o i, cm o i = true → ¬ (o = 60 ∧ (i = 10 ∨ i = 11 ∨ i = 33)) → M' o i = M o i) : MG M' (gEve G) := by
  obtain ⟨⟨x1, x2, x3, x4, x5, x6, x7⟩, ⟨d1, d2, d3⟩, ⟨p1, p2⟩, k⟩ := X
  have eR : hR (gEve G) = hR G := rfl
  have eT : hT (gEve G) = hT G := rfl
  refine ⟨⟨by rw [eo 60 0 rfl (by omega)]; exact x1, by rw [eo 60 3 rfl (by omega)]; exact x2, by rw [eo 60 8 rfl (by omega)]; exact x3, fun r hr => by rw [eo 61 r rfl (by omega)]; exact x4 r hr, fun q hq => by rw [eo 62 q rfl (by omega)]; exact x5 q hq, fun t ht => by rw [eo 63 t rfl (by omega), eo 64 t rfl (by omega), eo 65 t rfl (by omega), eo 66 t rfl (by omega)]; exact x6 t ht, fun s hs => by rw [eo 67 s rfl (by omega)]; exact x7 s hs⟩, ⟨e10, e11, by rw [eo 60 12 rfl (by omega)]; exact d3⟩, ⟨e33, fun j hj => ?_⟩, fun i hi => ?_⟩
  · have hj : (j : Int) < 0 := hj
    omega
  · have a : ∀ j, M' 87 j = M 87 j := fun j => eo 87 j rfl (by omega)
    have bb : ∀ j, M' 88 j = M 88 j := fun j => eo 88 j rfl (by omega)
    have cc : ∀ j, M' 89 j = M 89 j := fun j => eo 89 j rfl (by omega)
    have g16 : ∀ j, gEve G (16 + i) j = G (16 + i) j := fun j => gEve_ne (by omega) (by omega)
    simp only [a, bb, cc, eo 60 52 rfl (by omega), g16, gEve_ne (show 13 ≠ 8 by decide) (show 13 ≠ 9 by decide), gEve_ne (show 14 ≠ 8 by decide) (show 14 ≠ 9 by decide), gEve_ne (show 15 ≠ 8 by decide) (show 15 ≠ 9 by decide), gEve_ne (show 18 ≠ 8 by decide) (show 18 ≠ 9 by decide), gEve_ne (show 19 ≠ 8 by decide) (show 19 ≠ 9 by decide), eR, eT]
    exact k i hi
theorem hp66 (W : WF G) (X : MG M G) : ∀ t, t < hT G → 0 ≤ M 66 t ∧ M 66 t < hR G := fun t ht => by
  rw [(X.1.2.2.2.2.2.1 t ht).2.2.2]; exact (W.2.2.2.2.2.2.2.1 t ht).2.2.2
theorem lwf66 (X : MG M G) : lwf G (M 66) ↔ lwf G (G 6) := lwf_cg fun t ht => (X.1.2.2.2.2.2.1 t ht).2.2.2
theorem m_law66F (hd : 3 ≤ d) (W : WF G) (X : MG M G) : (lwf G (G 6) → xF d 212 [.inr 62, .inr 68] M = rI 1 M) ∧ (¬ lwf G (G 6) → xF d 212 [.inr 62, .inr 68] M = rI 0 M) := by
  have e := m_lawful_66 hd (MH_fc W X.1) X.1.1 W.1
  have u := (lw_same W X.1 (hp66 W X)).trans (lwf66 X)
  refine ⟨fun q => ?_, fun q => ?_⟩
  · rw [if_pos (u.mpr q)] at e; exact e
  · rw [if_neg (fun z => q (u.mp z))] at e; exact e
theorem m_goEvF (hd : 4 ≤ d) (W : WF G) (X : MG M G) : (lwf G (G 6) → ∃ M', xF d 217 [.inr 62] M = rI 1 M' ∧ MG M' (gEve G) ∧ ∀ i, i ≠ 10 → i ≠ 11 → i ≠ 33 → M' 60 i = M 60 i) ∧ (¬ lwf G (G 6) → xF d 217 [.inr 62] M = rI 0 M) := by
  obtain ⟨D, rfl, hD⟩ := dsucc hd
  obtain ⟨u1, u2⟩ := m_law66F (d := D) (by omega) W X
  refine ⟨fun q => ?_, fun q => ?_⟩
  · rw [T_M_goEvening, u1 q, pbI_rI, if_pos (by decide)]
    refine ⟨_, rfl, MG_eve X ?_ ?_ pset_eq (fun o i _ a => ?_), fun i h1 h2 h3 => by rw [pset_ne2 h3, pset_ne2 h2, pset_ne2 h1]⟩
    · rw [pset_ne2 (by decide), pset_ne2 (by decide), pset_eq, X.2.1.1]
    · rw [pset_ne2 (by decide), pset_eq]
    · unfold pset
      rw [if_neg (fun z => a ⟨z.1, by omega⟩), if_neg (fun z => a ⟨z.1, by omega⟩), if_neg (fun z => a ⟨z.1, by omega⟩)]
  · rw [T_M_goEvening, u2 q, pbI_rI, if_neg (fun z => z rfl)]
theorem mg_evening (hd : 5 ≤ d) (W : WF G) (X : MG M G) {v : Int} (ee : xF d 218 [.inr 62] M = rI v M') : (lwf G (G 6) → v = 1 ∧ MG M' (gEve G)) ∧ (¬ lwf G (G 6) → v = 0 ∧ MG M' G) := by
  obtain ⟨D, rfl, hD⟩ := dsucc hd
  have X1 := MG_thr X
  rw [T_M_evening] at ee
  generalize pset M 60 17 0 = M0 at X1 ee
  rw [m_parted_66 (by omega) (MH_fc W X1.1), pbI_rI, m_full_66 (by omega) X1.1.2.1 W.2.1 X1.1.1 W.1, pbI_rI] at ee
  obtain ⟨M1, e1, k1, f1⟩ := m_tellX (d := D) (M := pset M0 60 16 0) (n := 0) (by omega) (by decide) pset_eq (bitsOf (fun s => pdF (M0 66) (me G s) (hT G)) (hS G) : Nat)
  obtain ⟨M2, e2, k2, f2⟩ := m_tellX (d := D) (M := M1) (n := 1) (by omega) (by decide) k1 (bitsOf (fun r => decide (¬ le32 0 (frF M0 (M0 66) r (hT G)))) (hR G) : Nat)
  have X2 : MG M2 G := MG_ag (fun o i q => by
    have h5 : ¬ (o = 60 ∧ i = 16) := fun z => by rw [z.1, z.2] at q; cases q
    have h6 : o ≠ 69 := fun z => by rw [z] at q; cases q
    rw [f2 o i h5 h6, f1 o i h5 h6]
    unfold pset
    rw [if_neg (fun z => h5 z)]) X1
  obtain ⟨u1, u2⟩ := m_goEvF (d := D) (by omega) W X2
  rw [e1, pbN_rV, e2, pbN_rV] at ee
  by_cases q : lwf G (G 6)
  · obtain ⟨M3, e3, X3, -⟩ := u1 q
    rw [e3, pbI_rI, if_neg (by decide)] at ee
    obtain ⟨z1, z2⟩ := rI_inj ee
    rw [← z1, ← z2]
    exact ⟨fun _ => ⟨rfl, X3⟩, fun z => absurd q z⟩
  · rw [u2 q, pbI_rI, if_pos rfl] at ee
    obtain ⟨z1, z2⟩ := rI_inj ee
    rw [← z1, ← z2]
    exact ⟨fun z => absurd z q, fun _ => ⟨rfl, X2⟩⟩
end COF
/-! undo, keep, again: what both sides hold then -/
def gUk (G : pM) : Nat := (G 9 0 - 1).toNat
def gUndo (G : pM) : pM := fun o i => if o = 9 ∧ i = 0 then G 9 0 - 1 else if o = 6 ∧ i = (G 10 (gUk G)).toNat then G 11 (gUk G) else if o = 8 ∧ i = 1 then G 12 (gUk G) else G o i
section COU
variable {D d : Nat} {M M' G G' : pM}
theorem gUndo_ne {o i : Nat} (h1 : o ≠ 6) (h2 : o ≠ 8) (h3 : o ≠ 9) : gUndo G o i = G o i := by
  unfold gUndo
  rw [if_neg (fun z => h3 z.1), if_neg (fun z => h1 z.1), if_neg (fun z => h2 z.1)]
theorem gUndo_6 {i : Nat} : gUndo G 6 i = if i = (G 10 (gUk G)).toNat then G 11 (gUk G) else G 6 i := by
  unfold gUndo
  rw [if_neg (by omega)]
  by_cases q : i = (G 10 (gUk G)).toNat
  · rw [if_pos ⟨rfl, q⟩, if_pos q]
  · rw [if_neg (fun z => q z.2), if_neg q, if_neg (by omega)]
theorem XG_undo (X : XG M G) (e13 : ∀ i, i < hT G → M' 13 i = if i = (G 10 (gUk G)).toNat then G 11 (gUk G) else M 13 i) (e16 : M' 0 16 = G 12 (gUk G)) (e39 : M' 39 3 = G 9 0 - 1) (eo : ∀ o i, cx o i = true → o ≠ 13 → ¬ (o = 0 ∧ i = 16) → ¬ (o = 39 ∧ i = 3) → M' o i = M o i) : XG M' (gUndo G) := by
  obtain ⟨⟨x1, x2, x3, x4, x5, x6, x7⟩, ⟨d1, d2, d3⟩, ⟨p1, p2⟩, k⟩ := X
  have g : ∀ o j, o < 6 ∨ o = 7 ∨ 9 < o → gUndo G o j = G o j := fun o j ho => gUndo_ne (by omega) (by omega) (by omega)
  have eT : hT (gUndo G) = hT G := by unfold hT; rw [g 0 1 (by decide)]
  refine ⟨⟨by rw [eo 7 9 rfl (by omega) (by omega) (by omega)]; exact x1, by rw [eo 7 10 rfl (by omega) (by omega) (by omega)]; exact x2, by rw [eo 7 11 rfl (by omega) (by omega) (by omega)]; exact x3, fun r hr => by rw [eo 8 r rfl (by omega) (by omega) (by omega), g 1 r (by decide)]; exact x4 r hr, fun q hq => by rw [eo 9 q rfl (by omega) (by omega) (by omega), g 2 q (by decide)]; exact x5 q hq, fun t ht => ?_, fun s hs => ?_⟩, ⟨?_, ?_, ?_⟩, ⟨?_, fun j hj => ?_⟩, fun i hi => ?_⟩
  · rw [eT] at ht
    obtain ⟨y1, y2, y3, y4⟩ := x6 t ht
    rw [eo 10 t rfl (by omega) (by omega) (by omega), eo 11 t rfl (by omega) (by omega) (by omega), eo 12 t rfl (by omega) (by omega) (by omega), e13 t ht, gUndo_6, g 3 t (by decide), g 4 t (by decide), g 5 t (by decide), y4]
    exact ⟨y1, y2, y3, rfl⟩
  · rw [eo 14 s rfl (by omega) (by omega) (by omega)]
    have : me (gUndo G) s = me G s := by unfold me; rw [g 7 s (by decide)]
    rw [this]; exact x7 s hs
  · rw [eo 0 15 rfl (by omega) (by omega) (by omega)]; exact d1
  · exact e16
  · rw [eo 0 17 rfl (by omega) (by omega) (by omega)]; exact d3
  · exact e39
  · have hj : (j : Int) < G 9 0 - 1 := hj
    rw [eo 40 j rfl (by omega) (by omega) (by omega), eo 41 j rfl (by omega) (by omega) (by omega), eo 42 j rfl (by omega) (by omega) (by omega), g 10 j (by decide), g 11 j (by decide), g 12 j (by decide)]
    exact p2 j (by omega)
  · have a : ∀ j, M' (44 + 2 * i) j = M (44 + 2 * i) j := fun j => by
      rcases (show i = 0 ∨ i = 1 by omega) with rfl | rfl
      · exact eo 44 j rfl (by omega) (by omega) (by omega)
      · exact eo 46 j rfl (by omega) (by omega) (by omega)
    have bb : ∀ j, M' (45 + 2 * i) j = M (45 + 2 * i) j := fun j => by
      rcases (show i = 0 ∨ i = 1 by omega) with rfl | rfl
      · exact eo 45 j rfl (by omega) (by omega) (by omega)
      · exact eo 47 j rfl (by omega) (by omega) (by omega)
    have g16 : ∀ j, gUndo G (16 + i) j = G (16 + i) j := fun j => g _ j (by omega)
    simp only [a, bb, g16, g 13 i (by decide), g 14 i (by decide), g 15 i (by decide), g 18 i (by decide), g 19 i (by decide)]
    exact k i hi
theorem xg_undo (hd : 2 ≤ d) (W : WF G) (X : XG M G) (hn : 0 ≤ G 9 0 ∧ G 9 0 ≤ 20) (hu : ∀ k : Nat, (k : Int) < G 9 0 → 0 ≤ G 10 k ∧ G 10 k ≤ 9) {v : Int} (ee : xF d 14 [.inr 2] M = rI v M') : (G 9 0 ≠ 0 → v = G 9 0 - 1 ∧ XG M' (gUndo G)) ∧ (G 9 0 = 0 → v = -1 ∧ XG M' G) := by
  obtain ⟨D, rfl, hD⟩ := dsucc hd
  have w2 := W.2.1
  rw [T_X_undo, X.2.2.1.1] at ee
  by_cases q : G 9 0 = 0
  · rw [if_neg (fun z => z (by rw [q]))] at ee
    obtain ⟨z1, z2⟩ := rI_inj ee
    rw [← z1, ← z2]
    exact ⟨fun z => absurd q z, fun _ => ⟨rfl, X⟩⟩
  · obtain ⟨n, hn2⟩ := natI (show 0 ≤ G 9 0 - 1 by omega)
    have ek : gUk G = n := by unfold gUk; omega
    have u1 := X.2.2.1.2 n (by omega)
    have u2 := hu n (by omega)
    have c39 : pset M 39 3 (G 9 0 - 1) 39 3 = (n : Int) := by rw [pset_eq]; exact hn2
    have o39 : ∀ o i, ¬ (o = 39 ∧ i = 3) → pset M 39 3 (G 9 0 - 1) o i = M o i := fun o i h => by
      unfold pset
      rw [if_neg (fun z => h z)]
    have XH0 : XH (pset M 39 3 (G 9 0 - 1)) G := XH_eq X.1 (fun o i h1 h2 _ => o39 o i (by omega))
    rw [if_pos (by rw [eq32_iff] <;> omega)] at ee
    rw [c39] at ee
    rw [c_numberAt_40n (by omega) (by omega), pbI_rI, o39 40 n (by omega), u1.1, c_isThing7 (by omega) W XH0 (by omega) (by omega), pbI_rI, ite01p] at ee
    refine ⟨fun _ => ?_, fun z => absurd z q⟩
    generalize pset M 39 3 (G 9 0 - 1) = M0 at *
    obtain ⟨x, hx⟩ := natI u2.1
    by_cases q2 : 0 ≤ G 10 n ∧ G 10 n < (hT G : Int)
    · have e13 : ∀ (N : pM) (a : Nat) (b : Int), pset N 13 a b 39 3 = N 39 3 := fun _ _ _ => pset_ne (by decide)
      rw [if_pos q2, c39, c_numberAt_41n (by omega) (by omega), pbI_rI, if_pos (by omega), e13, c39, c_numberAt_42n (by omega) (by omega), pbI_rI, pset_ne (show 42 ≠ 13 by decide), o39 41 n (by omega), o39 42 n (by omega), u1.2.1, u1.2.2, pset_ne (show 39 ≠ 0 by decide), e13, c39] at ee
      obtain ⟨z1, z2⟩ := rI_inj ee
      rw [← z1, ← z2]
      refine ⟨hn2.symm, XG_undo X (fun i hi => ?_) ?_ ?_ (fun o i hc a b c => ?_)⟩
      · rw [pset_ne (by decide), ek]
        by_cases q3 : i = (G 10 n).toNat
        · rw [q3, pset_eq, if_pos rfl]
        · rw [pset_ne2 q3, if_neg q3, o39 13 i (by omega)]
      · rw [pset_eq, ek]
      · rw [pset_ne (by decide), e13, c39]; exact hn2.symm
      · have : pset (pset M0 13 (G 10 n).toNat (G 11 n)) 0 16 (G 12 n) o i = M0 o i := by
          unfold pset
          rw [if_neg (fun z => b z), if_neg (fun z => a z.1)]
        rw [this, o39 o i c]
    · rw [if_neg q2, c39, c_numberAt_42n (by omega) (by omega), pbI_rI, o39 42 n (by omega), u1.2.2, pset_ne (show 39 ≠ 0 by decide), c39] at ee
      obtain ⟨z1, z2⟩ := rI_inj ee
      rw [← z1, ← z2]
      refine ⟨hn2.symm, XG_undo X (fun i hi => ?_) ?_ ?_ (fun o i hc a b c => ?_)⟩
      · rw [pset_ne (by decide), ek, if_neg (by omega), o39 13 i (by omega)]
      · rw [pset_eq, ek]
      · rw [pset_ne (by decide), c39]; exact hn2.symm
      · have : pset M0 0 16 (G 12 n) o i = M0 o i := by
          unfold pset
          rw [if_neg (fun z => b z)]
        rw [this, o39 o i c]
theorem MG_undo (X : MG M G) (e66 : ∀ i, i < hT G → M' 66 i = if i = (G 10 (gUk G)).toNat then G 11 (gUk G) else M 66 i) (e11 : M' 60 11 = G 12 (gUk G)) (e33 : M' 60 33 = G 9 0 - 1) (eo : ∀ o i, cm o i = true → o ≠ 66 → ¬ (o = 60 ∧ (i = 11 ∨ i = 33)) → M' o i = M o i) : MG M' (gUndo G) := by
  obtain ⟨⟨x1, x2, x3, x4, x5, x6, x7⟩, ⟨d1, d2, d3⟩, ⟨p1, p2⟩, k⟩ := X
  have g : ∀ o j, o < 6 ∨ o = 7 ∨ 9 < o → gUndo G o j = G o j := fun o j ho => gUndo_ne (by omega) (by omega) (by omega)
  have eR : hR (gUndo G) = hR G := by unfold hR; rw [g 0 0 (by decide)]
  have eT : hT (gUndo G) = hT G := by unfold hT; rw [g 0 1 (by decide)]
  have eS : hS (gUndo G) = hS G := by unfold hS; rw [g 0 2 (by decide)]
  refine ⟨⟨by rw [eo 60 0 rfl (by omega) (by omega), eR]; exact x1, by rw [eo 60 3 rfl (by omega) (by omega), eT]; exact x2, by rw [eo 60 8 rfl (by omega) (by omega), eS]; exact x3, fun r hr => ?_, fun q hq => ?_, fun t ht => ?_, fun s hs => ?_⟩, ⟨?_, e11, ?_⟩, ⟨e33, fun j hj => ?_⟩, fun i hi => ?_⟩
  · rw [eR] at hr
    rw [eo 61 r rfl (by omega) (by omega), g 1 r (by decide)]; exact x4 r hr
  · rw [eo 62 q rfl (by omega) (by omega), g 2 q (by decide)]; exact x5 q hq
  · rw [eT] at ht
    obtain ⟨y1, y2, y3, y4⟩ := x6 t ht
    rw [eo 63 t rfl (by omega) (by omega), eo 64 t rfl (by omega) (by omega), eo 65 t rfl (by omega) (by omega), e66 t ht, gUndo_6, g 3 t (by decide), g 4 t (by decide), g 5 t (by decide), y4]
    exact ⟨y1, y2, y3, rfl⟩
  · rw [eS] at hs
    rw [eo 67 s rfl (by omega) (by omega)]
    have : me (gUndo G) s = me G s := by unfold me; rw [g 7 s (by decide)]
    rw [this]; exact x7 s hs
  · rw [eo 60 10 rfl (by omega) (by omega)]; exact d1
  · rw [eo 60 12 rfl (by omega) (by omega)]; exact d3
  · have hj : (j : Int) < G 9 0 - 1 := hj
    rw [eo 75 _ rfl (by omega) (by omega), eo 75 _ rfl (by omega) (by omega), eo 75 _ rfl (by omega) (by omega), g 10 j (by decide), g 11 j (by decide), g 12 j (by decide)]
    exact p2 j (by omega)
  · have a : ∀ j, M' 87 j = M 87 j := fun j => eo 87 j rfl (by omega) (by omega)
    have bb : ∀ j, M' 88 j = M 88 j := fun j => eo 88 j rfl (by omega) (by omega)
    have cc : ∀ j, M' 89 j = M 89 j := fun j => eo 89 j rfl (by omega) (by omega)
    have g16 : ∀ j, gUndo G (16 + i) j = G (16 + i) j := fun j => g _ j (by omega)
    simp only [a, bb, cc, eo 60 52 rfl (by omega) (by omega), g16, g 13 i (by decide), g 14 i (by decide), g 15 i (by decide), g 18 i (by decide), g 19 i (by decide), eR, eT]
    exact k i hi
theorem mg_undo (hd : 1 ≤ d) (X : MG M G) (hn : 0 ≤ G 9 0 ∧ G 9 0 ≤ 20) (hu : ∀ k : Nat, (k : Int) < G 9 0 → 0 ≤ G 10 k ∧ G 10 k ≤ 9) {v : Int} (ee : xF d 220 [.inr 62] M = rI v M') : (G 9 0 ≠ 0 → v = G 9 0 - 1 ∧ MG M' (gUndo G)) ∧ (G 9 0 = 0 → v = -1 ∧ MG M' G) := by
  obtain ⟨D, rfl, -⟩ := dsucc hd
  have X1 := MG_thr X
  rw [T_M_undo] at ee
  generalize pset M 60 17 0 = M1 at X1 ee
  by_cases q : G 9 0 = 0
  · rw [if_neg (fun z => z (by rw [X1.2.2.1.1, q]))] at ee
    obtain ⟨z1, z2⟩ := rI_inj ee
    rw [← z1, ← z2]
    exact ⟨fun z => absurd q z, fun _ => ⟨rfl, X1⟩⟩
  · obtain ⟨n, hn2⟩ := natI (show 0 ≤ G 9 0 - 1 by omega)
    have ek : gUk G = n := by unfold gUk; omega
    have u1 := X1.2.2.1.2 n (by omega)
    have u2 := hu n (by omega)
    have e33 : pset M1 60 33 (n : Int) 60 33 = (n : Int) := pset_eq
    have o33 : ∀ o i, ¬ (o = 60 ∧ i = 33) → pset M1 60 33 (n : Int) o i = M1 o i := fun o i h => by
      unfold pset
      rw [if_neg (fun z => h z)]
    rw [if_pos (by rw [X1.2.2.1.1, eq32_iff] <;> omega), X1.2.2.1.1, hn2] at ee
    generalize pset M1 60 33 (n : Int) = M2 at e33 o33 ee
    have n1 : (3 * (n : Int)).toNat = 3 * n := by omega
    have n2 : (3 * (n : Int) + 1).toNat = 3 * n + 1 := by omega
    have n3 : (3 * (n : Int) + 2).toNat = 3 * n + 2 := by omega
    have a1 : ∀ (M : pM) (i : Nat) (v : Int), pset M 66 i v 60 33 = M 60 33 := fun _ _ _ => pset_ne (by decide)
    have a2 : ∀ (M : pM) (i k : Nat) (v : Int), pset M 66 i v 75 k = M 75 k := fun _ _ _ _ => pset_ne (by decide)
    have b0 : M2 75 (3 * n) = G 10 n := by rw [o33 75 _ (by omega)]; exact u1.1
    have b1 : M2 75 (3 * n + 1) = G 11 n := by rw [o33 75 _ (by omega)]; exact u1.2.1
    have b2 : M2 75 (3 * n + 2) = G 12 n := by rw [o33 75 _ (by omega)]; exact u1.2.2
    simp only [a1, a2, e33, n1, n2, n3, b0, b1, b2] at ee
    rw [if_pos (by omega), if_pos (by omega), if_pos (by omega), if_pos (by omega)] at ee
    refine ⟨fun _ => ?_, fun z => absurd z q⟩
    obtain ⟨z1, z2⟩ := rI_inj ee
    rw [← z1, ← z2]
    refine ⟨by rw [pset_ne2 (by decide), a1, e33]; exact hn2.symm, MG_undo X1 (fun i hi => ?_) ?_ ?_ (fun o i hc a b => ?_)⟩
    · rw [pset_ne (by decide), ek]
      by_cases q3 : i = (G 10 n).toNat
      · rw [q3, pset_eq, if_pos rfl]
      · rw [pset_ne2 q3, if_neg q3, o33 66 i (by omega)]
    · rw [pset_eq, ek]
    · rw [pset_ne2 (by decide), a1, e33]; exact hn2.symm
    · have : pset (pset M2 66 (G 10 n).toNat (G 11 n)) 60 11 (G 12 n) o i = M2 o i := by
        unfold pset
        rw [if_neg (fun z => b ⟨z.1, Or.inl z.2⟩), if_neg (fun z => a z.1)]
      rw [this, o33 o i (fun z => b ⟨z.1, Or.inr z.2⟩)]
end COU
/-! keep, again: what both sides hold then -/
def gKeep (G : pM) (b : Nat) : pM := fun o i => if o = 13 ∧ i = b then 1 else if o = 14 ∧ i = b then (hR G : Int) else if o = 15 ∧ i = b then (hT G : Int) else if o = 16 + b then G 6 i else if o = 18 ∧ i = b then G 8 0 else if o = 19 ∧ i = b then G 8 1 else G o i
def gAgain (G : pM) (b : Nat) : pM := fun o i => if o = 6 ∧ i < hT G then G (16 + b) i else if o = 8 ∧ i = 0 then G 18 b else if o = 8 ∧ i = 1 then G 19 b else if o = 9 ∧ i = 0 then 0 else G o i
/-- a house is kept that can be again -/
def agC (G : pM) (b : Int) : Prop := (0 ≤ b ∧ b ≤ 1) ∧ G 13 b.toNat ≠ 0 ∧ G 14 b.toNat = hR G ∧ G 15 b.toNat = hT G
section COK
variable {D d : Nat} {M M' G G' : pM}
theorem gKeep_lo {b o i : Nat} (h : o < 13) : gKeep G b o i = G o i := by
  unfold gKeep
  rw [if_neg (by omega), if_neg (by omega), if_neg (by omega), if_neg (by omega), if_neg (by omega), if_neg (by omega)]
theorem gKeep_at {b : Nat} (hb : b < 2) : gKeep G b 13 b = 1 ∧ gKeep G b 14 b = hR G ∧ gKeep G b 15 b = hT G ∧ (∀ i, gKeep G b (16 + b) i = G 6 i) ∧ gKeep G b 18 b = G 8 0 ∧ gKeep G b 19 b = G 8 1 := by
  unfold gKeep
  refine ⟨if_pos ⟨rfl, rfl⟩, ?_, ?_, fun i => ?_, ?_, ?_⟩
  · rw [if_neg (by omega), if_pos ⟨rfl, rfl⟩]
  · rw [if_neg (by omega), if_neg (by omega), if_pos ⟨rfl, rfl⟩]
  · rw [if_neg (by omega), if_neg (by omega), if_neg (by omega), if_pos rfl]
  · rw [if_neg (by omega), if_neg (by omega), if_neg (by omega), if_neg (by omega), if_pos ⟨rfl, rfl⟩]
  · rw [if_neg (by omega), if_neg (by omega), if_neg (by omega), if_neg (by omega), if_neg (by omega), if_pos ⟨rfl, rfl⟩]
theorem gKeep_no {b c : Nat} (hb : b < 2) (hc : c < 2) (h : c ≠ b) : gKeep G b 13 c = G 13 c ∧ gKeep G b 14 c = G 14 c ∧ gKeep G b 15 c = G 15 c ∧ (∀ i, gKeep G b (16 + c) i = G (16 + c) i) ∧ gKeep G b 18 c = G 18 c ∧ gKeep G b 19 c = G 19 c := by
  unfold gKeep
  refine ⟨?_, ?_, ?_, fun i => ?_, ?_, ?_⟩
  · rw [if_neg (by omega), if_neg (by omega), if_neg (by omega), if_neg (by omega), if_neg (by omega), if_neg (by omega)]
  · rw [if_neg (by omega), if_neg (by omega), if_neg (by omega), if_neg (by omega), if_neg (by omega), if_neg (by omega)]
  · rw [if_neg (by omega), if_neg (by omega), if_neg (by omega), if_neg (by omega), if_neg (by omega), if_neg (by omega)]
  · rw [if_neg (by omega), if_neg (by omega), if_neg (by omega), if_neg (by omega), if_neg (by omega), if_neg (by omega)]
  · rw [if_neg (by omega), if_neg (by omega), if_neg (by omega), if_neg (by omega), if_neg (by omega), if_neg (by omega)]
  · rw [if_neg (by omega), if_neg (by omega), if_neg (by omega), if_neg (by omega), if_neg (by omega), if_neg (by omega)]
theorem XG_keep (X : XG M G) {b : Nat} (hb : b < 2) (e1 : M' (44 + 2 * b) 1 = 1) (e2 : M' (44 + 2 * b) 2 = hR G) (e3 : M' (44 + 2 * b) 3 = hT G) (e4 : M' (44 + 2 * b) 4 = G 8 0) (e5 : M' (44 + 2 * b) 5 = G 8 1) (et : ∀ t, t < hT G → M' (45 + 2 * b) t = G 6 t) (eo : ∀ o i, cx o i = true → o ≠ 44 + 2 * b → o ≠ 45 + 2 * b → M' o i = M o i) : XG M' (gKeep G b) := by
  obtain ⟨⟨x1, x2, x3, x4, x5, x6, x7⟩, ⟨d1, d2, d3⟩, ⟨p1, p2⟩, k⟩ := X
  have g : ∀ o j, o < 13 → gKeep G b o j = G o j := fun o j ho => gKeep_lo ho
  have eR : hR (gKeep G b) = hR G := by unfold hR; rw [g 0 0 (by decide)]
  have eT : hT (gKeep G b) = hT G := by unfold hT; rw [g 0 1 (by decide)]
  have eS : hS (gKeep G b) = hS G := by unfold hS; rw [g 0 2 (by decide)]
  refine ⟨⟨by rw [eo 7 9 rfl (by omega) (by omega), eR]; exact x1, by rw [eo 7 10 rfl (by omega) (by omega), eT]; exact x2, by rw [eo 7 11 rfl (by omega) (by omega), eS]; exact x3, fun r hr => by rw [eR] at hr; rw [eo 8 r rfl (by omega) (by omega), g 1 r (by decide)]; exact x4 r hr, fun q hq => by rw [eo 9 q rfl (by omega) (by omega), g 2 q (by decide)]; exact x5 q hq, fun t ht => ?_, fun s hs => ?_⟩, ⟨?_, ?_, ?_⟩, ⟨?_, fun j hj => ?_⟩, fun i hi => ?_⟩
  · rw [eT] at ht
    rw [eo 10 t rfl (by omega) (by omega), eo 11 t rfl (by omega) (by omega), eo 12 t rfl (by omega) (by omega), eo 13 t rfl (by omega) (by omega), g 3 t (by decide), g 4 t (by decide), g 5 t (by decide), g 6 t (by decide)]
    exact x6 t ht
  · rw [eS] at hs
    rw [eo 14 s rfl (by omega) (by omega)]
    have : me (gKeep G b) s = me G s := by unfold me; rw [g 7 s (by decide)]
    rw [this]; exact x7 s hs
  · rw [eo 0 15 rfl (by omega) (by omega), g 8 0 (by decide)]; exact d1
  · rw [eo 0 16 rfl (by omega) (by omega), g 8 1 (by decide)]; exact d2
  · rw [eo 0 17 rfl (by omega) (by omega), g 8 2 (by decide)]; exact d3
  · rw [eo 39 3 rfl (by omega) (by omega), g 9 0 (by decide)]; exact p1
  · rw [g 9 0 (by decide)] at hj
    rw [eo 40 j rfl (by omega) (by omega), eo 41 j rfl (by omega) (by omega), eo 42 j rfl (by omega) (by omega), g 10 j (by decide), g 11 j (by decide), g 12 j (by decide)]
    exact p2 j hj
  · by_cases q : i = b
    · rw [q]
      obtain ⟨a1, a2, a3, a4, a5, a6⟩ := gKeep_at (G := G) hb
      simp only [a1, a2, a3, a4, a5, a6]
      exact ⟨e1, fun _ => ⟨e2, e3, e4, e5, fun t ht => et t (by omega)⟩⟩
    · obtain ⟨a1, a2, a3, a4, a5, a6⟩ := gKeep_no (G := G) hb hi q
      have b1 : ∀ j, M' (44 + 2 * i) j = M (44 + 2 * i) j := fun j => by
        rcases (show i = 0 ∨ i = 1 by omega) with rfl | rfl
        · exact eo 44 j rfl (by omega) (by omega)
        · exact eo 46 j rfl (by omega) (by omega)
      have b2 : ∀ j, M' (45 + 2 * i) j = M (45 + 2 * i) j := fun j => by
        rcases (show i = 0 ∨ i = 1 by omega) with rfl | rfl
        · exact eo 45 j rfl (by omega) (by omega)
        · exact eo 47 j rfl (by omega) (by omega)
      simp only [a1, a2, a3, a4, a5, a6, b1, b2]
      exact k i hi
theorem MG_keep (X : MG M G) {b : Nat} (hb : b < 2) (e88 : ∀ i, M' 88 i = if i = b then 1 else M 88 i) (e89 : ∀ i, M' 89 i = if i = b then M 60 52 else M 89 i) (et : ∀ t, t < hT G → M' 87 (12 * b + t) = G 6 t) (e10 : M' 87 (12 * b + 10) = G 8 0) (e11 : M' 87 (12 * b + 11) = G 8 1) (e87 : ∀ j, (j < 12 * b ∨ 12 * b + 12 ≤ j) → M' 87 j = M 87 j) (hT10 : hT G ≤ 10) (eo : ∀ o i, cm o i = true → o ≠ 87 → o ≠ 88 → o ≠ 89 → M' o i = M o i) : MG M' (gKeep G b) := by
  obtain ⟨⟨x1, x2, x3, x4, x5, x6, x7⟩, ⟨d1, d2, d3⟩, ⟨p1, p2⟩, k⟩ := X
  have g : ∀ o j, o < 13 → gKeep G b o j = G o j := fun o j ho => gKeep_lo ho
  have eR : hR (gKeep G b) = hR G := by unfold hR; rw [g 0 0 (by decide)]
  have eT : hT (gKeep G b) = hT G := by unfold hT; rw [g 0 1 (by decide)]
  have eS : hS (gKeep G b) = hS G := by unfold hS; rw [g 0 2 (by decide)]
  refine ⟨⟨by rw [eo 60 0 rfl (by omega) (by omega) (by omega), eR]; exact x1, by rw [eo 60 3 rfl (by omega) (by omega) (by omega), eT]; exact x2, by rw [eo 60 8 rfl (by omega) (by omega) (by omega), eS]; exact x3, fun r hr => ?_, fun q hq => ?_, fun t ht => ?_, fun s hs => ?_⟩, ⟨?_, ?_, ?_⟩, ⟨?_, fun j hj => ?_⟩, fun i hi => ?_⟩
  · rw [eR] at hr
    rw [eo 61 r rfl (by omega) (by omega) (by omega), g 1 r (by decide)]; exact x4 r hr
  · rw [eo 62 q rfl (by omega) (by omega) (by omega), g 2 q (by decide)]; exact x5 q hq
  · rw [eT] at ht
    rw [eo 63 t rfl (by omega) (by omega) (by omega), eo 64 t rfl (by omega) (by omega) (by omega), eo 65 t rfl (by omega) (by omega) (by omega), eo 66 t rfl (by omega) (by omega) (by omega), g 3 t (by decide), g 4 t (by decide), g 5 t (by decide), g 6 t (by decide)]
    exact x6 t ht
  · rw [eS] at hs
    rw [eo 67 s rfl (by omega) (by omega) (by omega)]
    have : me (gKeep G b) s = me G s := by unfold me; rw [g 7 s (by decide)]
    rw [this]; exact x7 s hs
  · rw [eo 60 10 rfl (by omega) (by omega) (by omega), g 8 0 (by decide)]; exact d1
  · rw [eo 60 11 rfl (by omega) (by omega) (by omega), g 8 1 (by decide)]; exact d2
  · rw [eo 60 12 rfl (by omega) (by omega) (by omega), g 8 2 (by decide)]; exact d3
  · rw [eo 60 33 rfl (by omega) (by omega) (by omega), g 9 0 (by decide)]; exact p1
  · rw [g 9 0 (by decide)] at hj
    rw [eo 75 _ rfl (by omega) (by omega) (by omega), eo 75 _ rfl (by omega) (by omega) (by omega), eo 75 _ rfl (by omega) (by omega) (by omega), g 10 j (by decide), g 11 j (by decide), g 12 j (by decide)]
    exact p2 j hj
  · have u52 := eo 60 52 rfl (by omega) (by omega) (by omega)
    by_cases q : i = b
    · rw [q]
      obtain ⟨a1, a2, a3, a4, a5, a6⟩ := gKeep_at (G := G) hb
      simp only [a1, a2, a3, a4, a5, a6, e88, e89, u52, eR, eT, if_true]
      exact ⟨trivial, fun _ => ⟨Int.le_refl _, ⟨fun _ => ⟨trivial, trivial⟩, fun _ => trivial⟩, Int.le_refl _, Int.le_refl _, e10, e11, fun t ht => et t (by omega)⟩⟩
    · obtain ⟨a1, a2, a3, a4, a5, a6⟩ := gKeep_no (G := G) hb hi q
      obtain ⟨k1, k2⟩ := k i hi
      simp only [a1, a2, a3, a4, a5, a6, e88, e89, u52, eR, eT, if_neg q]
      refine ⟨k1, fun z => ?_⟩
      obtain ⟨j1, j2, j3, j4, j5, j6, j7⟩ := k2 z
      refine ⟨j1, j2, j3, j4, ?_, ?_, fun t ht => ?_⟩
      · rw [e87 _ (by omega)]; exact j5
      · rw [e87 _ (by omega)]; exact j6
      · rw [e87 _ (by omega)]; exact j7 t ht
theorem m_kp23 {b : Nat} (hb : b < 2) : ∀ (m t : Nat) (M : pM), t + m = 10 → ∃ M', xE D 266 23 [.inr 62, .inl (b : Int), .inl (t : Int)] [] M = rI 1 M' ∧ (∀ j, M' 87 j = if 12 * b + t ≤ j ∧ j < 12 * b + 10 then M 66 (j - 12 * b) else if j = 12 * b + 10 then M 60 10 else if j = 12 * b + 11 then M 60 11 else M 87 j) ∧ ∀ o i, o ≠ 87 → M' o i = M o i := by
  intro m
  induction m with
  | zero =>
    intro t M ht
    have e : t = 10 := by omega
    have n1 : (12 * (b : Int) + 10).toNat = 12 * b + 10 := by omega
    have n2 : (12 * (b : Int) + 10 + 1).toNat = 12 * b + 11 := by omega
    rw [L_M_keep_23, if_pos (by rw [le32_iff] <;> omega), if_pos (by omega), if_pos (by omega), n1, n2, pset_ne (show 60 ≠ 87 by decide)]
    refine ⟨_, rfl, fun j => ?_, fun o i ho => by rw [pset_ne ho, pset_ne ho]⟩
    rw [if_neg (by omega)]
    by_cases q : j = 12 * b + 10
    · rw [if_pos q, q, pset_ne2 (by omega), pset_eq]
    · rw [if_neg q]
      by_cases q2 : j = 12 * b + 11
      · rw [if_pos q2, q2, pset_eq]
      · rw [if_neg q2, pset_ne2 q2, pset_ne2 q]
  | succ m ih =>
    intro t M ht
    have n1 : (12 * (b : Int) + (t : Int)).toNat = 12 * b + t := by omega
    rw [L_M_keep_23, if_neg (by rw [le32_iff] <;> omega), if_pos (by omega), if_pos (by omega), n1, Int.toNat_natCast, show ((t : Int) + 1) = ((t + 1 : Nat) : Int) by omega]
    obtain ⟨M', e, r1, r2⟩ := ih (t + 1) (pset M 87 (12 * b + t) (M 66 t)) (by omega)
    refine ⟨M', e, fun j => ?_, fun o i ho => by rw [r2 o i ho, pset_ne ho]⟩
    rw [r1 j, pset_ne (show 66 ≠ 87 by decide), pset_ne (show 60 ≠ 87 by decide), pset_ne (show 60 ≠ 87 by decide)]
    by_cases q : j = 12 * b + t
    · rw [if_neg (by omega), if_neg (by omega), if_neg (by omega), q, pset_eq, if_pos (by omega), show 12 * b + t - 12 * b = t by omega]
    · rw [pset_ne2 q]
      by_cases q2 : 12 * b + (t + 1) ≤ j ∧ j < 12 * b + 10
      · rw [if_pos q2, if_pos (show 12 * b + t ≤ j ∧ j < 12 * b + 10 by omega)]
      · rw [if_neg q2, if_neg (show ¬ (12 * b + t ≤ j ∧ j < 12 * b + 10) by omega)]
theorem mg_keep (hd : 2 ≤ d) (W : WF G) (X : MG M G) {b : Int} (h1 : -2147483648 ≤ b) (h2 : b ≤ 2147483647) {v : Int} (ee : xF d 266 [.inr 62, .inl b] M = rI v M') : (0 ≤ b ∧ b ≤ 1 → MG M' (gKeep G b.toNat)) ∧ (¬ (0 ≤ b ∧ b ≤ 1) → MG M' G) := by
  obtain ⟨D, rfl, hD⟩ := dsucc hd
  have w2 := W.2.1
  have X1 := MG_thr X
  rw [T_M_keep, m_in (by omega), pbI_rI] at ee
  generalize pset M 60 17 0 = M1 at X1 ee
  by_cases q : lt32 b 0 ∨ lt32 1 b
  · rw [if_pos q, if_neg (fun z => z rfl)] at ee
    rw [lt32_iff (by omega) (by omega) (by omega) (by omega), lt32_iff (by omega) (by omega) (by omega) (by omega)] at q
    rw [← (rI_inj ee).2]
    exact ⟨fun z => by omega, fun _ => X1⟩
  · rw [if_neg q, if_pos (by decide)] at ee
    rw [lt32_iff (by omega) (by omega) (by omega) (by omega), lt32_iff (by omega) (by omega) (by omega) (by omega)] at q
    obtain ⟨x, rfl⟩ := natI (show 0 ≤ b by omega)
    obtain ⟨M2, e2, r1, r2⟩ := m_kp23 (D := D) (b := x) (by omega) 10 0 (pset (pset M1 88 x 1) 89 x (M1 60 52)) (by decide)
    have i0 : (0 : Int) ≤ (x : Int) ∧ (x : Int) < 2 := by omega
    rw [if_pos i0, if_pos i0, Int.toNat_natCast, pset_ne (show 60 ≠ 88 by decide), show (.inl 0 : pV) = .inl ((0 : Nat) : Int) from rfl, e2] at ee
    rw [← (rI_inj ee).2, Int.toNat_natCast]
    have o1 : ∀ o i, o ≠ 88 → o ≠ 89 → pset (pset M1 88 x 1) 89 x (M1 60 52) o i = M1 o i := fun o i a b => by rw [pset_ne b, pset_ne a]
    refine ⟨fun _ => MG_keep X1 (b := x) (by omega) (fun i => ?_) (fun i => ?_) (fun t ht => ?_) ?_ ?_ (fun j hj => ?_) w2 (fun o i hc a b c => ?_), fun z => by omega⟩
    · rw [r2 88 i (by decide), pset_ne (show 88 ≠ 89 by decide)]
      by_cases z : i = x
      · rw [z, pset_eq, if_pos rfl]
      · rw [pset_ne2 z, if_neg z]
    · rw [r2 89 i (by decide)]
      by_cases z : i = x
      · rw [z, pset_eq, if_pos rfl]
      · rw [pset_ne2 z, if_neg z, pset_ne (show 89 ≠ 88 by decide)]
    · rw [r1, if_pos (by omega), o1 66 _ (by decide) (by decide), show 12 * x + t - 12 * x = t by omega]
      exact (X1.1.2.2.2.2.2.1 t ht).2.2.2
    · rw [r1, if_neg (by omega), if_pos rfl, o1 60 10 (by decide) (by decide)]; exact X1.2.1.1
    · rw [r1, if_neg (by omega), if_neg (by omega), if_pos rfl, o1 60 11 (by decide) (by decide)]; exact X1.2.1.2.1
    · rw [r1, if_neg (by omega), if_neg (by omega), if_neg (by omega), o1 87 j (by decide) (by decide)]
    · rw [r2 o i a, o1 o i b c]
/-! again -/
theorem gAgain_ne {b o i : Nat} (h1 : o ≠ 6) (h2 : o ≠ 8) (h3 : o ≠ 9) : gAgain G b o i = G o i := by
  unfold gAgain
  rw [if_neg (fun z => h1 z.1), if_neg (fun z => h2 z.1), if_neg (fun z => h2 z.1), if_neg (fun z => h3 z.1)]
theorem XG_again (X : XG M G) {b : Nat} (e13 : ∀ t, t < hT G → M' 13 t = G (16 + b) t) (e15 : M' 0 15 = G 18 b) (e16 : M' 0 16 = G 19 b) (e39 : M' 39 3 = 0) (eo : ∀ o i, cx o i = true → o ≠ 13 → ¬ (o = 0 ∧ (i = 15 ∨ i = 16)) → ¬ (o = 39 ∧ i = 3) → M' o i = M o i) : XG M' (gAgain G b) := by
  obtain ⟨⟨x1, x2, x3, x4, x5, x6, x7⟩, ⟨d1, d2, d3⟩, ⟨p1, p2⟩, k⟩ := X
  have g : ∀ o j, o < 6 ∨ o = 7 ∨ 9 < o → gAgain G b o j = G o j := fun o j ho => gAgain_ne (by omega) (by omega) (by omega)
  have eT : hT (gAgain G b) = hT G := by unfold hT; rw [g 0 1 (by decide)]
  refine ⟨⟨by rw [eo 7 9 rfl (by omega) (by omega) (by omega)]; exact x1, by rw [eo 7 10 rfl (by omega) (by omega) (by omega)]; exact x2, by rw [eo 7 11 rfl (by omega) (by omega) (by omega)]; exact x3, fun r hr => by rw [eo 8 r rfl (by omega) (by omega) (by omega), g 1 r (by decide)]; exact x4 r hr, fun q hq => by rw [eo 9 q rfl (by omega) (by omega) (by omega), g 2 q (by decide)]; exact x5 q hq, fun t ht => ?_, fun s hs => ?_⟩, ⟨e15, e16, ?_⟩, ⟨e39, fun j hj => ?_⟩, fun i hi => ?_⟩
  · rw [eT] at ht
    obtain ⟨y1, y2, y3, y4⟩ := x6 t ht
    have e6 : gAgain G b 6 t = G (16 + b) t := if_pos ⟨rfl, ht⟩
    rw [eo 10 t rfl (by omega) (by omega) (by omega), eo 11 t rfl (by omega) (by omega) (by omega), eo 12 t rfl (by omega) (by omega) (by omega), e13 t ht, e6, g 3 t (by decide), g 4 t (by decide), g 5 t (by decide)]
    exact ⟨y1, y2, y3, rfl⟩
  · rw [eo 14 s rfl (by omega) (by omega) (by omega)]
    have : me (gAgain G b) s = me G s := by unfold me; rw [g 7 s (by decide)]
    rw [this]; exact x7 s hs
  · rw [eo 0 17 rfl (by omega) (by omega) (by omega)]; exact d3
  · have hj : (j : Int) < 0 := hj
    omega
  · have a : ∀ j, M' (44 + 2 * i) j = M (44 + 2 * i) j := fun j => by
      rcases (show i = 0 ∨ i = 1 by omega) with rfl | rfl
      · exact eo 44 j rfl (by omega) (by omega) (by omega)
      · exact eo 46 j rfl (by omega) (by omega) (by omega)
    have bb : ∀ j, M' (45 + 2 * i) j = M (45 + 2 * i) j := fun j => by
      rcases (show i = 0 ∨ i = 1 by omega) with rfl | rfl
      · exact eo 45 j rfl (by omega) (by omega) (by omega)
      · exact eo 47 j rfl (by omega) (by omega) (by omega)
    have g16 : ∀ j, gAgain G b (16 + i) j = G (16 + i) j := fun j => g _ j (by omega)
    simp only [a, bb, g16, g 13 i (by decide), g 14 i (by decide), g 15 i (by decide), g 18 i (by decide), g 19 i (by decide)]
    exact k i hi
theorem MG_again (X : MG M G) {b : Nat} (e66 : ∀ t, t < hT G → M' 66 t = G (16 + b) t) (e10 : M' 60 10 = G 18 b) (e11 : M' 60 11 = G 19 b) (e33 : M' 60 33 = 0) (eo : ∀ o i, cm o i = true → o ≠ 66 → ¬ (o = 60 ∧ (i = 10 ∨ i = 11 ∨ i = 33)) → M' o i = M o i) : MG M' (gAgain G b) := by
  obtain ⟨⟨x1, x2, x3, x4, x5, x6, x7⟩, ⟨d1, d2, d3⟩, ⟨p1, p2⟩, k⟩ := X
  have g : ∀ o j, o < 6 ∨ o = 7 ∨ 9 < o → gAgain G b o j = G o j := fun o j ho => gAgain_ne (by omega) (by omega) (by omega)
  have eR : hR (gAgain G b) = hR G := by unfold hR; rw [g 0 0 (by decide)]
  have eT : hT (gAgain G b) = hT G := by unfold hT; rw [g 0 1 (by decide)]
  have eS : hS (gAgain G b) = hS G := by unfold hS; rw [g 0 2 (by decide)]
  refine ⟨⟨by rw [eo 60 0 rfl (by omega) (by omega), eR]; exact x1, by rw [eo 60 3 rfl (by omega) (by omega), eT]; exact x2, by rw [eo 60 8 rfl (by omega) (by omega), eS]; exact x3, fun r hr => ?_, fun q hq => ?_, fun t ht => ?_, fun s hs => ?_⟩, ⟨e10, e11, ?_⟩, ⟨e33, fun j hj => ?_⟩, fun i hi => ?_⟩
  · rw [eR] at hr
    rw [eo 61 r rfl (by omega) (by omega), g 1 r (by decide)]; exact x4 r hr
  · rw [eo 62 q rfl (by omega) (by omega), g 2 q (by decide)]; exact x5 q hq
  · rw [eT] at ht
    obtain ⟨y1, y2, y3, y4⟩ := x6 t ht
    have e6 : gAgain G b 6 t = G (16 + b) t := if_pos ⟨rfl, ht⟩
    rw [eo 63 t rfl (by omega) (by omega), eo 64 t rfl (by omega) (by omega), eo 65 t rfl (by omega) (by omega), e66 t ht, e6, g 3 t (by decide), g 4 t (by decide), g 5 t (by decide)]
    exact ⟨y1, y2, y3, rfl⟩
  · rw [eS] at hs
    rw [eo 67 s rfl (by omega) (by omega)]
    have : me (gAgain G b) s = me G s := by unfold me; rw [g 7 s (by decide)]
    rw [this]; exact x7 s hs
  · rw [eo 60 12 rfl (by omega) (by omega)]; exact d3
  · have hj : (j : Int) < 0 := hj
    omega
  · have a : ∀ j, M' 87 j = M 87 j := fun j => eo 87 j rfl (by omega) (by omega)
    have bb : ∀ j, M' 88 j = M 88 j := fun j => eo 88 j rfl (by omega) (by omega)
    have cc : ∀ j, M' 89 j = M 89 j := fun j => eo 89 j rfl (by omega) (by omega)
    have g16 : ∀ j, gAgain G b (16 + i) j = G (16 + i) j := fun j => g _ j (by omega)
    simp only [a, bb, cc, eo 60 52 rfl (by omega) (by omega), g16, g 13 i (by decide), g 14 i (by decide), g 15 i (by decide), g 18 i (by decide), g 19 i (by decide), eR, eT]
    exact k i hi
theorem m_ag24 {b : Nat} (hb : b < 2) {T : Nat} (hT : T ≤ 10) : ∀ (m t : Nat) (M : pM), t + m = T → M 60 3 = (T : Int) → ∃ M', xE D 267 24 [.inr 62, .inl (b : Int), .inl (t : Int)] [] M = rI 1 M' ∧ (∀ j, j < T → M' 66 j = if t ≤ j then M 87 (12 * b + j) else M 66 j) ∧ M' 60 10 = M 87 (12 * b + 10) ∧ M' 60 11 = M 87 (12 * b + 11) ∧ M' 60 33 = 0 ∧ ∀ o i, o ≠ 66 → ¬ (o = 60 ∧ (i = 10 ∨ i = 11 ∨ i = 33)) → M' o i = M o i := by
  intro m
  induction m with
  | zero =>
    intro t M ht h3
    have n1 : (12 * (b : Int) + 10).toNat = 12 * b + 10 := by omega
    have n2 : (12 * (b : Int) + 10 + 1).toNat = 12 * b + 11 := by omega
    rw [L_M_again_24, h3, if_pos (by rw [le32_iff] <;> omega), if_pos (by omega), if_pos (by omega), n1, n2, pset_ne (show 87 ≠ 60 by decide)]
    refine ⟨_, rfl, fun j hj => ?_, ?_, ?_, pset_eq, fun o i a b => ?_⟩
    · rw [if_neg (by omega), pset_ne (by decide), pset_ne (by decide), pset_ne (by decide)]
    · rw [pset_ne2 (by decide), pset_ne2 (by decide), pset_eq]
    · rw [pset_ne2 (by decide), pset_eq]
    · unfold pset
      rw [if_neg (fun z => b ⟨z.1, by omega⟩), if_neg (fun z => b ⟨z.1, by omega⟩), if_neg (fun z => b ⟨z.1, by omega⟩)]
  | succ m ih =>
    intro t M ht h3
    have n1 : (12 * (b : Int) + (t : Int)).toNat = 12 * b + t := by omega
    rw [L_M_again_24, h3, if_neg (by rw [le32_iff] <;> omega), if_pos (by omega), if_pos (by omega), n1, Int.toNat_natCast, show ((t : Int) + 1) = ((t + 1 : Nat) : Int) by omega]
    obtain ⟨M', e, r1, r2, r3, r4, r5⟩ := ih (t + 1) (pset M 66 t (M 87 (12 * b + t))) (by omega) (by rw [pset_ne (by decide)]; exact h3)
    refine ⟨M', e, fun j hj => ?_, by rw [r2, pset_ne (by decide)], by rw [r3, pset_ne (by decide)], r4, fun o i a b => by rw [r5 o i a b, pset_ne a]⟩
    rw [r1 j hj, pset_ne (show 87 ≠ 66 by decide)]
    by_cases q : j = t
    · rw [q, if_neg (by omega), pset_eq, if_pos (Nat.le_refl t)]
    · rw [pset_ne2 q]
      by_cases q2 : t + 1 ≤ j
      · rw [if_pos q2, if_pos (by omega)]
      · rw [if_neg q2, if_neg (by omega)]
theorem mg_again (hd : 2 ≤ d) (W : WF G) (R0 : RI0 M) (X : MG M G) (hk : ∀ i, i < 2 → 0 ≤ G 13 i ∧ G 13 i ≤ 1) {b : Int} (h1 : -2147483648 ≤ b) (h2 : b ≤ 2147483647) {v : Int} (ee : xF d 267 [.inr 62, .inl b] M = rI v M') : (agC G b → v = 1 ∧ MG M' (gAgain G b.toNat)) ∧ (¬ agC G b → v = 0 ∧ MG M' G) := by
  obtain ⟨D, rfl, hD⟩ := dsucc hd
  have w2 := W.2.1
  have w1 := W.1
  have X1 := MG_thr X
  have R1 := RI0_thr R0
  have r0 := gm_i R1.1 60 0 (lo := 0) (hi := 6) (by decide +kernel) (by decide +kernel)
  have t0 := gm_i R1.1 60 3 (lo := 0) (hi := 10) (by decide +kernel) (by decide +kernel)
  rw [T_M_again, m_in (by omega), pbI_rI] at ee
  generalize pset M 60 17 0 = M1 at X1 R1 ee r0 t0
  have no : ¬ agC G b → rI 0 M1 = rI v M' → (agC G b → v = 1 ∧ MG M' (gAgain G b.toNat)) ∧ (¬ agC G b → v = 0 ∧ MG M' G) := fun n z => ⟨fun y => absurd y n, fun _ => by
    obtain ⟨z1, z2⟩ := rI_inj z
    rw [← z1, ← z2]; exact ⟨rfl, X1⟩⟩
  by_cases q : lt32 b 0 ∨ lt32 1 b
  · rw [if_pos q, if_pos rfl] at ee
    rw [lt32_iff (by omega) (by omega) (by omega) (by omega), lt32_iff (by omega) (by omega) (by omega) (by omega)] at q
    exact no (fun z => by have := z.1; omega) ee
  · rw [if_neg q, if_neg (by decide)] at ee
    rw [lt32_iff (by omega) (by omega) (by omega) (by omega), lt32_iff (by omega) (by omega) (by omega) (by omega)] at q
    obtain ⟨x, rfl⟩ := natI (show 0 ≤ b by omega)
    have hx : x < 2 := by omega
    have i0 : (0 : Int) ≤ (x : Int) ∧ (x : Int) < 2 := by omega
    obtain ⟨k1, k2⟩ := X1.2.2.2 x hx
    have k3 := hk x hx
    rw [if_pos i0, Int.toNat_natCast, k1] at ee
    by_cases q2 : G 13 x = 0
    · rw [if_pos (by rw [q2])] at ee
      exact no (fun z => z.2.1 q2) ee
    · obtain ⟨j1, j2, j3, j4, j5, j6, j7⟩ := k2 q2
      have u := R1.2.2.2.2.1
      have u2 := R1.2.2.2.2.2.1
      obtain ⟨u3, u4, -⟩ := R1.2.2.2.2.2.2 x hx (by rw [k1]; exact q2)
      rw [if_neg (by rw [eq32_iff] <;> omega), if_pos i0] at ee
      by_cases q3 : M1 89 x = M1 60 52
      · obtain ⟨c1, c2⟩ := j2.mp q3
        obtain ⟨M2, e2, r1, r2, r3, r4, r5⟩ := m_ag24 (D := D) (b := x) hx w2 (hT G) 0 M1 (by omega) X1.1.2.1
        rw [if_pos (by rw [q3]), show (.inl 0 : pV) = .inl ((0 : Nat) : Int) from rfl, e2] at ee
        obtain ⟨z1, z2⟩ := rI_inj ee
        rw [← z1, ← z2]
        refine ⟨fun _ => ⟨rfl, ?_⟩, fun z => absurd ⟨⟨by omega, by omega⟩, q2, c1, c2⟩ z⟩
        rw [Int.toNat_natCast]
        refine MG_again X1 (fun t ht => ?_) (by rw [r2]; exact j5) (by rw [r3]; exact j6) r4 (fun o i _ a b => r5 o i a b)
        rw [r1 t ht, if_pos (Nat.zero_le t)]
        exact j7 t (by omega)
      · rw [if_neg (by rw [eq32_iff] <;> omega)] at ee
        exact no (fun z => q3 (j2.mpr ⟨z.2.2.1, z.2.2.2⟩)) ee
/-! the class keeps, and is again -/
theorem x_store0 (hd : 2 ≤ d) (W : WF G) (X : XG M G) : ∃ M', xF d 125 [.inr 46, .inr 9, .inl (M 0 15), .inl (M 0 16)] M = rV M' ∧ XG M' (gKeep G 0) := by
  obtain ⟨D, rfl, hD⟩ := dsucc hd
  have w2 := W.2.1
  rw [T_Kept_store_44, c_copy_13_45 (by omega), pbN_rV]
  have c7 : ∀ i, pcp M 13 45 10 7 i = M 7 i := fun i => pcp_ne (by decide)
  simp only [pset_ne (show 7 ≠ 44 by decide), c7, X.1.1, X.1.2.1]
  refine ⟨_, rfl, XG_keep X (b := 0) (by decide) ?_ ?_ ?_ ?_ (pset_eq.trans X.2.1.2.1) (fun t ht => ?_) (fun o i hc a c => ?_)⟩
  · show pset _ 44 5 _ 44 1 = 1
    rw [pset_ne2 (by decide), pset_ne2 (by decide), pset_ne2 (by decide), pset_ne2 (by decide), pset_eq]
  · show pset _ 44 5 _ 44 2 = _
    rw [pset_ne2 (by decide), pset_ne2 (by decide), pset_ne2 (by decide), pset_eq]
  · show pset _ 44 5 _ 44 3 = _
    rw [pset_ne2 (by decide), pset_ne2 (by decide), pset_eq]
  · show pset _ 44 5 _ 44 4 = _
    rw [pset_ne2 (by decide), pset_eq]; exact X.2.1.1
  · show pset _ 44 5 _ 45 t = _
    rw [pset_ne (by decide), pset_ne (by decide), pset_ne (by decide), pset_ne (by decide), pset_ne (by decide), pcp_eq (by omega)]
    exact (X.1.2.2.2.2.2.1 t ht).2.2.2
  · have a : o ≠ 44 := a
    have c : o ≠ 45 := c
    rw [pset_ne a, pset_ne a, pset_ne a, pset_ne a, pset_ne a, pcp_ne c]
theorem x_aga0 (hd : 2 ≤ d) (W : WF G) (hM : gM gAll M) (X : XG M G) {v : Int} (ee : xE d 44 3 [.inr 2, .inl 0, .inr 0] [.inr 46] M = rI v M') : (agC G 0 → v = 1 ∧ XG M' (gAgain G 0)) ∧ (¬ agC G 0 → v = 0 ∧ XG M' G) := by
  obtain ⟨D, rfl, hD⟩ := dsucc hd
  have w1 := W.1
  have w2 := W.2.1
  have b1 := gm_i hM 44 1 (lo := 0) (hi := 1) (by decide +kernel) (by decide +kernel)
  have b2 := gm_i hM 44 2 (lo := 0) (hi := 6) (by decide +kernel) (by decide +kernel)
  have b3 := gm_i hM 44 3 (lo := 0) (hi := 10) (by decide +kernel) (by decide +kernel)
  obtain ⟨k1, k2⟩ := X.2.2.2 0 (by decide)
  have k1 : M 44 1 = G 13 0 := k1
  have no : ¬ agC G 0 → rI 0 M = rI v M' → (agC G 0 → v = 1 ∧ XG M' (gAgain G 0)) ∧ (¬ agC G 0 → v = 0 ∧ XG M' G) := fun n z => ⟨fun y => absurd y n, fun _ => by
    obtain ⟨z1, z2⟩ := rI_inj z
    rw [← z1, ← z2]; exact ⟨rfl, X⟩⟩
  rw [L_X_again_44_3, T_Kept_suits_44] at ee
  by_cases q : M 44 1 = 0
  · rw [if_pos (by rw [q]), pbI_rI, if_neg (fun z => z rfl)] at ee
    exact no (fun z => z.2.1 (k1 ▸ q)) ee
  · obtain ⟨j1, j2, j3, j4, j5⟩ := k2 (k1 ▸ q)
    have j1 : M 44 2 = G 14 0 := j1
    have j2 : M 44 3 = G 15 0 := j2
    have j3 : M 44 4 = G 18 0 := j3
    have j4 : M 44 5 = G 19 0 := j4
    have j5 : ∀ t : Nat, (t : Int) < G 15 0 → M 45 t = G (16 + 0) t := j5
    rw [if_neg (by rw [eq32_iff] <;> omega), X.1.1, X.1.2.1] at ee
    by_cases q2 : M 44 2 = (hR G : Int)
    · rw [if_neg (fun z => z (by rw [q2]))] at ee
      by_cases q3 : M 44 3 = (hT G : Int)
      · obtain ⟨D', rfl, -⟩ := dsucc (show 1 ≤ D by omega)
        rw [if_neg (fun z => z (by rw [q3])), pbI_rI, if_pos (by decide), c_copy_45_13 (by omega), pbN_rV, T_Past_forget, pbN_rV] at ee
        obtain ⟨z1, z2⟩ := rI_inj ee
        rw [← z1, ← z2]
        refine ⟨fun _ => ⟨rfl, XG_again X (fun t ht => ?_) ?_ ?_ pset_eq (fun o i hc a c e => ?_)⟩, fun z => absurd ⟨by decide, fun y => q (k1.trans y), j1.symm.trans q2, j2.symm.trans q3⟩ z⟩
        · rw [pset_ne (by decide), pset_ne (by decide), pset_ne (by decide), pcp_eq (by omega)]
          exact j5 t (by omega)
        · rw [pset_ne (by decide), pset_ne2 (by decide), pset_eq, pcp_ne (by decide)]; exact j3
        · rw [pset_ne (by decide), pset_eq, pset_ne (show 44 ≠ 0 by decide), pcp_ne (by decide)]; exact j4
        · have : ∀ (N : pM) (x y z : Int), pset (pset (pset N 0 15 x) 0 16 y) 39 3 z o i = N o i := fun N x y z => by
            unfold pset
            rw [if_neg (fun z => e z), if_neg (fun z => c ⟨z.1, Or.inr z.2⟩), if_neg (fun z => c ⟨z.1, Or.inl z.2⟩)]
          rw [this, pcp_ne a]
      · rw [if_pos (by rw [eq32_iff] <;> omega), pbI_rI, if_neg (fun z => z rfl)] at ee
        exact no (fun z => q3 (by rw [j2]; exact z.2.2.2)) ee
    · rw [if_pos (by rw [eq32_iff] <;> omega), pbI_rI, if_neg (fun z => z rfl)] at ee
      exact no (fun z => q2 (by rw [j1]; exact z.2.2.1)) ee
theorem x_store1 (hd : 2 ≤ d) (W : WF G) (X : XG M G) : ∃ M', xF d 125 [.inr 48, .inr 9, .inl (M 0 15), .inl (M 0 16)] M = rV M' ∧ XG M' (gKeep G 1) := by
  obtain ⟨D, rfl, hD⟩ := dsucc hd
  have w2 := W.2.1
  rw [T_Kept_store_46, c_copy_13_47 (by omega), pbN_rV]
  have c7 : ∀ i, pcp M 13 47 10 7 i = M 7 i := fun i => pcp_ne (by decide)
  simp only [pset_ne (show 7 ≠ 46 by decide), c7, X.1.1, X.1.2.1]
  refine ⟨_, rfl, XG_keep X (b := 1) (by decide) ?_ ?_ ?_ ?_ (pset_eq.trans X.2.1.2.1) (fun t ht => ?_) (fun o i hc a c => ?_)⟩
  · show pset _ 46 5 _ 46 1 = 1
    rw [pset_ne2 (by decide), pset_ne2 (by decide), pset_ne2 (by decide), pset_ne2 (by decide), pset_eq]
  · show pset _ 46 5 _ 46 2 = _
    rw [pset_ne2 (by decide), pset_ne2 (by decide), pset_ne2 (by decide), pset_eq]
  · show pset _ 46 5 _ 46 3 = _
    rw [pset_ne2 (by decide), pset_ne2 (by decide), pset_eq]
  · show pset _ 46 5 _ 46 4 = _
    rw [pset_ne2 (by decide), pset_eq]; exact X.2.1.1
  · show pset _ 46 5 _ 47 t = _
    rw [pset_ne (by decide), pset_ne (by decide), pset_ne (by decide), pset_ne (by decide), pset_ne (by decide), pcp_eq (by omega)]
    exact (X.1.2.2.2.2.2.1 t ht).2.2.2
  · have a : o ≠ 46 := a
    have c : o ≠ 47 := c
    rw [pset_ne a, pset_ne a, pset_ne a, pset_ne a, pset_ne a, pcp_ne c]
theorem x_aga1 (hd : 2 ≤ d) (W : WF G) (hM : gM gAll M) (X : XG M G) {v : Int} (ee : xE d 44 3 [.inr 2, .inl 1, .inr 0] [.inr 48] M = rI v M') : (agC G 1 → v = 1 ∧ XG M' (gAgain G 1)) ∧ (¬ agC G 1 → v = 0 ∧ XG M' G) := by
  obtain ⟨D, rfl, hD⟩ := dsucc hd
  have w1 := W.1
  have w2 := W.2.1
  have b1 := gm_i hM 46 1 (lo := 0) (hi := 1) (by decide +kernel) (by decide +kernel)
  have b2 := gm_i hM 46 2 (lo := 0) (hi := 6) (by decide +kernel) (by decide +kernel)
  have b3 := gm_i hM 46 3 (lo := 0) (hi := 10) (by decide +kernel) (by decide +kernel)
  obtain ⟨k1, k2⟩ := X.2.2.2 1 (by decide)
  have k1 : M 46 1 = G 13 1 := k1
  have no : ¬ agC G 1 → rI 0 M = rI v M' → (agC G 1 → v = 1 ∧ XG M' (gAgain G 1)) ∧ (¬ agC G 1 → v = 0 ∧ XG M' G) := fun n z => ⟨fun y => absurd y n, fun _ => by
    obtain ⟨z1, z2⟩ := rI_inj z
    rw [← z1, ← z2]; exact ⟨rfl, X⟩⟩
  rw [L_X_again_46_3, T_Kept_suits_46] at ee
  by_cases q : M 46 1 = 0
  · rw [if_pos (by rw [q]), pbI_rI, if_neg (fun z => z rfl)] at ee
    exact no (fun z => z.2.1 (k1 ▸ q)) ee
  · obtain ⟨j1, j2, j3, j4, j5⟩ := k2 (k1 ▸ q)
    have j1 : M 46 2 = G 14 1 := j1
    have j2 : M 46 3 = G 15 1 := j2
    have j3 : M 46 4 = G 18 1 := j3
    have j4 : M 46 5 = G 19 1 := j4
    have j5 : ∀ t : Nat, (t : Int) < G 15 1 → M 47 t = G (16 + 1) t := j5
    rw [if_neg (by rw [eq32_iff] <;> omega), X.1.1, X.1.2.1] at ee
    by_cases q2 : M 46 2 = (hR G : Int)
    · rw [if_neg (fun z => z (by rw [q2]))] at ee
      by_cases q3 : M 46 3 = (hT G : Int)
      · obtain ⟨D', rfl, -⟩ := dsucc (show 1 ≤ D by omega)
        rw [if_neg (fun z => z (by rw [q3])), pbI_rI, if_pos (by decide), c_copy_47_13 (by omega), pbN_rV, T_Past_forget, pbN_rV] at ee
        obtain ⟨z1, z2⟩ := rI_inj ee
        rw [← z1, ← z2]
        refine ⟨fun _ => ⟨rfl, XG_again X (fun t ht => ?_) ?_ ?_ pset_eq (fun o i hc a c e => ?_)⟩, fun z => absurd ⟨by decide, fun y => q (k1.trans y), j1.symm.trans q2, j2.symm.trans q3⟩ z⟩
        · rw [pset_ne (by decide), pset_ne (by decide), pset_ne (by decide), pcp_eq (by omega)]
          exact j5 t (by omega)
        · rw [pset_ne (by decide), pset_ne2 (by decide), pset_eq, pcp_ne (by decide)]; exact j3
        · rw [pset_ne (by decide), pset_eq, pset_ne (show 46 ≠ 0 by decide), pcp_ne (by decide)]; exact j4
        · have : ∀ (N : pM) (x y z : Int), pset (pset (pset N 0 15 x) 0 16 y) 39 3 z o i = N o i := fun N x y z => by
            unfold pset
            rw [if_neg (fun z => e z), if_neg (fun z => c ⟨z.1, Or.inr z.2⟩), if_neg (fun z => c ⟨z.1, Or.inl z.2⟩)]
          rw [this, pcp_ne a]
      · rw [if_pos (by rw [eq32_iff] <;> omega), pbI_rI, if_neg (fun z => z rfl)] at ee
        exact no (fun z => q3 (by rw [j2]; exact z.2.2.2)) ee
    · rw [if_pos (by rw [eq32_iff] <;> omega), pbI_rI, if_neg (fun z => z rfl)] at ee
      exact no (fun z => q2 (by rw [j1]; exact z.2.2.1)) ee
theorem xg_keep (hd : 4 ≤ d) (W : WF G) (X : XG M G) {b v : Int} (h1 : -2147483648 ≤ b) (h2 : b ≤ 2147483647) (ee : xF d 43 [.inr 2, .inl b] M = rI v M') : (0 ≤ b ∧ b ≤ 1 → XG M' (gKeep G b.toNat)) ∧ (¬ (0 ≤ b ∧ b ≤ 1) → XG M' G) := by
  obtain ⟨D, rfl, hD⟩ := dsucc hd
  obtain ⟨D', rfl, hD'⟩ := dsucc (show 1 ≤ D by omega)
  rw [T_X_keep, T_X_keptAt] at ee
  have no : pbR (some (some (.inr 1), M) : Option pR) (fun k2 M1 => xE (D' + 1) 43 3 [.inr 2, .inl b, .inr 0] [.inr (k2 + 1)] M1) = rI 0 M := L_X_keep_n_3 (D' + 1) b M
  have fin : rI 0 M = rI v M' → ¬ (0 ≤ b ∧ b ≤ 1) → (0 ≤ b ∧ b ≤ 1 → XG M' (gKeep G b.toNat)) ∧ (¬ (0 ≤ b ∧ b ≤ 1) → XG M' G) := fun z n => ⟨fun y => absurd y n, fun _ => by rw [← (rI_inj z).2]; exact X⟩
  by_cases q : b < 0
  · rw [if_pos (by rw [lt32_iff] <;> omega), no] at ee
    exact fin ee (by omega)
  · rw [if_neg (by rw [lt32_iff] <;> omega)] at ee
    by_cases q2 : 2 ≤ b
    · rw [if_pos (by rw [le32_iff] <;> omega), no] at ee
      exact fin ee (by omega)
    · rw [if_neg (by rw [le32_iff] <;> omega), if_pos (by omega)] at ee
      have hb : b = 0 ∨ b = 1 := by omega
      rcases hb with rfl | rfl
      · have e2 : xE (D' + 1) 43 3 [.inr 2, .inl 0, .inr 0] [.inr 46] M = rI v M' := ee
        obtain ⟨M1, e3, X1⟩ := x_store0 (d := D' + 1) (by omega) W X
        rw [L_X_keep_44_3, e3, pbN_rV] at e2
        rw [← (rI_inj e2).2]
        exact ⟨fun _ => X1, fun z => absurd (by decide) z⟩
      · have e2 : xE (D' + 1) 43 3 [.inr 2, .inl 1, .inr 0] [.inr 48] M = rI v M' := ee
        obtain ⟨M1, e3, X1⟩ := x_store1 (d := D' + 1) (by omega) W X
        rw [L_X_keep_46_3, e3, pbN_rV] at e2
        rw [← (rI_inj e2).2]
        exact ⟨fun _ => X1, fun z => absurd (by decide) z⟩
theorem xg_again (hd : 4 ≤ d) (W : WF G) (hM : gM gAll M) (X : XG M G) {b v : Int} (h1 : -2147483648 ≤ b) (h2 : b ≤ 2147483647) (ee : xF d 44 [.inr 2, .inl b] M = rI v M') : (agC G b → v = 1 ∧ XG M' (gAgain G b.toNat)) ∧ (¬ agC G b → v = 0 ∧ XG M' G) := by
  obtain ⟨D, rfl, hD⟩ := dsucc hd
  obtain ⟨D', rfl, hD'⟩ := dsucc (show 1 ≤ D by omega)
  rw [T_X_again, T_X_keptAt] at ee
  have no : pbR (some (some (.inr 1), M) : Option pR) (fun k2 M1 => xE (D' + 1) 44 3 [.inr 2, .inl b, .inr 0] [.inr (k2 + 1)] M1) = rI 0 M := L_X_again_n_3 (D' + 1) b M
  have fin : rI 0 M = rI v M' → ¬ (0 ≤ b ∧ b ≤ 1) → (agC G b → v = 1 ∧ XG M' (gAgain G b.toNat)) ∧ (¬ agC G b → v = 0 ∧ XG M' G) := fun z n => ⟨fun y => absurd y.1 n, fun _ => by
    obtain ⟨z1, z2⟩ := rI_inj z
    rw [← z1, ← z2]; exact ⟨rfl, X⟩⟩
  by_cases q : b < 0
  · rw [if_pos (by rw [lt32_iff] <;> omega), no] at ee
    exact fin ee (by omega)
  · rw [if_neg (by rw [lt32_iff] <;> omega)] at ee
    by_cases q2 : 2 ≤ b
    · rw [if_pos (by rw [le32_iff] <;> omega), no] at ee
      exact fin ee (by omega)
    · rw [if_neg (by rw [le32_iff] <;> omega), if_pos (by omega)] at ee
      have hb : b = 0 ∨ b = 1 := by omega
      rcases hb with rfl | rfl
      · exact x_aga0 (d := D' + 1) (by omega) W hM X ee
      · exact x_aga1 (d := D' + 1) (by omega) W hM X ee
end COK
