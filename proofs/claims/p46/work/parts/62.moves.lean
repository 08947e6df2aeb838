section
/-! what stays true of the reference's memory -/
def WM (M : pM) : Prop := (∀ r : Nat, (r : Int) < M 60 0 → 1 ≤ M 61 r ∧ M 61 r ≤ 99) ∧ SymD M ∧ (∀ a b : Nat, a < 6 → b < 6 → (M 60 0 ≤ a ∨ M 60 0 ≤ b ∨ a = b) → M 62 (6 * a + b) = 0) ∧ (∀ t : Nat, (t : Int) < M 60 3 → 1 ≤ M 63 t ∧ 1 ≤ M 64 t ∧ 1 ≤ M 65 t ∧ M 66 t < M 60 0) ∧ ∀ s : Nat, (s : Int) < M 60 8 → M 67 s < 2 ^ (M 60 3).toNat
/-- the house that the reference's memory tells -/
def hOf (M : pM) : pM := fun o i => match o with
  | 0 => (match i with
    | 0 => M 60 0
    | 1 => M 60 3
    | _ => M 60 8)
  | 1 => M 61 i
  | 2 => M 62 i
  | 3 => M 63 i
  | 4 => M 64 i
  | 5 => M 65 i
  | 6 => M 66 i
  | _ => M 67 i
section WMS
variable {M M' : pM}
theorem MH_of (hM : gM gAll M) : MH M (hOf M) := by
  have h0 := gm_i hM 60 0 (lo := 0) (hi := 6) (by decide +kernel) (by decide +kernel)
  have h3 := gm_i hM 60 3 (lo := 0) (hi := 10) (by decide +kernel) (by decide +kernel)
  have h8 := gm_i hM 60 8 (lo := 0) (hi := 8) (by decide +kernel) (by decide +kernel)
  have e0 : M 60 0 = hR (hOf M) := by show M 60 0 = ((M 60 0).toNat : Int); omega
  have e3 : M 60 3 = hT (hOf M) := by show M 60 3 = ((M 60 3).toNat : Int); omega
  have e8 : M 60 8 = hS (hOf M) := by show M 60 8 = ((M 60 8).toNat : Int); omega
  refine ⟨e0, e3, e8, fun r _ => rfl, fun p _ => rfl, fun t _ => ⟨rfl, rfl, rfl, rfl⟩, fun s hs => ?_⟩
  have := gm_r hM (o := 67) (lo := 0) (hi := 1023) (by decide +kernel) (by decide +kernel) (k := s) (show s < 8 by omega)
  show M 67 s = ((M 67 s).toNat : Int)
  omega
theorem WF_of (hM : gM gAll M) (w : WM M) : WF (hOf M) := by
  obtain ⟨w1, w2, w3, w4, w5⟩ := w
  obtain ⟨e0, e3, e8, -, -, -, -⟩ := MH_of hM
  have h0 := gm_i hM 60 0 (lo := 0) (hi := 6) (by decide +kernel) (by decide +kernel)
  have h3 := gm_i hM 60 3 (lo := 0) (hi := 10) (by decide +kernel) (by decide +kernel)
  have h8 := gm_i hM 60 8 (lo := 0) (hi := 8) (by decide +kernel) (by decide +kernel)
  refine ⟨by omega, by omega, by omega, fun r hr => w1 r (by omega), fun p hp => gm_r hM (o := 62) (lo := 0) (hi := 9) (by decide +kernel) (by decide +kernel) (k := p) (show p < 36 from hp), fun a b ha hb => w2 a b ha hb, fun a b ha hb h => w3 a b ha hb (by omega), fun t ht => ?_, fun s hs => ?_⟩
  · have k := w4 t (by omega)
    have b1 := gm_r hM (o := 63) (lo := 0) (hi := 99) (by decide +kernel) (by decide +kernel) (k := t) (show t < 10 by omega)
    have b2 := gm_r hM (o := 64) (lo := 0) (hi := 9) (by decide +kernel) (by decide +kernel) (k := t) (show t < 10 by omega)
    have b3 := gm_r hM (o := 65) (lo := 0) (hi := 9) (by decide +kernel) (by decide +kernel) (k := t) (show t < 10 by omega)
    have b4 := gm_r hM (o := 66) (lo := 0) (hi := 5) (by decide +kernel) (by decide +kernel) (k := t) (show t < 10 by omega)
    exact ⟨⟨k.1, b1.2⟩, ⟨k.2.1, b2.2⟩, ⟨k.2.2.1, b3.2⟩, b4.1, by show M 66 t < _; omega⟩
  · have k := w5 s (by omega)
    have b := gm_r hM (o := 67) (lo := 0) (hi := 1023) (by decide +kernel) (by decide +kernel) (k := s) (show s < 8 by omega)
    have e : (M 60 3).toNat = hT (hOf M) := rfl
    rw [e] at k
    show (M 67 s).toNat < 2 ^ hT (hOf M)
    have : ((M 67 s).toNat : Int) < ((2 ^ hT (hOf M) : Nat) : Int) := by
      rw [Int.natCast_pow]
      have : ((M 67 s).toNat : Int) = M 67 s := by omega
      rw [this]; exact k
    omega
theorem WM_of {h : pM} (W : WF h) (X : MH M h) : WM M := by
  obtain ⟨w1, w2, w3, w4, w5, w6, w7, w8, w9⟩ := W
  obtain ⟨x1, x2, x3, x4, x5, x6, x7⟩ := X
  refine ⟨fun r hr => ?_, fun a b ha hb => ?_, fun a b ha hb hh => ?_, fun t ht => ?_, fun s hs => ?_⟩
  · rw [x4 r (by omega)]; exact w4 r (by omega)
  · rw [x5 _ (by omega), x5 _ (by omega)]; exact w6 a b ha hb
  · rw [x5 _ (by omega)]; exact w7 a b ha hb (by omega)
  · obtain ⟨y1, y2, y3, y4⟩ := x6 t (by omega)
    have k := w8 t (by omega)
    rw [y1, y2, y3, y4, x1]
    exact ⟨k.1.1, k.2.1.1, k.2.2.1.1, k.2.2.2.2⟩
  · rw [x7 s (by omega), x2, Int.toNat_natCast]
    have := w9 s (by omega)
    have e : ((me h s : Nat) : Int) < ((2 ^ hT h : Nat) : Int) := by omega
    rw [Int.natCast_pow] at e
    exact e
theorem WM_Fr {w : List (Nat × Nat)} (a : Fr w M M') (h0 : wOK w 60 0 = false) (h3 : wOK w 60 3 = false) (h8 : wOK w 60 8 = false) (hn : w.all (fun q => decide (q.1 < 61 ∨ 67 < q.1)) = true) (W : WM M) : WM M' := by
  have hk : ∀ o i, 61 ≤ o → o ≤ 67 → M' o i = M o i := fun o i h1 h2 => a o i (by
    cases e : wOK w o i with
    | false => rfl
    | true =>
      obtain ⟨q, hq, h⟩ := List.any_eq_true.mp e
      have h4 := of_decide_eq_true (List.all_eq_true.mp hn q hq)
      rw [Bool.and_eq_true] at h
      have := Nat.eq_of_beq_eq_true h.1
      omega)
  obtain ⟨w1, w2, w3, w4, w5⟩ := W
  refine ⟨fun r hr => ?_, fun x y hx hy => ?_, fun x y hx hy hh => ?_, fun t ht => ?_, fun s hs => ?_⟩
  · rw [a 60 0 h0] at hr; rw [hk 61 r (by decide) (by decide)]; exact w1 r hr
  · rw [hk 62 _ (by decide) (by decide), hk 62 _ (by decide) (by decide)]; exact w2 x y hx hy
  · rw [a 60 0 h0] at hh; rw [hk 62 _ (by decide) (by decide)]; exact w3 x y hx hy hh
  · rw [a 60 3 h3] at ht
    rw [hk 63 t (by decide) (by decide), hk 64 t (by decide) (by decide), hk 65 t (by decide) (by decide), hk 66 t (by decide) (by decide), a 60 0 h0]
    exact w4 t ht
  · rw [a 60 8 h8] at hs
    rw [hk 67 s (by decide) (by decide), a 60 3 h3]
    exact w5 s hs
/-- what is undone, what is kept -/
def UM (M : pM) : Prop := (∀ k : Nat, (k : Int) < M 60 33 → M 75 (3 * k + 1) < M 60 0) ∧ 0 ≤ M 60 52 ∧ M 60 52 ≤ M 60 0 + M 60 3 ∧ ∀ i : Nat, i < 2 → M 88 i ≠ 0 → 0 ≤ M 89 i ∧ M 89 i ≤ M 60 52 ∧ (M 89 i = M 60 52 → ∀ t : Nat, (t : Int) < M 60 3 → M 87 (12 * i + t) < M 60 0)
theorem UM_Fr {w : List (Nat × Nat)} (a : Fr w M M') (h0 : wOK w 60 0 = false) (h3 : wOK w 60 3 = false) (h33 : wOK w 60 33 = false) (h52 : wOK w 60 52 = false) (hn : w.all (fun q => decide (q.1 ≠ 75 ∧ q.1 ≠ 87 ∧ q.1 ≠ 88 ∧ q.1 ≠ 89)) = true) (U : UM M) : UM M' := by
  have hk : ∀ o i, (o = 75 ∨ o = 87 ∨ o = 88 ∨ o = 89) → M' o i = M o i := fun o i h1 => a o i (by
    cases e : wOK w o i with
    | false => rfl
    | true =>
      obtain ⟨q, hq, h⟩ := List.any_eq_true.mp e
      have h4 := of_decide_eq_true (List.all_eq_true.mp hn q hq)
      rw [Bool.and_eq_true] at h
      have := Nat.eq_of_beq_eq_true h.1
      omega)
  obtain ⟨u1, u2, u3, u4⟩ := U
  refine ⟨fun k hk2 => ?_, by rw [a 60 52 h52]; exact u2, by rw [a 60 52 h52, a 60 0 h0, a 60 3 h3]; exact u3, fun i hi h => ?_⟩
  · rw [a 60 33 h33] at hk2
    rw [hk 75 _ (Or.inl rfl), a 60 0 h0]; exact u1 k hk2
  · rw [hk 88 i (by decide)] at h
    rw [hk 89 i (by decide), a 60 52 h52, a 60 3 h3, a 60 0 h0]
    obtain ⟨v1, v2, v3⟩ := u4 i hi h
    exact ⟨v1, v2, fun e t ht => by rw [hk 87 _ (by decide)]; exact v3 e t ht⟩
/-- the invariant of the reference's side -/
def RI0 (M : pM) : Prop := gM gAll M ∧ M 60 38 = 0 ∧ WM M ∧ UM M
/-- a call that keeps it -/
def okR (D k : Nat) (A : List pV) (w : List (Nat × Nat)) (M : pM) : Prop := ∃ z M', xF D k A M = rI z M' ∧ RI0 M' ∧ Fr w M M'
theorem RI0_Fr {w : List (Nat × Nat)} (g : gM gAll M') (a : Fr w M M') (h : w.all (fun q => (decide (q.1 < 60 ∨ 67 < q.1) || (Nat.beq q.1 60 && !(Nat.beq q.2 0) && !(Nat.beq q.2 3) && !(Nat.beq q.2 8) && !(Nat.beq q.2 33) && !(Nat.beq q.2 38) && !(Nat.beq q.2 52) && !(Nat.beq q.2 999))) && decide (q.1 ≠ 75 ∧ q.1 ≠ 87 ∧ q.1 ≠ 88 ∧ q.1 ≠ 89)) = true) (R : RI0 M) : RI0 M' := by
  have hp : ∀ i, (i = 0 ∨ i = 3 ∨ i = 8 ∨ i = 33 ∨ i = 38 ∨ i = 52) → wOK w 60 i = false := fun i hi => by
    cases e : wOK w 60 i with
    | false => rfl
    | true =>
      obtain ⟨q, hq, h2⟩ := List.any_eq_true.mp e
      have h4 := List.all_eq_true.mp h q hq
      simp only [Bool.and_eq_true, Bool.or_eq_true, decide_eq_true_eq] at h4
      rw [Bool.and_eq_true, Bool.or_eq_true] at h2
      have e1 := Nat.eq_of_beq_eq_true h2.1
      rcases h4.1 with h5 | h5
      · omega
      · exfalso
        obtain ⟨⟨⟨⟨⟨⟨⟨-, n0⟩, n3⟩, n8⟩, n33⟩, n38⟩, n52⟩, n999⟩ := h5
        rcases h2.2 with e2 | e2
        · have e3 := Nat.eq_of_beq_eq_true e2
          rw [e3] at n0 n3 n8 n33 n38 n52
          rcases hi with rfl | rfl | rfl | rfl | rfl | rfl
          · exact absurd n0 (by decide)
          · exact absurd n3 (by decide)
          · exact absurd n8 (by decide)
          · exact absurd n33 (by decide)
          · exact absurd n38 (by decide)
          · exact absurd n52 (by decide)
        · have e3 := Nat.eq_of_beq_eq_true e2
          rw [e3] at n999
          exact absurd n999 (by decide)
  refine ⟨g, by rw [a 60 38 (hp 38 (by omega))]; exact R.2.1, WM_Fr a (hp 0 (by omega)) (hp 3 (by omega)) (hp 8 (by omega)) (List.all_eq_true.mpr fun q hq => ?_) R.2.2.1, UM_Fr a (hp 0 (by omega)) (hp 3 (by omega)) (hp 33 (by omega)) (hp 52 (by omega)) (List.all_eq_true.mpr fun q hq => ?_) R.2.2.2⟩
  · have h4 := List.all_eq_true.mp h q hq
    simp only [Bool.and_eq_true, Bool.or_eq_true, decide_eq_true_eq] at h4
    refine decide_eq_true ?_
    rcases h4.1 with h5 | h5
    · omega
    · have := Nat.eq_of_beq_eq_true h5.1.1.1.1.1.1.1; omega
  · have h4 := List.all_eq_true.mp h q hq
    rw [Bool.and_eq_true] at h4
    exact h4.2
theorem RI0_rooms (R : RI0 M) : (1 ≤ M 60 0 ∧ M 60 0 ≤ 6) ∨ ((0 ≤ M 60 0 ∧ M 60 0 ≤ 0) ∧ (0 ≤ M 60 3 ∧ M 60 3 ≤ 0)) := by
  have h0 := gm_i R.1 60 0 (lo := 0) (hi := 6) (by decide +kernel) (by decide +kernel)
  have h3 := gm_i R.1 60 3 (lo := 0) (hi := 10) (by decide +kernel) (by decide +kernel)
  by_cases q : 1 ≤ M 60 0
  · exact Or.inl ⟨q, h0.2⟩
  · refine Or.inr ⟨⟨h0.1, by omega⟩, h3.1, ?_⟩
    by_cases q3 : 0 < M 60 3
    · have k := (R.2.2.1.2.2.2.1 0 q3).2.2.2
      have b := gm_r R.1 (o := 66) (lo := 0) (hi := 5) (by decide +kernel) (by decide +kernel) (k := 0) (show 0 < 10 by decide)
      omega
    · omega
/-- house keeps it -/
theorem r_house {d : Nat} (hd : 8 ≤ d) (R : RI0 M) : ∃ z M', xF d 184 [.inr 62] M = rI z M' ∧ RI0 M' ∧ Fr wHouse M M' ∧ M' 60 14 = 0 := by
  obtain ⟨g, s0, w, u1, u2, u3, u4⟩ := R
  have X := MH_of g
  have W := WF_of g w
  have b14 := gm_i g 60 14 (lo := 0) (hi := 80) (by decide +kernel) (by decide +kernel)
  obtain ⟨L, hL⟩ := natI b14.1
  obtain ⟨M', e, g', f, W', X', k14, k33, k33', k52, m1, m2⟩ := m_house (tx := fun i => M 68 i) (L := L) hd W X g hL (fun _ _ => rfl)
  have e0 := X.1
  have e3 := X.2.1
  have e0' := X'.1
  have e3' := X'.2.1
  refine ⟨_, M', e, ⟨g', by rw [f 60 38 (by decide)]; exact s0, WM_of W' X', fun k hk => ?_, ?_, ?_, fun i hi h => ?_⟩, f, k14⟩
  · rw [f 75 _ (wOK_no (by decide) _)]
    by_cases q : hsN (fun i => M 68 i) L (hOf M)
    · rw [k33 q] at hk; omega
    · rw [k33' q] at hk
      have := u1 k hk
      omega
  · rw [k52]; split <;> omega
  · rw [k52]; split <;> omega
  · rw [f 88 i (wOK_no (by decide) i)] at h
    rw [f 89 i (wOK_no (by decide) i)]
    obtain ⟨v1, v2, v3⟩ := u4 i hi h
    refine ⟨v1, by rw [k52]; split <;> omega, fun e t ht => ?_⟩
    rw [f 87 _ (wOK_no (by decide) _)]
    rw [k52] at e
    split at e
    · omega
    · have := v3 e t (by omega)
      omega
end WMS
end
section
/-! calls of the reference that keep its invariant, by hand: widen, hinge, sheet, breaks -/
section RS
variable {D d R T : Nat} {M : pM}
/-- a door is made -/
theorem m_put (hd : 1 ≤ d) {x y : Nat} (hx : (x : Int) < M 60 0) (hy : (y : Int) < M 60 0) (hR : M 60 0 ≤ 6) (hxy : x ≠ y) {w : Int} (h0 : 0 ≤ w) (h9 : w ≤ 9) (hM : gM gAll M) (W : WM M) : ∃ M', xF d 185 [.inr 62, .inl (x : Int), .inl (y : Int), .inl w] M = rV M' ∧ gM gAll M' ∧ WM M' ∧ Fr [(62, 999)] M M' := by
  obtain ⟨D, rfl, -⟩ := dsucc hd
  rw [T_M_put, if_pos (by omega), if_pos (by omega), show (6 * (x : Int) + (y : Int)).toNat = 6 * x + y by omega, show (6 * (y : Int) + (x : Int)).toNat = 6 * y + x by omega]
  have ev : ∀ p, (pset (pset M 62 (6 * x + y) w) 62 (6 * y + x) w) 62 p = if p = 6 * y + x ∨ p = 6 * x + y then w else M 62 p := by
    intro p
    by_cases q : p = 6 * y + x
    · rw [q, pset_eq, if_pos (Or.inl rfl)]
    · rw [pset_ne2 q]
      by_cases q2 : p = 6 * x + y
      · rw [q2, pset_eq, if_pos (Or.inr rfl)]
      · rw [pset_ne2 q2, if_neg (fun z => z.elim q q2)]
  have eo : ∀ o i, o ≠ 62 → (pset (pset M 62 (6 * x + y) w) 62 (6 * y + x) w) o i = M o i := fun o i ho => by rw [pset_ne ho, pset_ne ho]
  obtain ⟨w1, w2, w3, w4, w5⟩ := W
  refine ⟨_, rfl, gM_r (gM_r hM (lo := 0) (hi := 9) (by decide +kernel) (by decide +kernel) h0 h9) (lo := 0) (hi := 9) (by decide +kernel) (by decide +kernel) h0 h9, ⟨fun r hr => ?_, fun a b ha hb => ?_, fun a b ha hb hh => ?_, fun t ht => ?_, fun s hs => ?_⟩, Fr_set (Fr_set Fr_rfl (wOK_r (by decide) _)) (wOK_r (by decide) _)⟩
  · rw [eo 60 0 (by decide)] at hr; rw [eo 61 r (by decide)]; exact w1 r hr
  · rw [ev, ev]
    by_cases q : 6 * a + b = 6 * y + x ∨ 6 * a + b = 6 * x + y
    · rw [if_pos q, if_pos (by omega)]
    · rw [if_neg q, if_neg (by omega)]; exact w2 a b ha hb
  · rw [eo 60 0 (by decide)] at hh
    rw [ev, if_neg (by omega)]; exact w3 a b ha hb hh
  · rw [eo 60 3 (by decide)] at ht
    rw [eo 63 t (by decide), eo 64 t (by decide), eo 65 t (by decide), eo 66 t (by decide), eo 60 0 (by decide)]
    exact w4 t ht
  · rw [eo 60 8 (by decide)] at hs
    rw [eo 67 s (by decide), eo 60 3 (by decide)]
    exact w5 s hs
theorem RI0_62 {M' : pM} {w : List (Nat × Nat)} (h : RI0 M) (g : gM gAll M') (W : WM M') (a : Fr w M M') (h0 : wOK w 60 0 = false) (h3 : wOK w 60 3 = false) (h33 : wOK w 60 33 = false) (h38 : wOK w 60 38 = false) (h52 : wOK w 60 52 = false) (hn : w.all (fun q => decide (q.1 ≠ 75 ∧ q.1 ≠ 87 ∧ q.1 ≠ 88 ∧ q.1 ≠ 89)) = true) : RI0 M' := ⟨g, by rw [a 60 38 h38]; exact h.2.1, W, UM_Fr a h0 h3 h33 h52 hn h.2.2.2⟩
theorem RI0_thr (h : RI0 M) : RI0 (pset M 60 17 0) := RI0_Fr (gM_thr h.1) (Fr_set (w := [(60, 17)]) Fr_rfl (by decide)) (by decide) h
theorem r_widen {d : Nat} (hd : 5 ≤ d) {b c e : Int} (hb1 : -2147483648 ≤ b) (hb2 : b ≤ 2147483647) (hc1 : -2147483648 ≤ c) (hc2 : c ≤ 2147483647) (he1 : -2147483648 ≤ e) (he2 : e ≤ 2147483647) (h : RI0 M) : okR d 204 [.inr 62, .inl b, .inl c, .inl e] [(60, 17), (62, 999)] M := by
  obtain ⟨D, rfl, hD⟩ := dsucc hd
  have ht := RI0_thr h
  have r0 := gm_i ht.1 60 0 (lo := 0) (hi := 6) (by decide +kernel) (by decide +kernel)
  obtain ⟨R, hR⟩ := natI r0.1
  have ft : Fr [(60, 17), (62, 999)] M (pset M 60 17 0) := Fr_set Fr_rfl (by decide)
  unfold okR
  rw [T_M_widen, m_isRoom (by omega) hR (by omega) hb1 (by omega), pbI_rI]
  by_cases q1 : 0 ≤ b ∧ b < (R : Int)
  · rw [if_pos q1, if_neg (by decide), m_isRoom (by omega) hR (by omega) hc1 (by omega), pbI_rI]
    by_cases q2 : 0 ≤ c ∧ c < (R : Int)
    · rw [if_pos q2, if_neg (by decide)]
      by_cases q3 : eq32 b c
      · rw [if_pos q3]
        exact ⟨_, _, rfl, ht, ft⟩
      · rw [if_neg q3, m_in (by omega), pbI_rI]
        by_cases q4 : lt32 e 0 ∨ lt32 9 e
        · rw [if_pos q4, if_neg (fun z => z rfl)]
          exact ⟨_, _, rfl, ht, ft⟩
        · have n1 : ¬ lt32 e 0 := fun z => q4 (Or.inl z)
          have n2 : ¬ lt32 9 e := fun z => q4 (Or.inr z)
          rw [lt32_iff (by omega) (by omega) (by omega) (by omega)] at n1 n2
          obtain ⟨x, rfl⟩ := natI q1.1
          obtain ⟨y, rfl⟩ := natI q2.1
          obtain ⟨M', e1, g, W, f⟩ := m_put (d := D) (x := x) (y := y) (by omega) (by omega) (by omega) (by omega) (fun z => q3 (by rw [z])) (w := e) (by omega) (by omega) ht.1 ht.2.2.1
          rw [if_neg q4, if_pos (by decide), if_pos (by omega), e1, pbN_rV]
          exact ⟨_, M', rfl, RI0_62 ht g W f (by decide) (by decide) (by decide) (by decide) (by decide) (by decide), Fr_tr ft (Fr_mono f (by decide))⟩
    · rw [if_neg q2, if_pos rfl]
      exact ⟨_, _, rfl, ht, ft⟩
  · rw [if_neg q1, if_pos rfl]
    exact ⟨_, _, rfl, ht, ft⟩
theorem m_comeTo (hd : 4 ≤ d) {r : Nat} (hr : r ≤ 5) (hM : gM gAll M) : ∃ z M', xF d 253 [.inr 62, .inl (r : Int)] M = rI z M' ∧ gM gAll M' ∧ Fr [(74, 999)] M M' := by
  obtain ⟨D, rfl, hD⟩ := dsucc hd
  have t0 := gm_i hM 60 3 (lo := 0) (hi := 10) (by decide +kernel) (by decide +kernel)
  obtain ⟨T, hT⟩ := natI t0.1
  have key : ∀ (m t : Nat) (x2 : Int) (M1 : pM), t + m = T → gM gAll M1 → Fr [(74, 999)] M M1 → ∃ z M', xE D 253 4 [.inr 62, .inl (r : Int), .inl x2, .inl (t : Int)] [] M1 = rI z M' ∧ gM gAll M' ∧ Fr [(74, 999)] M M' := by
    intro m
    induction m with
    | zero =>
      intro t x2 M1 ht g f
      rw [L_M_comeTo_4, f 60 3 (by decide), hT, if_pos (by rw [le32_iff] <;> omega)]
      exact ⟨_, M1, rfl, g, f⟩
    | succ m ih =>
      intro t x2 M1 ht g f
      have i5 := gm_r g (o := 66) (lo := 0) (hi := 5) (by decide +kernel) (by decide +kernel) (k := t) (show t < 10 by omega)
      obtain ⟨z, M2, e, g2, f2, -⟩ := u_steps (d := D) (by omega) (a1 := (t : Int)) (a2 := M1 66 t) (a3 := (r : Int)) g ⟨by omega, by omega⟩ i5 ⟨by omega, by omega⟩
      rw [L_M_comeTo_4, f 60 3 (by decide), hT, if_neg (by rw [le32_iff] <;> omega), if_pos (by omega), Int.toNat_natCast, e, pbI_rI, show ((t : Int) + 1) = ((t + 1 : Nat) : Int) by omega]
      by_cases q : le32 1000000 z
      · rw [if_pos q]; exact ih (t + 1) _ M2 (by omega) g2 (Fr_tr f f2)
      · rw [if_neg q]; exact ih (t + 1) _ M2 (by omega) g2 (Fr_tr f f2)
  rw [T_M_comeTo]
  exact key T 0 0 M (by omega) hM Fr_rfl
def wHinge : List (Nat × Nat) := [(60, 16), (60, 17), (62, 999), (69, 999), (74, 999)]
theorem m_hg25 (hD : 10 ≤ D) {x1 a : Nat} (hx1 : x1 ≤ 5) : ∀ (m b : Nat) (x2 x3 x4 : Int) (y7 y8 : pV) (M : pM), b + m = R → a < R → a < b ∨ b = R → R ≤ 6 → gM gAll M → WM M → M 60 0 = (R : Int) → ∃ (z2 z3 z4 : Int) (y6 y7' y8' : pV) (M' : pM), xE D 254 25 [.inr 62, .inl (x1 : Int), .inl x2, .inl x3, .inl x4, .inl (a : Int), .inl (b : Int), y7, y8] [] M = xE D 254 17 [.inr 62, .inl (x1 : Int), .inl z2, .inl z3, .inl z4, .inl ((a + 1 : Nat) : Int), y6, y7', y8'] [] M' ∧ gM gAll M' ∧ WM M' ∧ Fr wHinge M M' := by
  intro m
  induction m with
  | zero =>
    intro b x2 x3 x4 y7 y8 M hb ha hab hR hM W h0
    rw [L_M_hinge_25, h0, if_pos (by rw [le32_iff] <;> omega), show ((a : Int) + 1) = ((a + 1 : Nat) : Int) by omega]
    exact ⟨_, _, _, _, _, _, M, rfl, hM, W, Fr_rfl⟩
  | succ m ih =>
    intro b x2 x3 x4 y7 y8 M hb ha hab hR hM W h0
    have d0 := gm_r hM (o := 62) (lo := 0) (hi := 9) (by decide +kernel) (by decide +kernel) (k := 6 * a + b) (show 6 * a + b < 36 by omega)
    rw [L_M_hinge_25, h0, if_neg (by rw [le32_iff] <;> omega), if_pos (by omega), show (6 * (a : Int) + (b : Int)).toNat = 6 * a + b by omega, show ((b : Int) + 1) = ((b + 1 : Nat) : Int) by omega]
    by_cases q : eq32 (M 62 (6 * a + b)) 0
    · rw [if_neg (fun z => z q)]
      exact ih (b + 1) x2 x3 x4 _ y8 M (by omega) ha (Or.inl (by omega)) hR hM W h0
    · obtain ⟨M1, e1, g1, W1, f1⟩ := m_put (d := D) (x := a) (y := b) (w := 9) (by omega) (by omega) (by omega) (by omega) (by omega) (by omega) (by omega) hM W
      obtain ⟨v, M2, e2, g2, f2⟩ := m_comeTo (d := D) (by omega) hx1 g1
      have W2 := WM_Fr f2 (by decide) (by decide) (by decide) (by decide) W1
      have k0 : M2 60 0 = (R : Int) := by rw [f2 60 0 (by decide), f1 60 0 (by decide)]; exact h0
      obtain ⟨M4, e4, g4, W4, f4⟩ := m_put (d := D) (M := M2) (x := a) (y := b) (w := M 62 (6 * a + b)) (by omega) (by omega) (by omega) (by omega) (by omega) d0.1 d0.2 g2 W2
      have F : Fr wHinge M M4 := Fr_tr (Fr_mono f1 (by decide)) (Fr_tr (Fr_mono f2 (by decide)) (Fr_mono f4 (by decide)))
      have k4 : M4 60 0 = (R : Int) := by rw [f4 60 0 (by decide)]; exact k0
      rw [if_pos q, e1, pbN_rV, e2, pbI_rI, e4, pbN_rV]
      have go : ∀ (z2 z3 z4 : Int) (y7 y8 : pV), ∃ (z2' z3' z4' : Int) (y6 y7' y8' : pV) (M' : pM), xE D 254 25 [.inr 62, .inl (x1 : Int), .inl z2, .inl z3, .inl z4, .inl (a : Int), .inl ((b + 1 : Nat) : Int), y7, y8] [] M4 = xE D 254 17 [.inr 62, .inl (x1 : Int), .inl z2', .inl z3', .inl z4', .inl ((a + 1 : Nat) : Int), y6, y7', y8'] [] M' ∧ gM gAll M' ∧ WM M' ∧ Fr wHinge M M' := by
        intro z2 z3 z4 y7 y8
        obtain ⟨u2, u3, u4, u6, u7, u8, M', e, g, W', f⟩ := ih (b + 1) z2 z3 z4 y7 y8 M4 (by omega) ha (Or.inl (by omega)) hR g4 W4 k4
        exact ⟨u2, u3, u4, u6, u7, u8, M', e, g, W', Fr_tr F f⟩
      by_cases q2 : lt32 x2 0
      · rw [if_pos q2]; exact go _ _ _ _ _
      · rw [if_neg q2]
        by_cases q3 : lt32 x4 v
        · rw [if_pos q3]; exact go _ _ _ _ _
        · rw [if_neg q3]; exact go _ _ _ _ _
theorem m_hg17 (hD : 10 ≤ D) {x1 : Nat} (hx1 : x1 ≤ 5) : ∀ (m a : Nat) (x2 x3 x4 : Int) (y6 y7 y8 : pV) (M : pM), a + m = R → R ≤ 6 → gM gAll M → WM M → M 60 0 = (R : Int) → ∃ z M', xE D 254 17 [.inr 62, .inl (x1 : Int), .inl x2, .inl x3, .inl x4, .inl (a : Int), y6, y7, y8] [] M = rI z M' ∧ gM gAll M' ∧ WM M' ∧ Fr wHinge M M' := by
  intro m
  induction m with
  | zero =>
    intro a x2 x3 x4 y6 y7 y8 M ha hR hM W h0
    rw [L_M_hinge_17, h0, if_pos (by rw [le32_iff] <;> omega)]
    by_cases q : le32 0 x2
    · obtain ⟨M1, e1, g1, f1, k1⟩ := m_tellS (D := D) (M := pset M 60 16 0) (n := 0) (by omega) (by decide) pset_eq (gM_row0 hM) x3
      obtain ⟨M2, e2, g2, f2, k2⟩ := m_tellS (D := D) (M := M1) (n := 1) (by omega) (by decide) k1 g1 x4
      have F : Fr [(60, 16), (69, 999)] M M2 := Fr_tr (Fr_set Fr_rfl (by decide)) (Fr_tr f1 f2)
      rw [if_pos q, e1, pbN_rV, e2, pbN_rV]
      exact ⟨_, M2, rfl, g2, WM_Fr F (by decide) (by decide) (by decide) (by decide) W, Fr_mono F (by decide)⟩
    · rw [if_neg q]
      exact ⟨_, M, rfl, hM, W, Fr_rfl⟩
  | succ m ih =>
    intro a x2 x3 x4 y6 y7 y8 M ha hR hM W h0
    rw [L_M_hinge_17, h0, if_neg (by rw [le32_iff] <;> omega), show ((a : Int) + 1) = ((a + 1 : Nat) : Int) by omega]
    obtain ⟨z2, z3, z4, u6, u7, u8, M1, e1, g1, W1, f1⟩ := m_hg25 (D := D) (R := R) hD hx1 (a := a) (R - (a + 1)) (a + 1) x2 x3 x4 y7 y8 M (by omega) (by omega) (by omega) hR hM W h0
    rw [e1]
    obtain ⟨z, M', e, g, W', f⟩ := ih (a + 1) z2 z3 z4 u6 u7 u8 M1 (by omega) hR g1 W1 (by rw [f1 60 0 (by decide)]; exact h0)
    exact ⟨z, M', e, g, W', Fr_tr f1 f⟩
theorem r_hinge {d : Nat} (hd : 11 ≤ d) {b : Int} (hb1 : -2147483648 ≤ b) (hb2 : b ≤ 2147483647) (h : RI0 M) : okR d 254 [.inr 62, .inl b] wHinge M := by
  obtain ⟨D, rfl, hD⟩ := dsucc hd
  have ht := RI0_thr h
  have r0 := gm_i ht.1 60 0 (lo := 0) (hi := 6) (by decide +kernel) (by decide +kernel)
  obtain ⟨R, hR⟩ := natI r0.1
  have ft : Fr wHinge M (pset M 60 17 0) := Fr_set Fr_rfl (by decide)
  unfold okR
  rw [T_M_hinge, m_isRoom (by omega) hR (by omega) hb1 (by omega), pbI_rI]
  by_cases q1 : 0 ≤ b ∧ b < (R : Int)
  · obtain ⟨x, rfl⟩ := natI q1.1
    obtain ⟨z, M', e, g, W, f⟩ := m_hg17 (D := D) (R := R) (by omega) (x1 := x) (by omega) R 0 (-2) 0 0 (.inr 0) (.inr 0) (.inr 0) (pset M 60 17 0) (by omega) (by omega) ht.1 ht.2.2.1 hR
    rw [if_pos q1, if_pos (by decide)]
    exact ⟨z, M', e, RI0_62 ht g W f (by decide) (by decide) (by decide) (by decide) (by decide) (by decide), Fr_tr ft f⟩
  · rw [if_neg q1, if_neg (fun z => z rfl)]
    exact ⟨_, _, rfl, ht, ft⟩
theorem WM_65 {t : Nat} {v : Int} (h1 : 1 ≤ v) (W : WM M) : WM (pset M 65 t v) := by
  obtain ⟨w1, w2, w3, w4, w5⟩ := W
  refine ⟨fun r hr => ?_, fun a b ha hb => ?_, fun a b ha hb hh => ?_, fun i hi => ?_, fun s hs => ?_⟩
  · rw [pset_ne (by decide)] at hr ⊢; exact w1 r hr
  · rw [pset_ne (by decide), pset_ne (by decide)]; exact w2 a b ha hb
  · rw [pset_ne (by decide)] at hh ⊢; exact w3 a b ha hb hh
  · rw [pset_ne (by decide)] at hi
    rw [pset_ne (show 63 ≠ 65 by decide), pset_ne (show 64 ≠ 65 by decide), pset_ne (show 66 ≠ 65 by decide), pset_ne (show 60 ≠ 65 by decide)]
    have k := w4 i hi
    by_cases q : i = t
    · rw [q, pset_eq]; rw [q] at k; exact ⟨k.1, k.2.1, h1, k.2.2.2⟩
    · rw [pset_ne2 q]; exact k
  · rw [pset_ne (by decide)] at hs; rw [pset_ne (by decide), pset_ne (by decide)]; exact w5 s hs
theorem m_sh26 (x1 x2 x3 x4 : Int) : ∀ (m t : Nat) (x5 x6 : Int) (y8 : pV) (M : pM), t + m = T → T ≤ 10 → gM gAll M → WM M → M 60 3 = (T : Int) → ∃ z M', xE D 206 26 [.inr 62, .inl x1, .inl x2, .inl x3, .inl x4, .inl x5, .inl x6, .inl (t : Int), y8] [] M = rI z M' ∧ gM gAll M' ∧ WM M' ∧ Fr [(65, 999)] M M' := by
  intro m
  induction m with
  | zero =>
    intro t x5 x6 y8 M ht hT hM W h3
    rw [L_M_sheet_26, h3, if_pos (by rw [le32_iff] <;> omega)]
    by_cases q : eq32 x1 3
    · rw [if_neg (fun z => z q)]
      exact ⟨_, M, rfl, hM, W, Fr_rfl⟩
    · rw [if_pos q]
      exact ⟨_, M, rfl, hM, W, Fr_rfl⟩
  | succ m ih =>
    intro t x5 x6 y8 M ht hT hM W h3
    have e1 : ((t : Int) + 1) = ((t + 1 : Nat) : Int) := by omega
    have go : ∀ (v x5' : Int) (y8' : pV), 1 ≤ v ∧ v ≤ 9 → ∃ z M', xE D 206 26 [.inr 62, .inl x1, .inl x2, .inl x3, .inl x4, .inl x5', .inl (x6 + x4), .inl ((t + 1 : Nat) : Int), y8'] [] (pset M 65 t v) = rI z M' ∧ gM gAll M' ∧ WM M' ∧ Fr [(65, 999)] M M' := by
      intro v x5' y8' hv
      obtain ⟨z, M', e, g, W', f⟩ := ih (t + 1) x5' (x6 + x4) y8' (pset M 65 t v) (by omega) hT (gM_r hM (lo := 0) (hi := 9) (by decide +kernel) (by decide +kernel) (by omega) hv.2) (WM_65 hv.1 W) (by rw [pset_ne (by decide)]; exact h3)
      exact ⟨z, M', e, g, W', Fr_tr (Fr_set Fr_rfl (wOK_r (by decide) _)) f⟩
    have c1 : (1 : Int) ≤ 1 ∧ (1 : Int) ≤ 9 := by omega
    have t1 : (0 : Int) ≤ (t : Int) ∧ (t : Int) < 10 := by omega
    rw [L_M_sheet_26, h3, if_neg (by rw [le32_iff] <;> omega)]
    simp only [if_pos t1, Int.toNat_natCast, e1]
    split
    · split
      · split
        · exact go _ _ _ c1
        · split
          · exact go _ _ _ (clamp_range _)
          · exact go _ _ _ c1
      · split
        · exact go _ _ _ c1
        · split
          · exact go _ _ _ (clamp_range _)
          · exact go _ _ _ c1
    · split
      · exact go _ _ _ c1
      · split
        · exact go _ _ _ (clamp_range _)
        · exact go _ _ _ c1
theorem r_sheet {d : Nat} (hd : 3 ≤ d) {b c e f : Int} (h : RI0 M) : okR d 206 [.inr 62, .inl b, .inl c, .inl e, .inl f] [(60, 17), (65, 999)] M := by
  obtain ⟨D, rfl, hD⟩ := dsucc hd
  have ht := RI0_thr h
  have t0 := gm_i ht.1 60 3 (lo := 0) (hi := 10) (by decide +kernel) (by decide +kernel)
  obtain ⟨T, hT⟩ := natI t0.1
  have ft : Fr [(60, 17), (65, 999)] M (pset M 60 17 0) := Fr_set Fr_rfl (by decide)
  have go : ∃ z M', xE D 206 26 [.inr 62, .inl b, .inl c, .inl e, .inl f, .inl 0, .inl e, .inl 0, .inr 0] [] (pset M 60 17 0) = rI z M' ∧ RI0 M' ∧ Fr [(60, 17), (65, 999)] M M' := by
    obtain ⟨z, M', e1, g, W, f1⟩ := m_sh26 (D := D) (T := T) b c e f T 0 0 e (.inr 0) (pset M 60 17 0) (by omega) (by omega) ht.1 ht.2.2.1 hT
    exact ⟨z, M', e1, RI0_62 ht g W f1 (by decide) (by decide) (by decide) (by decide) (by decide) (by decide), Fr_tr ft (Fr_mono f1 (by decide))⟩
  unfold okR
  rw [T_M_sheet, m_in (by omega), pbI_rI]
  by_cases q1 : lt32 b 0 ∨ lt32 3 b
  · rw [if_pos q1, if_pos rfl]
    exact ⟨_, _, rfl, ht, ft⟩
  · rw [if_neg q1, if_neg (by decide)]
    by_cases q2 : le32 c 10
    · rw [if_pos q2]
      by_cases q3 : le32 3 b
      · rw [if_pos q3]; exact go
      · rw [if_neg q3]
        by_cases q4 : le32 0 c
        · rw [if_pos q4]; exact go
        · rw [if_neg q4]
          exact ⟨_, _, rfl, ht, ft⟩
    · rw [if_neg q2]
      exact ⟨_, _, rfl, ht, ft⟩
theorem WM_67 {s : Nat} {v : Int} (h1 : v ≤ M 67 s) (W : WM M) : WM (pset M 67 s v) := by
  obtain ⟨w1, w2, w3, w4, w5⟩ := W
  refine ⟨fun r hr => ?_, fun a b ha hb => ?_, fun a b ha hb hh => ?_, fun i hi => ?_, fun i hs => ?_⟩
  · rw [pset_ne (by decide)] at hr ⊢; exact w1 r hr
  · rw [pset_ne (by decide), pset_ne (by decide)]; exact w2 a b ha hb
  · rw [pset_ne (by decide)] at hh ⊢; exact w3 a b ha hb hh
  · rw [pset_ne (by decide)] at hi
    rw [pset_ne (show 63 ≠ 67 by decide), pset_ne (show 64 ≠ 67 by decide), pset_ne (show 65 ≠ 67 by decide), pset_ne (show 66 ≠ 67 by decide), pset_ne (show 60 ≠ 67 by decide)]
    exact w4 i hi
  · rw [pset_ne (by decide)] at hs
    rw [pset_ne (show 60 ≠ 67 by decide)]
    have k := w5 i hs
    by_cases q : i = s
    · rw [q, pset_eq]; rw [q] at k; omega
    · rw [pset_ne2 q]; exact k
def wBreaks : List (Nat × Nat) := [(60, 17), (60, 30), (67, 999), (72, 999), (73, 999)]
theorem r_breaks {d : Nat} (hd : 4 ≤ d) {b : Int} (hb1 : -2147483648 ≤ b) (hb2 : b ≤ 2147483647) (h : RI0 M) : okR d 226 [.inr 62, .inl b] wBreaks M := by
  obtain ⟨D, rfl, hD⟩ := dsucc hd
  have ht := RI0_thr h
  have t0 := gm_i ht.1 60 3 (lo := 0) (hi := 10) (by decide +kernel) (by decide +kernel)
  have s0 := gm_i ht.1 60 8 (lo := 0) (hi := 8) (by decide +kernel) (by decide +kernel)
  obtain ⟨T, hT⟩ := natI t0.1
  obtain ⟨S, hS⟩ := natI s0.1
  have ft : Fr wBreaks M (pset M 60 17 0) := Fr_set Fr_rfl (by decide)
  unfold okR
  rw [T_M_breaks, m_isThing (by omega) hT (by omega) hb1 (by omega), pbI_rI]
  by_cases q1 : 0 ≤ b ∧ b < (T : Int)
  · obtain ⟨t, rfl⟩ := natI q1.1
    rw [if_pos q1, if_pos (by decide)]
    have key : ∀ (m s : Nat) (M1 : pM), s + m = S → gM gAll M1 → WM M1 → Fr [(67, 999)] (pset M 60 17 0) M1 → ∃ z M', xE D 226 11 [.inr 62, .inl (t : Int), .inl (s : Int)] [] M1 = rI z M' ∧ RI0 M' ∧ Fr wBreaks M M' := by
      intro m
      induction m with
      | zero =>
        intro s M1 hs g W f
        obtain ⟨M2, e2, g2, f2, -⟩ := m_findClumps (d := D) (ns := 0) (g := 0) (by omega) g (fcx_of g) (by decide) (by decide)
        rw [L_M_breaks_11, f 60 8 (by decide), hS, if_pos (by rw [le32_iff] <;> omega), show (.inl 0 : pV) = .inl ((0 : Nat) : Int) from rfl, e2, pbN_rV]
        have R1 : RI0 M1 := RI0_62 ht g W f (by decide) (by decide) (by decide) (by decide) (by decide) (by decide)
        exact ⟨_, M2, rfl, RI0_Fr g2 f2 (by decide) R1, Fr_tr ft (Fr_tr (Fr_mono f (by decide)) (Fr_mono f2 (by decide)))⟩
      | succ m ih =>
        intro s M1 hs g W f
        have b0 := gm_r g (o := 67) (lo := 0) (hi := 1023) (by decide +kernel) (by decide +kernel) (k := s) (show s < 8 by omega)
        obtain ⟨v, hv⟩ := natI b0.1
        have hp : 2 ^ t < 1024 := show 2 ^ t < 2 ^ 10 from Nat.pow_lt_pow_right (by decide) (by omega)
        have hn := nan_le v (2 ^ t)
        rw [L_M_breaks_11, f 60 8 (by decide), hS, if_neg (by rw [le32_iff] <;> omega), if_pos (by omega), if_pos (by omega), Int.toNat_natCast, hv, jshl_one t (by omega), jxor_m1 (by omega), jand_not (by omega) (by omega), show ((s : Int) + 1) = ((s + 1 : Nat) : Int) by omega]
        exact ih (s + 1) _ (by omega) (gM_r g (lo := 0) (hi := 1023) (by decide +kernel) (by decide +kernel) (by omega) (by omega)) (WM_67 (by omega) W) (Fr_set f (wOK_r (by decide) _))
    exact key S 0 (pset M 60 17 0) (by omega) ht.1 ht.2.2.1 Fr_rfl
  · rw [if_neg q1, if_neg (fun z => z rfl)]
    exact ⟨_, _, rfl, ht, ft⟩
/-- isEnough gives the size back -/
theorem m_enough (hd : 5 ≤ d) {r : Nat} (hr : r < 6) (c : Int) (hM : gM gAll M) (h0 : 1 ≤ M 60 0 ∧ M 60 0 ≤ 6) : ∃ z M', xF d 249 [.inr 62, .inl (r : Int), .inl c] M = rI z M' ∧ gM gAll M' ∧ Fr [(60, 40), (78, 999), (79, 999)] M M' := by
  obtain ⟨D, rfl, hD⟩ := dsucc hd
  have g1 : gM gAll (pset (pset M 61 r (M 61 r + c)) 60 40 (-1)) := gM_f (gM_r1 hM (by decide +kernel) (by decide +kernel)) (lo := -1) (hi := 1000000) (by decide +kernel) (by omega) (by omega)
  obtain ⟨v, M2, e2, g2, f2, hv⟩ := u_nextRow (d := D) (by omega) g1 (by rw [pset_ne2 (by decide), pset_ne (by decide)]; exact h0) ⟨by rw [pset_eq]; omega, by rw [pset_eq]; omega⟩
  have r2 : (0 : Int) ≤ (r : Int) ∧ (r : Int) < 6 := by omega
  rw [T_M_isEnough, if_pos r2, if_pos r2, Int.toNat_natCast, m_begin (by omega), pbN_rV, e2, pbI_rI, if_pos r2, if_pos r2, if_pos (by omega)]
  refine ⟨v, _, rfl, gM_r1 g2 (by decide +kernel) (by decide +kernel), fun o i q => ?_⟩
  have k61 : M2 61 r = M 61 r + c := by rw [f2 61 r (wOK_no (by decide) r), pset_ne (by decide), pset_eq]
  by_cases q1 : o = 61 ∧ i = r
  · rw [q1.1, q1.2, pset_eq, k61]; omega
  · rw [show pset M2 61 r (M2 61 r - c) o i = M2 o i from if_neg q1, f2 o i q]
    by_cases q2 : o = 60 ∧ i = 40
    · rw [q2.1, q2.2] at q; exact absurd q (by decide)
    · rw [show pset (pset M 61 r (M 61 r + c)) 60 40 (-1) o i = pset M 61 r (M 61 r + c) o i from if_neg q2, show pset M 61 r (M 61 r + c) o i = M o i from if_neg q1]
end RS
end
section
/-! calls of the reference that move things: its invariant stays -/
section RM
variable {D d R T : Nat} {M M' : pM}
theorem RI0_66 (h : RI0 M) {t : Nat} {v : Int} (h1 : 0 ≤ v) (h2 : v < M 60 0) : RI0 (pset M 66 t v) := by
  obtain ⟨g, s0, ⟨w1, w2, w3, w4, w5⟩, u⟩ := h
  have r0 := gm_i g 60 0 (lo := 0) (hi := 6) (by decide +kernel) (by decide +kernel)
  refine ⟨gM_r g (lo := 0) (hi := 5) (by decide +kernel) (by decide +kernel) h1 (by omega), by rw [pset_ne (by decide)]; exact s0, ⟨fun r hr => ?_, fun a b ha hb => ?_, fun a b ha hb hh => ?_, fun i hi => ?_, fun s hs => ?_⟩, UM_Fr (w := [(66, 999)]) (Fr_set Fr_rfl (wOK_r (by decide) _)) (by decide) (by decide) (by decide) (by decide) (by decide) u⟩
  · rw [pset_ne (by decide)] at hr ⊢; exact w1 r hr
  · rw [pset_ne (by decide), pset_ne (by decide)]; exact w2 a b ha hb
  · rw [pset_ne (by decide)] at hh ⊢; exact w3 a b ha hb hh
  · rw [pset_ne (by decide)] at hi
    rw [pset_ne (show 63 ≠ 66 by decide), pset_ne (show 64 ≠ 66 by decide), pset_ne (show 65 ≠ 66 by decide), pset_ne (show 60 ≠ 66 by decide)]
    have k := w4 i hi
    by_cases q : i = t
    · rw [q, pset_eq]; rw [q] at k; exact ⟨k.1, k.2.1, k.2.2.1, h2⟩
    · rw [pset_ne2 q]; exact k
  · rw [pset_ne (by decide)] at hs; rw [pset_ne (by decide), pset_ne (by decide)]; exact w5 s hs
theorem g75l : (List.range 20).all (fun k => decide (gAll 75 (3 * k) = (0, 0, 9, 0, 0, 0)) && decide (gAll 75 (3 * k + 1) = (0, 0, 5, 0, 0, 0)) && decide (gAll 75 (3 * k + 2) = (1, 0, 0, 0, 0, 0))) = true := by decide +kernel
theorem g75 (k : Nat) (hk : k < 20) : gAll 75 (3 * k) = (0, 0, 9, 0, 0, 0) ∧ gAll 75 (3 * k + 1) = (0, 0, 5, 0, 0, 0) ∧ gAll 75 (3 * k + 2) = (1, 0, 0, 0, 0, 0) := by
  have h := List.all_eq_true.mp g75l k (List.mem_range.mpr hk)
  rw [Bool.and_eq_true, Bool.and_eq_true] at h
  exact ⟨of_decide_eq_true h.1.1, of_decide_eq_true h.1.2, of_decide_eq_true h.2⟩
theorem g87l : (List.range 2).all (fun i => (List.range 10).all (fun t => decide (gAll 87 (12 * i + t) = (0, 0, 5, 0, 0, 0))) && decide (gAll 87 (12 * i + 10) = (1, 0, 0, 0, 0, 0)) && decide (gAll 87 (12 * i + 11) = (1, 0, 0, 0, 0, 0))) = true := by decide +kernel
theorem g87 (i : Nat) (hi : i < 2) : (∀ t : Nat, t < 10 → gAll 87 (12 * i + t) = (0, 0, 5, 0, 0, 0)) ∧ gAll 87 (12 * i + 10) = (1, 0, 0, 0, 0, 0) ∧ gAll 87 (12 * i + 11) = (1, 0, 0, 0, 0, 0) := by
  have h := List.all_eq_true.mp g87l i (List.mem_range.mpr hi)
  rw [Bool.and_eq_true, Bool.and_eq_true] at h
  exact ⟨fun t ht => of_decide_eq_true (List.all_eq_true.mp h.1.1 t (List.mem_range.mpr ht)), of_decide_eq_true h.1.2, of_decide_eq_true h.2⟩
theorem p75 {k : Nat} (hk : k < 20) : 3 * k < pL 75 ∧ 3 * k + 1 < pL 75 := by
  have e : pL 75 = 60 := by decide +kernel
  omega
theorem RI0_75 (h : RI0 M) {k : Nat} {v : Int} (hv : gR (gAll 75 k) v) (h2 : ∀ j, k = 3 * j + 1 → v < M 60 0) : RI0 (pset M 75 k v) := by
  obtain ⟨g, s0, w, u1, u2, u3, u4⟩ := h
  refine ⟨gMs_set g hv, by rw [pset_ne (by decide)]; exact s0, WM_Fr (w := [(75, 999)]) (Fr_set Fr_rfl (wOK_r (by decide) _)) (by decide) (by decide) (by decide) (by decide) w, fun j hj => ?_, by rw [pset_ne (by decide)]; exact u2, by rw [pset_ne (by decide), pset_ne (by decide), pset_ne (by decide)]; exact u3, fun i hi hne => ?_⟩
  · rw [pset_ne (by decide)] at hj
    rw [pset_ne (show 60 ≠ 75 by decide)]
    by_cases q : 3 * j + 1 = k
    · rw [q, pset_eq]; exact h2 j q.symm
    · rw [pset_ne2 q]; exact u1 j hj
  · rw [pset_ne (by decide)] at hne
    rw [pset_ne (show 89 ≠ 75 by decide), pset_ne (show 60 ≠ 75 by decide), pset_ne (show 60 ≠ 75 by decide), pset_ne (show 60 ≠ 75 by decide)]
    obtain ⟨v1, v2, v3⟩ := u4 i hi hne
    exact ⟨v1, v2, fun e t ht => by rw [pset_ne (by decide)]; exact v3 e t ht⟩
theorem RI0_33 (h : RI0 M) {v : Int} (h1 : 0 ≤ v) (h20 : v ≤ 20) (h2 : ∀ k : Nat, (k : Int) < v → M 75 (3 * k + 1) < M 60 0) : RI0 (pset M 60 33 v) := by
  obtain ⟨g, s0, w, u1, u2, u3, u4⟩ := h
  refine ⟨gM_f g (lo := 0) (hi := 20) (by decide +kernel) h1 h20, by rw [pset_ne2 (by decide)]; exact s0, WM_Fr (w := [(60, 33)]) (Fr_set Fr_rfl (by decide)) (by decide) (by decide) (by decide) (by decide) w, fun j hj => ?_, by rw [pset_ne2 (by decide)]; exact u2, by rw [pset_ne2 (by decide), pset_ne2 (by decide), pset_ne2 (by decide)]; exact u3, fun i hi hne => ?_⟩
  · rw [pset_eq] at hj
    rw [pset_ne (show 75 ≠ 60 by decide), pset_ne2 (show 0 ≠ 33 by decide)]; exact h2 j hj
  · rw [pset_ne (by decide)] at hne
    rw [pset_ne (show 89 ≠ 60 by decide), pset_ne2 (show 52 ≠ 33 by decide), pset_ne2 (show 3 ≠ 33 by decide), pset_ne2 (show 0 ≠ 33 by decide)]
    obtain ⟨v1, v2, v3⟩ := u4 i hi hne
    exact ⟨v1, v2, fun e t ht => by rw [pset_ne (by decide)]; exact v3 e t ht⟩
theorem RI0_11 (h : RI0 M) {v : Int} : RI0 (pset M 60 11 v) := RI0_Fr (w := [(60, 11)]) (gMs_set h.1 (by rw [show gAll 60 11 = (1, 0, 0, 0, 0, 0) by decide +kernel]; exact Or.inr (Or.inl rfl))) (Fr_set Fr_rfl (by decide)) (by decide) h
theorem RI0_10 (h : RI0 M) {v : Int} : RI0 (pset M 60 10 v) := RI0_Fr (w := [(60, 10)]) (gMs_set h.1 (by rw [show gAll 60 10 = (1, 0, 0, 0, 0, 0) by decide +kernel]; exact Or.inr (Or.inl rfl))) (Fr_set Fr_rfl (by decide)) (by decide) h
theorem RI0_16 (h : RI0 M) : RI0 (pset M 60 16 0) := RI0_Fr (w := [(60, 16)]) (gM_row0 h.1) (Fr_set Fr_rfl (by decide)) (by decide) h
/-- what a thing's way back is -/
theorem RI0_rem (h : RI0 M) {n b : Nat} (hn : n < 20) (h33 : M 60 33 = (n : Int)) (hb : b < 10) (hr : M 66 b < M 60 0) : RI0 (pset (pset (pset (pset M 75 (3 * n) b) 75 (3 * n + 1) (M 66 b)) 75 (3 * n + 2) (M 60 11)) 60 33 ((n : Int) + 1)) := by
  have i66 := gm_r h.1 (o := 66) (lo := 0) (hi := 5) (by decide +kernel) (by decide +kernel) (k := b) (show b < 10 from hb)
  obtain ⟨e0, e1, e2⟩ := g75 n hn
  have h1 := RI0_75 h (k := 3 * n) (v := (b : Int)) (by rw [e0]; exact Or.inl ⟨rfl, by show (0 : Int) ≤ b; omega, by show (b : Int) ≤ 9; omega⟩) (fun j hj => by omega)
  have h2 := RI0_75 h1 (k := 3 * n + 1) (v := M 66 b) (by rw [e1]; exact Or.inl ⟨rfl, i66.1, i66.2⟩) (fun j hj => by rw [pset_ne (by decide)]; exact hr)
  have h3 := RI0_75 h2 (k := 3 * n + 2) (v := M 60 11) (by rw [e2]; exact Or.inr (Or.inl rfl)) (fun j hj => by omega)
  refine RI0_33 h3 (by omega) (by omega) (fun k hk => ?_)
  rw [pset_ne (show 60 ≠ 75 by decide), pset_ne (show 60 ≠ 75 by decide), pset_ne (show 60 ≠ 75 by decide), pset_ne2 (show 3 * k + 1 ≠ 3 * n + 2 by omega)]
  by_cases q : k = n
  · rw [q, pset_eq]; exact hr
  · rw [pset_ne2 (show 3 * k + 1 ≠ 3 * n + 1 by omega), pset_ne2 (show 3 * k + 1 ≠ 3 * n by omega)]
    exact h.2.2.2.1 k (by omega)
def wRem : List (Nat × Nat) := [(60, 33), (75, 999)]
theorem Fr_rem {n b : Nat} {v w : Int} : Fr wRem M (pset (pset (pset (pset M 75 (3 * n) b) 75 (3 * n + 1) v) 75 (3 * n + 2) w) 60 33 ((n : Int) + 1)) := Fr_set (Fr_set (Fr_set (Fr_set Fr_rfl (wOK_r (by decide) _)) (wOK_r (by decide) _)) (wOK_r (by decide) _)) (by decide)
theorem m_remember (hd : 1 ≤ d) {b : Nat} (hb : b < 10) (hr : M 66 b < M 60 0) (h : RI0 M) : ∃ M', xF d 215 [.inr 62, .inl (b : Int)] M = rV M' ∧ RI0 M' ∧ Fr wRem M M' := by
  obtain ⟨D, rfl, -⟩ := dsucc hd
  have a1 : ∀ (M : pM) (i : Nat) (v : Int), pset M 75 i v 60 33 = M 60 33 := fun _ _ _ => pset_ne (by decide)
  have a2 : ∀ (M : pM) (i k : Nat) (v : Int), pset M 75 i v 66 k = M 66 k := fun _ _ _ _ => pset_ne (by decide)
  have a3 : ∀ (M : pM) (i : Nat) (v : Int), pset M 75 i v 60 11 = M 60 11 := fun _ _ _ => pset_ne (by decide)
  have n1 : ∀ n : Nat, (3 * (n : Int)).toNat = 3 * n := fun n => by omega
  have n2 : ∀ n : Nat, (3 * (n : Int) + 1).toNat = 3 * n + 1 := fun n => by omega
  have n3 : ∀ n : Nat, (3 * (n : Int) + 2).toNat = 3 * n + 2 := fun n => by omega
  have hb2 : (0 : Int) ≤ (b : Int) ∧ (b : Int) < 10 := by omega
  have b33 := gm_i h.1 60 33 (lo := 0) (hi := 20) (by decide +kernel) (by decide +kernel)
  obtain ⟨n, hn⟩ := natI b33.1
  rw [T_M_remember]
  by_cases q : n = 20
  · rw [if_neg (fun z => z (by rw [hn, q]; rfl))]
    have key : ∀ (m x : Nat) (M1 : pM), x + m = 57 → RI0 M1 → Fr [(75, 999)] M M1 → ∃ M', xE D 215 6 [.inr 62, .inl (b : Int), .inl (x : Int)] [] M1 = rV M' ∧ RI0 M' ∧ Fr wRem M M' := by
      intro m
      induction m with
      | zero =>
        intro x M1 hx g f
        have k33 : M1 60 33 = 20 := by rw [f 60 33 (by decide), hn, q]; rfl
        have g2 : RI0 (pset M1 60 33 ((19 : Nat) : Int)) := RI0_33 g (by decide) (by decide) (fun k hk => g.2.2.2.1 k (by rw [k33]; omega))
        rw [L_M_remember_6, if_pos (by rw [le32_iff] <;> omega), k33, show ((20 : Int) - 1) = ((19 : Nat) : Int) by decide]
        have f2 : Fr wRem M (pset M1 60 33 ((19 : Nat) : Int)) := Fr_set (Fr_mono f (by decide)) (by decide)
        have e33 : (pset M1 60 33 ((19 : Nat) : Int)) 60 33 = ((19 : Nat) : Int) := pset_eq
        have e66 : (pset M1 60 33 ((19 : Nat) : Int)) 66 b < (pset M1 60 33 ((19 : Nat) : Int)) 60 0 := by rw [pset_ne (by decide), pset_ne2 (by decide), f 66 b (wOK_no (by decide) b), f 60 0 (by decide)]; exact hr
        generalize pset M1 60 33 ((19 : Nat) : Int) = M2 at g2 f2 e33 e66 ⊢
        simp only [a1, a2, a3, e33, n1, n2, n3, Int.toNat_natCast]
        rw [if_pos (by decide), if_pos hb2, if_pos (by decide), if_pos (by decide)]
        exact ⟨_, rfl, RI0_rem g2 (n := 19) (by decide) e33 hb e66, Fr_tr f2 Fr_rem⟩
      | succ m ih =>
        intro x M1 hx g f
        have k33 : M1 60 33 = 20 := by rw [f 60 33 (by decide), hn, q]; rfl
        have hv : gR (gAll 75 x) (M1 75 (x + 3)) := by
          have e : pL 75 = 60 := by decide +kernel
          have := g.1 75 (x + 3) (by omega)
          rw [show gAll 75 (x + 3) = gAll 75 x from by
            obtain ⟨k, hk, hx3⟩ : ∃ k, k < 19 ∧ (x = 3 * k ∨ x = 3 * k + 1 ∨ x = 3 * k + 2) := ⟨x / 3, by omega, by omega⟩
            have u1 := g75 k (by omega)
            have u2 := g75 (k + 1) (by omega)
            rcases hx3 with rfl | rfl | rfl
            · rw [u1.1, show 3 * k + 3 = 3 * (k + 1) by omega, u2.1]
            · rw [u1.2.1, show 3 * k + 1 + 3 = 3 * (k + 1) + 1 by omega, u2.2.1]
            · rw [u1.2.2, show 3 * k + 2 + 3 = 3 * (k + 1) + 2 by omega, u2.2.2]] at this
          exact this
        rw [L_M_remember_6, if_neg (by rw [le32_iff] <;> omega), if_pos (by omega), if_pos (by omega), show ((x : Int) + 3).toNat = x + 3 by omega, Int.toNat_natCast, show ((x : Int) + 1) = ((x + 1 : Nat) : Int) by omega]
        exact ih (x + 1) _ (by omega) (RI0_75 g hv (fun j hj => by
          have := g.2.2.2.1 (j + 1) (by rw [k33]; omega)
          rw [hj, show 3 * j + 1 + 3 = 3 * (j + 1) + 1 by omega]; exact this)) (Fr_set f (wOK_r (by decide) _))
    exact key 57 0 M (by omega) h Fr_rfl
  · rw [if_pos (by rw [hn, eq32_iff] <;> omega)]
    simp only [a1, a2, a3, hn, n1, n2, n3, Int.toNat_natCast]
    rw [if_pos (by omega), if_pos hb2, if_pos (by omega), if_pos (by omega)]
    exact ⟨_, rfl, RI0_rem h (by omega) hn hb hr, Fr_rem⟩
theorem m_refusal (hd : 3 ≤ d) {b c : Int} (hb1 : -2147483648 ≤ b) (hb2 : b < 2147483648) (hc1 : -2147483648 ≤ c) (hc2 : c < 2147483648) (hM : gM gAll M) (hR : M 60 0 = (R : Int)) (hT : M 60 3 = (T : Int)) : ∃ z M', xF d 213 [.inr 62, .inl b, .inl c] M = rI z M' ∧ gM gAll M' ∧ Fr [(74, 999)] M M' ∧ ((z = -1 ∨ z = -2 ∨ z = -3) ∨ (z = 0 ∧ (0 ≤ b ∧ b < (T : Int)) ∧ 0 ≤ c ∧ c < (R : Int))) := by
  obtain ⟨D, rfl, hD⟩ := dsucc hd
  have r0 := gm_i hM 60 0 (lo := 0) (hi := 6) (by decide +kernel) (by decide +kernel)
  have t0 := gm_i hM 60 3 (lo := 0) (hi := 10) (by decide +kernel) (by decide +kernel)
  rw [T_M_refusal, m_isThing (by omega) hT (by omega) hb1 hb2, pbI_rI]
  by_cases q1 : 0 ≤ b ∧ b < (T : Int)
  · rw [if_pos q1, if_neg (by decide), m_isRoom (by omega) hR (by omega) hc1 hc2, pbI_rI]
    by_cases q2 : 0 ≤ c ∧ c < (R : Int)
    · obtain ⟨x, rfl⟩ := natI q1.1
      have i5 := gm_r hM (o := 66) (lo := 0) (hi := 5) (by decide +kernel) (by decide +kernel) (k := x) (show x < 10 by omega)
      obtain ⟨z, M2, e, g2, f2, -⟩ := u_steps (d := D) (by omega) (a1 := (x : Int)) (a2 := M 66 x) (a3 := c) hM ⟨by omega, by omega⟩ i5 ⟨by omega, by omega⟩
      rw [if_pos q2, if_pos (by decide), if_pos (by omega), Int.toNat_natCast, e, pbI_rI]
      by_cases q3 : lt32 z 1000000
      · rw [if_pos q3, if_pos (by omega)]
        by_cases q4 : le32 (M2 60 11 + z * M2 65 x) (M2 60 12)
        · rw [if_pos q4]; exact ⟨_, M2, rfl, g2, f2, Or.inr ⟨rfl, q1, q2⟩⟩
        · rw [if_neg q4]; exact ⟨_, M2, rfl, g2, f2, Or.inl (by decide)⟩
      · rw [if_neg q3]; exact ⟨_, M2, rfl, g2, f2, Or.inl (by decide)⟩
    · rw [if_neg q2, if_neg (fun z => z rfl)]
      exact ⟨_, M, rfl, hM, Fr_rfl, Or.inl (by decide)⟩
  · rw [if_neg q1, if_pos rfl]
    exact ⟨_, M, rfl, hM, Fr_rfl, Or.inl (by decide)⟩
def wCs : List (Nat × Nat) := [(60, 11), (66, 999), (74, 999)]
theorem m_carries (hd : 3 ≤ d) {b c : Nat} (hb : b < 10) (hc : (c : Int) < M 60 0) (h : RI0 M) : ∃ z M', xF d 214 [.inr 62, .inl (b : Int), .inl (c : Int)] M = rI z M' ∧ RI0 M' ∧ Fr wCs M M' := by
  obtain ⟨D, rfl, hD⟩ := dsucc hd
  have r0 := gm_i h.1 60 0 (lo := 0) (hi := 6) (by decide +kernel) (by decide +kernel)
  have i5 := gm_r h.1 (o := 66) (lo := 0) (hi := 5) (by decide +kernel) (by decide +kernel) (k := b) (show b < 10 by omega)
  obtain ⟨z, M2, e, g2, f2, -⟩ := u_steps (d := D) (by omega) (a1 := (b : Int)) (a2 := M 66 b) (a3 := (c : Int)) h.1 ⟨by omega, by omega⟩ i5 ⟨by omega, by omega⟩
  have h2 : RI0 M2 := RI0_Fr g2 f2 (by decide) h
  have hb2 : (0 : Int) ≤ (b : Int) ∧ (b : Int) < 10 := by omega
  rw [T_M_carries, if_pos hb2, Int.toNat_natCast, e, pbI_rI, if_pos hb2, if_pos hb2]
  exact ⟨_, _, rfl, RI0_11 (RI0_66 h2 (by omega) (by rw [f2 60 0 (by decide)]; exact hc)), Fr_set (Fr_set (Fr_mono f2 (by decide)) (wOK_r (by decide) _)) (by decide)⟩
def wCarry : List (Nat × Nat) := [(60, 11), (60, 17), (60, 33), (66, 999), (74, 999), (75, 999)]
theorem r_carry {d : Nat} (hd : 4 ≤ d) {b c : Int} (hb1 : -2147483648 ≤ b) (hb2 : b ≤ 2147483647) (hc1 : -2147483648 ≤ c) (hc2 : c ≤ 2147483647) (h : RI0 M) : okR d 216 [.inr 62, .inl b, .inl c] wCarry M := by
  obtain ⟨D, rfl, hD⟩ := dsucc hd
  have ht := RI0_thr h
  have r0 := gm_i ht.1 60 0 (lo := 0) (hi := 6) (by decide +kernel) (by decide +kernel)
  have t0 := gm_i ht.1 60 3 (lo := 0) (hi := 10) (by decide +kernel) (by decide +kernel)
  obtain ⟨R, hR⟩ := natI r0.1
  obtain ⟨T, hT⟩ := natI t0.1
  have ft : Fr wCarry M (pset M 60 17 0) := Fr_set Fr_rfl (by decide)
  obtain ⟨z, M1, e1, g1, f1, alt⟩ := m_refusal (d := D) (by omega) hb1 (by omega) hc1 (by omega) ht.1 hR hT
  have h1 : RI0 M1 := RI0_Fr g1 f1 (by decide) ht
  unfold okR
  rw [T_M_carry, e1, pbI_rI]
  rcases alt with q | ⟨rfl, q1, q2⟩
  · rw [if_neg (by rcases q with rfl | rfl | rfl <;> decide)]
    exact ⟨_, M1, rfl, h1, Fr_tr ft (Fr_mono f1 (by decide))⟩
  · obtain ⟨x, rfl⟩ := natI q1.1
    obtain ⟨y, rfl⟩ := natI q2.1
    have k3 : M1 60 3 = (T : Int) := by rw [f1 60 3 (by decide)]; exact hT
    have k0 : M1 60 0 = (R : Int) := by rw [f1 60 0 (by decide)]; exact hR
    obtain ⟨M2, e2, h2, f2⟩ := m_remember (d := D) (by omega) (b := x) (by omega) (h1.2.2.1.2.2.2.1 x (by omega)).2.2.2 h1
    obtain ⟨v, M3, e3, h3, f3⟩ := m_carries (d := D) (by omega) (b := x) (c := y) (by omega) (by rw [f2 60 0 (by decide), k0]; omega) h2
    rw [if_pos (by decide), e2, pbN_rV, e3, pbI_rI]
    exact ⟨_, M3, rfl, h3, Fr_tr ft (Fr_tr (Fr_mono f1 (by decide)) (Fr_tr (Fr_mono f2 (by decide)) (Fr_mono f3 (by decide))))⟩
def wUndo : List (Nat × Nat) := [(60, 11), (60, 17), (60, 33), (66, 999)]
theorem r_undo {d : Nat} (hd : 1 ≤ d) (h : RI0 M) : okR d 220 [.inr 62] wUndo M := by
  obtain ⟨D, rfl, -⟩ := dsucc hd
  have ht := RI0_thr h
  have b33 := gm_i ht.1 60 33 (lo := 0) (hi := 20) (by decide +kernel) (by decide +kernel)
  obtain ⟨n, hn⟩ := natI b33.1
  have ft : Fr wUndo M (pset M 60 17 0) := Fr_set Fr_rfl (by decide)
  unfold okR
  rw [T_M_undo]
  generalize pset M 60 17 0 = M1 at ht ft hn b33 ⊢
  by_cases q : n = 0
  · rw [if_neg (fun z => z (by rw [hn, q]; rfl))]
    exact ⟨_, M1, rfl, ht, ft⟩
  · obtain ⟨k, rfl⟩ : ∃ k, n = k + 1 := ⟨n - 1, by omega⟩
    have h2 : RI0 (pset M1 60 33 (k : Int)) := RI0_33 ht (by omega) (by omega) (fun j hj => ht.2.2.2.1 j (by omega))
    have e33 : pset M1 60 33 (k : Int) 60 33 = (k : Int) := pset_eq
    have e75 : pset M1 60 33 (k : Int) 75 (3 * k + 1) < pset M1 60 33 (k : Int) 60 0 := by
      rw [pset_ne (by decide), pset_ne2 (by decide)]; exact ht.2.2.2.1 k (by omega)
    have f2 : Fr wUndo M (pset M1 60 33 (k : Int)) := Fr_set ft (by decide)
    rw [if_pos (by rw [hn, eq32_iff] <;> omega), hn, show (((k + 1 : Nat) : Int) - 1) = (k : Int) by omega]
    generalize pset M1 60 33 (k : Int) = M2 at h2 e33 e75 f2 ⊢
    have n1 : (3 * (k : Int)).toNat = 3 * k := by omega
    have n2 : (3 * (k : Int) + 1).toNat = 3 * k + 1 := by omega
    have n3 : (3 * (k : Int) + 2).toNat = 3 * k + 2 := by omega
    have a1 : ∀ (M : pM) (i : Nat) (v : Int), pset M 66 i v 60 33 = M 60 33 := fun _ _ _ => pset_ne (by decide)
    have b0 : 0 ≤ M2 75 (3 * k) ∧ M2 75 (3 * k) ≤ 9 := gR0 (by rw [← (g75 k (by omega)).1]; exact h2.1 75 (3 * k) (p75 (by omega)).1)
    have b1 : 0 ≤ M2 75 (3 * k + 1) ∧ M2 75 (3 * k + 1) ≤ 5 := gR0 (by rw [← (g75 k (by omega)).2.1]; exact h2.1 75 (3 * k + 1) (p75 (by omega)).2)
    simp only [a1, e33, n1, n2, n3]
    rw [if_pos (by omega), if_pos (by omega), if_pos (by omega), if_pos (by omega)]
    exact ⟨_, _, rfl, RI0_11 (RI0_66 h2 b1.1 e75), Fr_set (Fr_set f2 (wOK_r (by decide) _)) (by decide)⟩
end RM
end
section
/-! keep, again, judge, evening of the reference -/
section RT
variable {D d R T : Nat} {M M' : pM}
def lwB (M : pM) (p : Nat → Int) (S T N : Nat) (sv : Nat → Nat) : Bool := bitsOf (fun s => pdF p (sv s) T) S == 0 && bitsOf (fun r => decide (¬ le32 0 (frF M p r T))) N == 0
theorem bits_ne {c : Nat → Bool} {n : Nat} (hn : n ≤ 10) : (¬ eq32 (bitsOf c n : Nat) 0) ↔ bitsOf c n ≠ 0 := by
  have h := bitsOf_lt c n
  have h2 : 2 ^ n ≤ 2 ^ 10 := Nat.pow_le_pow_right (by decide) hn
  have h3 : (2 : Nat) ^ 10 = 1024 := by decide
  rw [eq32_iff (by omega) (by omega) (by omega) (by omega)]
  omega
theorem m_lawful_66 (hd : 3 ≤ d) {S : Nat} {sv : Nat → Nat} (h : FCx M S T sv) (h0 : M 60 0 = (R : Int)) (hR : R ≤ 6) : xF d 212 [.inr 62, .inr 68] M = rI (if lwB M (M 66) S T R sv then 1 else 0) M := by
  obtain ⟨D, rfl, hD⟩ := dsucc hd
  rw [T_M_isLawful_66, m_parted_66 (by omega) h, pbI_rI]
  unfold lwB
  by_cases q : bitsOf (fun s => pdF (M 66) (sv s) T) S = 0
  · rw [if_neg (fun z => (bits_ne (by have := h.2.1; omega)).mp z q), m_full_66 (by omega) h.2.2.1 h.2.2.2.1 h0 hR, pbI_rI, q]
    by_cases q2 : bitsOf (fun r => decide (¬ le32 0 (frF M (M 66) r T))) R = 0
    · rw [if_neg (fun z => (bits_ne (by omega)).mp z q2), q2]; rfl
    · rw [if_pos ((bits_ne (by omega)).mpr q2), if_neg (by rw [Bool.and_eq_true]; exact fun z => q2 (eq_of_beq z.2))]
  · rw [if_pos ((bits_ne (by have := h.2.1; omega)).mpr q), if_neg (by rw [Bool.and_eq_true]; exact fun z => q (eq_of_beq z.1))]
theorem m_law66 (hd : 3 ≤ d) (hM : gM gAll M) : ∃ z, xF d 212 [.inr 62, .inr 68] M = rI z M := by
  have r0 := gm_i hM 60 0 (lo := 0) (hi := 6) (by decide +kernel) (by decide +kernel)
  obtain ⟨R, hR⟩ := natI r0.1
  exact ⟨_, m_lawful_66 hd (fcx_of hM) hR (by omega)⟩
/-- goEvening, evening -/
def wGo : List (Nat × Nat) := [(60, 10), (60, 11), (60, 33)]
theorem m_goEv (hd : 4 ≤ d) (h : RI0 M) : ∃ z M', xF d 217 [.inr 62] M = rI z M' ∧ RI0 M' ∧ Fr wGo M M' ∧ (z = 0 ∨ z = 1) := by
  obtain ⟨D, rfl, hD⟩ := dsucc hd
  obtain ⟨z, e⟩ := m_law66 (d := D) (by omega) h.1
  rw [T_M_goEvening, e, pbI_rI]
  by_cases q : eq32 z 0
  · rw [if_neg (fun y => y q)]
    exact ⟨_, M, rfl, h, Fr_rfl, Or.inl rfl⟩
  · rw [if_pos q]
    exact ⟨_, _, rfl, RI0_33 (RI0_11 (RI0_10 h)) (by decide) (by decide) (fun k hk => by omega), Fr_set (Fr_set (Fr_set Fr_rfl (by decide)) (by decide)) (by decide), Or.inr rfl⟩
def wEv : List (Nat × Nat) := [(60, 10), (60, 11), (60, 16), (60, 17), (60, 33), (69, 999)]
theorem m_tell2 (hD : 1 ≤ D) (h : RI0 M) (h16 : M 60 16 = 0) (v w : Int) : ∃ M1, xF D 172 [.inr 62, .inl v] M = rV M1 ∧ RI0 M1 ∧ Fr [(60, 16), (69, 999)] M M1 ∧ ∃ M2, xF D 172 [.inr 62, .inl w] M1 = rV M2 ∧ RI0 M2 ∧ Fr [(60, 16), (69, 999)] M M2 := by
  obtain ⟨M1, e1, g1, f1, k1⟩ := m_tellS (D := D) (M := M) (n := 0) hD (by decide) h16 h.1 v
  obtain ⟨M2, e2, g2, f2, k2⟩ := m_tellS (D := D) (M := M1) (n := 1) hD (by decide) k1 g1 w
  have r1 : RI0 M1 := RI0_Fr g1 f1 (by decide) h
  exact ⟨M1, e1, r1, f1, M2, e2, RI0_Fr g2 f2 (by decide) r1, Fr_tr f1 f2⟩
theorem r_evening {d : Nat} (hd : 5 ≤ d) (h : RI0 M) : okR d 218 [.inr 62] wEv M := by
  obtain ⟨D, rfl, hD⟩ := dsucc hd
  have ht := RI0_thr h
  have r0 := gm_i ht.1 60 0 (lo := 0) (hi := 6) (by decide +kernel) (by decide +kernel)
  obtain ⟨R, hR⟩ := natI r0.1
  have ft : Fr wEv M (pset M 60 17 0) := Fr_set Fr_rfl (by decide)
  have F := fcx_of ht.1
  unfold okR
  rw [T_M_evening, m_parted_66 (by omega) F, pbI_rI, m_full_66 (by omega) F.2.2.1 F.2.2.2.1 hR (by omega), pbI_rI]
  obtain ⟨M1, e1, r1, f1, M2, e2, r2, f2⟩ := m_tell2 (D := D) (by omega) (RI0_16 ht) pset_eq (bitsOf (fun s => pdF (pset M 60 17 0 66) ((pset M 60 17 0 67 s).toNat) (pset M 60 17 0 60 3).toNat) (pset M 60 17 0 60 8).toNat : Nat) (bitsOf (fun r => decide (¬ le32 0 (frF (pset M 60 17 0) (pset M 60 17 0 66) r (pset M 60 17 0 60 3).toNat))) R : Nat)
  obtain ⟨z, M3, e3, r3, f3, hz⟩ := m_goEv (d := D) (by omega) r2
  have FF : Fr wEv M M3 := Fr_tr ft (Fr_tr (Fr_mono (Fr_tr (Fr_set (w := [(60, 16), (69, 999)]) Fr_rfl (by decide)) f2) (by decide)) (Fr_mono f3 (by decide)))
  rw [e1, pbN_rV, e2, pbN_rV, e3, pbI_rI]
  rcases hz with rfl | rfl
  · rw [if_pos rfl]; exact ⟨_, M3, rfl, r3, FF⟩
  · rw [if_neg (by decide)]; exact ⟨_, M3, rfl, r3, FF⟩
/-- again -/
def wAgain : List (Nat × Nat) := [(60, 10), (60, 11), (60, 17), (60, 33), (66, 999)]
theorem r_again {d : Nat} (hd : 2 ≤ d) {b : Int} (hb1 : -2147483648 ≤ b) (hb2 : b ≤ 2147483647) (h : RI0 M) : okR d 267 [.inr 62, .inl b] wAgain M := by
  obtain ⟨D, rfl, hD⟩ := dsucc hd
  have ht := RI0_thr h
  have t0 := gm_i ht.1 60 3 (lo := 0) (hi := 10) (by decide +kernel) (by decide +kernel)
  have s0 := gm_i ht.1 60 0 (lo := 0) (hi := 6) (by decide +kernel) (by decide +kernel)
  obtain ⟨T, hT⟩ := natI t0.1
  have ft : Fr wAgain M (pset M 60 17 0) := Fr_set Fr_rfl (by decide)
  unfold okR
  rw [T_M_again, m_in (by omega), pbI_rI]
  generalize pset M 60 17 0 = M1 at ht ft hT t0 s0 ⊢
  by_cases q : lt32 b 0 ∨ lt32 1 b
  · rw [if_pos q, if_pos rfl]; exact ⟨_, M1, rfl, ht, ft⟩
  · have n1 : ¬ lt32 b 0 := fun z => q (Or.inl z)
    have n2 : ¬ lt32 1 b := fun z => q (Or.inr z)
    rw [lt32_iff (by omega) (by omega) (by omega) (by omega)] at n1 n2
    obtain ⟨i, rfl⟩ := natI (show 0 ≤ b by omega)
    have hi : i < 2 := by omega
    rw [if_neg q, if_neg (by decide), if_pos (by omega), Int.toNat_natCast]
    by_cases q2 : eq32 (M1 88 i) 0
    · rw [if_pos q2]; exact ⟨_, M1, rfl, ht, ft⟩
    · rw [if_neg q2, if_pos (by omega)]
      by_cases q3 : eq32 (M1 89 i) (M1 60 52)
      · obtain ⟨v1, v2, v3⟩ := ht.2.2.2.2.2.2 i hi (fun z => q2 (by rw [z]))
        have u := ht.2.2.2.2.2.1
        have e : M1 89 i = M1 60 52 := by
          rw [eq32_iff (by omega) (by omega) (by omega) (by omega)] at q3; exact q3
        rw [if_pos q3]
        have key : ∀ (m x : Nat) (M2 : pM), x + m = T → RI0 M2 → Fr [(66, 999)] M1 M2 → ∃ z M', xE D 267 24 [.inr 62, .inl (i : Int), .inl (x : Int)] [] M2 = rI z M' ∧ RI0 M' ∧ Fr wAgain M1 M' := by
          intro m
          induction m with
          | zero =>
            intro x M2 hx g f
            have k3 : M2 60 3 = (T : Int) := by rw [f 60 3 (by decide)]; exact hT
            rw [L_M_again_24, k3, if_pos (by rw [le32_iff] <;> omega), if_pos (by omega), if_pos (by omega)]
            exact ⟨_, _, rfl, RI0_33 (RI0_11 (RI0_10 g)) (by decide) (by decide) (fun k hk => by omega), Fr_set (Fr_set (Fr_set (Fr_mono f (by decide)) (by decide)) (by decide)) (by decide)⟩
          | succ m ih =>
            intro x M2 hx g f
            have k3 : M2 60 3 = (T : Int) := by rw [f 60 3 (by decide)]; exact hT
            have k87 : M2 87 (12 * i + x) = M1 87 (12 * i + x) := f 87 _ (wOK_no (by decide) _)
            have hp : pL 87 = 24 := by decide +kernel
            have b1 : 0 ≤ M1 87 (12 * i + x) ∧ M1 87 (12 * i + x) ≤ 5 := gR0 (by rw [← (g87 i hi).1 x (by omega)]; exact ht.1 87 (12 * i + x) (by omega))
            rw [L_M_again_24, k3, if_neg (by rw [le32_iff] <;> omega), if_pos (by omega), if_pos (by omega), show (12 * (i : Int) + (x : Int)).toNat = 12 * i + x by omega, Int.toNat_natCast, k87, show ((x : Int) + 1) = ((x + 1 : Nat) : Int) by omega]
            exact ih (x + 1) _ (by omega) (RI0_66 g b1.1 (by rw [f 60 0 (by decide)]; exact v3 e x (by omega))) (Fr_set f (wOK_r (by decide) _))
        obtain ⟨z, M', e1, r1, f1⟩ := key T 0 M1 (by omega) ht Fr_rfl
        exact ⟨z, M', e1, r1, Fr_tr ft f1⟩
      · rw [if_neg q3]; exact ⟨_, M1, rfl, ht, ft⟩
/-- keep -/
def wKeep : List (Nat × Nat) := [(60, 17), (87, 999), (88, 999), (89, 999)]
theorem r_keep {d : Nat} (hd : 2 ≤ d) {b : Int} (hb1 : -2147483648 ≤ b) (hb2 : b ≤ 2147483647) (h : RI0 M) : okR d 266 [.inr 62, .inl b] wKeep M := by
  obtain ⟨D, rfl, hD⟩ := dsucc hd
  have ht := RI0_thr h
  have ft : Fr wKeep M (pset M 60 17 0) := Fr_set Fr_rfl (by decide)
  unfold okR
  rw [T_M_keep, m_in (by omega), pbI_rI]
  generalize pset M 60 17 0 = M1 at ht ft ⊢
  by_cases q : lt32 b 0 ∨ lt32 1 b
  · rw [if_pos q, if_neg (fun z => z rfl)]; exact ⟨_, M1, rfl, ht, ft⟩
  · have n1 : ¬ lt32 b 0 := fun z => q (Or.inl z)
    have n2 : ¬ lt32 1 b := fun z => q (Or.inr z)
    rw [lt32_iff (by omega) (by omega) (by omega) (by omega)] at n1 n2
    obtain ⟨i, rfl⟩ := natI (show 0 ≤ b by omega)
    have hi : i < 2 := by omega
    rw [if_neg q, if_pos (by decide), if_pos (by omega), if_pos (by omega), Int.toNat_natCast, pset_ne (show 60 ≠ 88 by decide)]
    have g1 : gM gAll (pset (pset M1 88 i 1) 89 i (M1 60 52)) := gM_r1 (gM_r ht.1 (lo := 0) (hi := 1) (by decide +kernel) (by decide +kernel) (by decide) (by decide)) (by decide +kernel) (by decide +kernel)
    obtain ⟨G, s0, w, u1, u2, u3, u4⟩ := ht
    have hp : pL 87 = 24 := by decide +kernel
    have fin : ∀ (M2 : pM) (y z : Int), gM gAll M2 → (∀ o k, o ≠ 87 → M2 o k = pset (pset M1 88 i 1) 89 i (M1 60 52) o k) → (∀ t, t < 10 → M2 87 (12 * i + t) = M1 66 t) → (∀ p, (p < 12 * i ∨ 12 * i + 12 ≤ p) → M2 87 p = M1 87 p) → RI0 (pset (pset M2 87 (12 * i + 10) y) 87 (12 * i + 11) z) ∧ Fr wKeep M1 (pset (pset M2 87 (12 * i + 10) y) 87 (12 * i + 11) z) := by
      intro M2 y z g2 f2 c2 d2
      have f3 : Fr wKeep M1 (pset (pset M2 87 (12 * i + 10) y) 87 (12 * i + 11) z) := by
        refine Fr_set (Fr_set (fun o k ho => ?_) (wOK_r (by decide) _)) (wOK_r (by decide) _)
        by_cases q87 : o = 87
        · rw [q87, wOK_r (by decide)] at ho; exact absurd ho (by decide)
        · rw [f2 o k q87]
          by_cases q89 : o = 89
          · rw [q89, wOK_r (by decide)] at ho; exact absurd ho (by decide)
          · rw [pset_ne q89]
            by_cases q88 : o = 88
            · rw [q88, wOK_r (by decide)] at ho; exact absurd ho (by decide)
            · rw [pset_ne q88]
      refine ⟨⟨gMs_set (gMs_set g2 (by rw [(g87 i hi).2.1]; exact Or.inr (Or.inl rfl))) (by rw [(g87 i hi).2.2]; exact Or.inr (Or.inl rfl)), by rw [f3 60 38 (by decide)]; exact s0, WM_Fr f3 (by decide) (by decide) (by decide) (by decide) w, ?_⟩, f3⟩
      refine ⟨fun k hk => ?_, by rw [f3 60 52 (by decide)]; exact u2, by rw [f3 60 52 (by decide), f3 60 0 (by decide), f3 60 3 (by decide)]; exact u3, fun j hj hne => ?_⟩
      · rw [f3 60 33 (by decide)] at hk
        rw [f3 75 _ (wOK_no (by decide) _), f3 60 0 (by decide)]; exact u1 k hk
      · have e88 : ∀ k, pset (pset M2 87 (12 * i + 10) y) 87 (12 * i + 11) z 88 k = if k = i then 1 else M1 88 k := fun k => by
          rw [pset_ne (by decide), pset_ne (by decide), f2 88 k (by decide), pset_ne (by decide)]
          by_cases qk : k = i
          · rw [qk, pset_eq, if_pos rfl]
          · rw [pset_ne2 qk, if_neg qk]
        have e89 : ∀ k, pset (pset M2 87 (12 * i + 10) y) 87 (12 * i + 11) z 89 k = if k = i then M1 60 52 else M1 89 k := fun k => by
          rw [pset_ne (by decide), pset_ne (by decide), f2 89 k (by decide)]
          by_cases qk : k = i
          · rw [qk, pset_eq, if_pos rfl]
          · rw [pset_ne2 qk, if_neg qk, pset_ne (by decide)]
        rw [e88] at hne
        rw [e89, f3 60 52 (by decide), f3 60 3 (by decide), f3 60 0 (by decide)]
        by_cases qj : j = i
        · rw [if_pos qj]
          refine ⟨u2, by omega, fun _ t htt => ?_⟩
          have t0 := gm_i G 60 3 (lo := 0) (hi := 10) (by decide +kernel) (by decide +kernel)
          rw [qj, pset_ne2 (show 12 * i + t ≠ 12 * i + 11 by omega), pset_ne2 (show 12 * i + t ≠ 12 * i + 10 by omega), c2 t (by omega)]
          exact (w.2.2.2.1 t htt).2.2.2
        · rw [if_neg qj] at hne ⊢
          obtain ⟨v1, v2, v3⟩ := u4 j hj hne
          refine ⟨v1, v2, fun e t htt => ?_⟩
          have t0 := gm_i G 60 3 (lo := 0) (hi := 10) (by decide +kernel) (by decide +kernel)
          rw [pset_ne2 (show 12 * j + t ≠ 12 * i + 11 by omega), pset_ne2 (show 12 * j + t ≠ 12 * i + 10 by omega), d2 _ (by omega)]
          exact v3 e t htt
    have key : ∀ (m x : Nat) (M2 : pM), x + m = 10 → gM gAll M2 → (∀ o k, o ≠ 87 → M2 o k = pset (pset M1 88 i 1) 89 i (M1 60 52) o k) → (∀ t, t < x → M2 87 (12 * i + t) = M1 66 t) → (∀ p, (p < 12 * i ∨ 12 * i + 12 ≤ p) → M2 87 p = M1 87 p) → ∃ z M', xE D 266 23 [.inr 62, .inl (i : Int), .inl (x : Int)] [] M2 = rI z M' ∧ RI0 M' ∧ Fr wKeep M1 M' := by
      intro m
      induction m with
      | zero =>
        intro x M2 hx g2 f2 c2 d2
        obtain ⟨r, f⟩ := fin M2 (M2 60 10) (pset M2 87 (12 * i + 10) (M2 60 10) 60 11) g2 f2 (fun t htt => c2 t (by omega)) d2
        rw [L_M_keep_23, if_pos (by rw [le32_iff] <;> omega), if_pos (by omega), if_pos (by omega), show (12 * (i : Int) + 10).toNat = 12 * i + 10 by omega, show (12 * (i : Int) + 10 + 1).toNat = 12 * i + 11 by omega]
        exact ⟨_, _, rfl, r, f⟩
      | succ m ih =>
        intro x M2 hx g2 f2 c2 d2
        have k66 : M2 66 x = M1 66 x := by rw [f2 66 x (by decide), pset_ne (by decide), pset_ne (by decide)]
        have b5 := gm_r G (o := 66) (lo := 0) (hi := 5) (by decide +kernel) (by decide +kernel) (k := x) (show x < 10 by omega)
        rw [L_M_keep_23, if_neg (by rw [le32_iff] <;> omega), if_pos (by omega), if_pos (by omega), show (12 * (i : Int) + (x : Int)).toNat = 12 * i + x by omega, Int.toNat_natCast, k66, show ((x : Int) + 1) = ((x + 1 : Nat) : Int) by omega]
        refine ih (x + 1) _ (by omega) (gMs_set g2 (by rw [(g87 i hi).1 x (by omega)]; exact Or.inl ⟨rfl, b5.1, b5.2⟩)) (fun o k ho => by rw [pset_ne ho]; exact f2 o k ho) (fun t htt => ?_) (fun p hp2 => by rw [pset_ne2 (by omega)]; exact d2 p hp2)
        by_cases qt : t = x
        · rw [qt, pset_eq]
        · rw [pset_ne2 (by omega)]; exact c2 t (by omega)
    obtain ⟨z, M', e1, r1, f1⟩ := key 10 0 _ (by omega) g1 (fun o k ho => rfl) (fun t htt => by omega) (fun p _ => by rw [pset_ne (by decide), pset_ne (by decide)])
    exact ⟨z, M', e1, r1, Fr_tr ft f1⟩
end RT
end
section
/-! judge and day of the reference -/
section RY
variable {D d R T L : Nat} {M M0 M' : pM} {tx : Nat → Int}
def wJg : List (Nat × Nat) := [(60, 11), (60, 16), (60, 17), (66, 999), (69, 999), (74, 999), (77, 999)]
theorem m_jg85 (hD : 1 ≤ D) (x1 x2 x3 x4 x5 x6 : Int) : ∀ (m t : Nat) (M : pM), t + m = T → RI0 M → M 60 3 = (T : Int) → (∀ k, k < T → M 77 k < M 60 0) → ∃ z M', xE D 221 85 [.inr 62, .inl x1, .inl x2, .inl x3, .inl x4, .inl x5, .inl x6, .inl (t : Int)] [] M = rI z M' ∧ RI0 M' ∧ Fr wJg M M' := by
  intro m
  induction m with
  | zero =>
    intro t M ht h h3 h77
    have t0 := gm_i h.1 60 3 (lo := 0) (hi := 10) (by decide +kernel) (by decide +kernel)
    obtain ⟨M1, e1, r1, f1, M2, e2, r2, f2⟩ := m_tell2 (D := D) hD (RI0_16 (RI0_11 h (v := x3))) pset_eq x5 x6
    rw [L_M_judge_85, h3, if_pos (by rw [le32_iff] <;> omega), e1, pbN_rV, e2, pbN_rV]
    exact ⟨_, M2, rfl, r2, Fr_tr (Fr_set (Fr_set Fr_rfl (by decide)) (by decide)) (Fr_mono f2 (by decide))⟩
  | succ m ih =>
    intro t M ht h h3 h77
    have t0 := gm_i h.1 60 3 (lo := 0) (hi := 10) (by decide +kernel) (by decide +kernel)
    have b7 := gm_r h.1 (o := 77) (lo := 0) (hi := 5) (by decide +kernel) (by decide +kernel) (k := t) (show t < 10 by omega)
    rw [L_M_judge_85, h3, if_neg (by rw [le32_iff] <;> omega), if_pos (by omega), if_pos (by omega), Int.toNat_natCast, show ((t : Int) + 1) = ((t + 1 : Nat) : Int) by omega]
    obtain ⟨z, M', e, r, f⟩ := ih (t + 1) (pset M 66 t (M 77 t)) (by omega) (RI0_66 h b7.1 (h77 t (by omega))) (by rw [pset_ne (by decide)]; exact h3) (fun k hk => by rw [pset_ne (by decide), pset_ne (by decide)]; exact h77 k hk)
    exact ⟨z, M', e, r, Fr_tr (Fr_set Fr_rfl (wOK_r (by decide) _)) f⟩
theorem m_jg35 (hD : 3 ≤ D) {n : Nat} (hn : n ≤ 4) (x2 x3 : Int) : ∀ (m k : Nat) (x4 x5 : Int) (y7 : pV) (M : pM), k + m = n → RI0 M → M 60 3 = (T : Int) → M 60 0 = (R : Int) → (∀ k, k < T → M 77 k < M 60 0) → ∃ z M', xE D 221 35 [.inr 62, .inl (n : Int), .inl x2, .inl x3, .inl x4, .inl x5, .inl (k : Int), y7] [] M = rI z M' ∧ RI0 M' ∧ Fr wJg M M' := by
  have fin : ∀ (x1 x4 x5 : Int) (M : pM), RI0 M → M 60 3 = (T : Int) → (∀ k, k < T → M 77 k < M 60 0) → ∃ z M', (pbI (xF D 212 [.inr 62, .inr 68] M) fun v2 M1 =>
 if eq32 v2 0 then
 xE D 221 85 [.inr 62, .inl x1, .inl x2, .inl x3, .inl x4, .inl x5, .inl 0, .inl 0] [] M1
 else
 xE D 221 85 [.inr 62, .inl x1, .inl x2, .inl x3, .inl x4, .inl x5, .inl 1, .inl 0] [] M1) = rI z M' ∧ RI0 M' ∧ Fr wJg M M' := by
    intro x1 x4 x5 M h h3 h77
    obtain ⟨z, e⟩ := m_law66 (d := D) (by omega) h.1
    rw [e, pbI_rI]
    by_cases q : eq32 z 0
    · rw [if_pos q]; exact m_jg85 (by omega) x1 x2 x3 x4 x5 0 T 0 M (by omega) h h3 h77
    · rw [if_neg q]; exact m_jg85 (by omega) x1 x2 x3 x4 x5 1 T 0 M (by omega) h h3 h77
  intro m
  induction m with
  | zero =>
    intro k x4 x5 y7 M hk h h3 h0 h77
    rw [L_M_judge_35, if_pos (by rw [le32_iff] <;> omega)]
    exact fin _ _ _ M h h3 h77
  | succ m ih =>
    intro k x4 x5 y7 M hk h h3 h0 h77
    rw [L_M_judge_35, if_neg (by rw [le32_iff] <;> omega)]
    by_cases q : eq32 x4 (-2)
    · have t0 := gm_i h.1 60 3 (lo := 0) (hi := 10) (by decide +kernel) (by decide +kernel)
      have r0 := gm_i h.1 60 0 (lo := 0) (hi := 6) (by decide +kernel) (by decide +kernel)
      have ra : -2147483648 ≤ jdiv (jand (jshr x2 (7 * (k : Int))) 127) 10 := r32a _
      have rb : jdiv (jand (jshr x2 (7 * (k : Int))) 127) 10 < 2147483648 := r32b _
      have rc : -2147483648 ≤ jrem (jand (jshr x2 (7 * (k : Int))) 127) 10 := r32a _
      have rd : jrem (jand (jshr x2 (7 * (k : Int))) 127) 10 < 2147483648 := r32b _
      rw [if_neg (fun z => z q)]
      generalize jdiv (jand (jshr x2 (7 * (k : Int))) 127) 10 = p at ra rb ⊢
      generalize jrem (jand (jshr x2 (7 * (k : Int))) 127) 10 = r at rc rd ⊢
      obtain ⟨z, M1, e1, g1, f1, alt⟩ := m_refusal (d := D) (by omega) ra rb rc rd h.1 h0 h3
      have h1 : RI0 M1 := RI0_Fr g1 f1 (by decide) h
      have k3 : M1 60 3 = (T : Int) := by rw [f1 60 3 (by decide)]; exact h3
      have k0 : M1 60 0 = (R : Int) := by rw [f1 60 0 (by decide)]; exact h0
      have k77 : ∀ k, k < T → M1 77 k < M1 60 0 := fun k hk => by rw [f1 77 k (wOK_no (by decide) k), f1 60 0 (by decide)]; exact h77 k hk
      rw [e1, pbI_rI, show ((k : Int) + 1) = ((k + 1 : Nat) : Int) by omega]
      rcases alt with q | ⟨rfl, q1, q2⟩
      · rw [if_neg (by rcases q with rfl | rfl | rfl <;> decide)]
        obtain ⟨z, M', e, rr, f⟩ := ih (k + 1) (k : Int) x5 (.inl (jand (jshr x2 (7 * (k : Int))) 127)) M1 (by omega) h1 k3 k0 k77
        exact ⟨z, M', e, rr, Fr_tr (Fr_mono f1 (by decide)) f⟩
      · obtain ⟨x, rfl⟩ := natI q1.1
        obtain ⟨y, rfl⟩ := natI q2.1
        obtain ⟨v, M3, e3, h4, f3⟩ := m_carries (d := D) (by omega) (b := x) (c := y) (by omega) (by omega) h1
        rw [if_pos (by decide), e3, pbI_rI]
        obtain ⟨z, M', e, rr, f⟩ := ih (k + 1) x4 (x5 + v) (.inl (jand (jshr x2 (7 * (k : Int))) 127)) M3 (by omega) h4 (by rw [f3 60 3 (by decide)]; exact k3) (by rw [f3 60 0 (by decide)]; exact k0) (fun k hk => by rw [f3 77 k (wOK_no (by decide) k), f3 60 0 (by decide)]; exact k77 k hk)
        exact ⟨z, M', e, rr, Fr_tr (Fr_mono f1 (by decide)) (Fr_tr (Fr_mono f3 (by decide)) f)⟩
    · rw [if_pos q]
      exact fin _ _ _ M h h3 h77
theorem r_judge {d : Nat} (hd : 4 ≤ d) {b c : Int} (hb1 : -2147483648 ≤ b) (hb2 : b ≤ 2147483647) (h : RI0 M) : okR d 221 [.inr 62, .inl b, .inl c] wJg M := by
  obtain ⟨D, rfl, hD⟩ := dsucc hd
  have ht := RI0_thr h
  have r0 := gm_i ht.1 60 0 (lo := 0) (hi := 6) (by decide +kernel) (by decide +kernel)
  have t0 := gm_i ht.1 60 3 (lo := 0) (hi := 10) (by decide +kernel) (by decide +kernel)
  obtain ⟨R, hR⟩ := natI r0.1
  obtain ⟨T, hT⟩ := natI t0.1
  have ft : Fr wJg M (pset M 60 17 0) := Fr_set Fr_rfl (by decide)
  unfold okR
  rw [T_M_judge, m_in (by omega), pbI_rI]
  generalize pset M 60 17 0 = M1 at ht r0 t0 hR hT ft ⊢
  by_cases q : lt32 b 0 ∨ lt32 4 b
  · rw [if_pos q, if_neg (fun z => z rfl)]; exact ⟨_, M1, rfl, ht, ft⟩
  · have n1 : ¬ lt32 b 0 := fun z => q (Or.inl z)
    have n2 : ¬ lt32 4 b := fun z => q (Or.inr z)
    rw [lt32_iff (by omega) (by omega) (by omega) (by omega)] at n1 n2
    obtain ⟨n, rfl⟩ := natI (show 0 ≤ b by omega)
    rw [if_neg q, if_pos (by decide)]
    have key : ∀ (m x : Nat) (M2 : pM), x + m = T → RI0 M2 → M2 60 3 = (T : Int) → M2 60 0 = (R : Int) → Fr wJg M1 M2 → (∀ k, k < x → M2 77 k < (R : Int)) → ∃ z M', xE D 221 12 [.inr 62, .inl (n : Int), .inl c, .inl (x : Int), .inr 0, .inr 0, .inr 0, .inr 0] [] M2 = rI z M' ∧ RI0 M' ∧ Fr wJg M1 M' := by
      intro m
      induction m with
      | zero =>
        intro x M2 hx g k3 k0 f k7
        rw [L_M_judge_12, k3, if_pos (by rw [le32_iff] <;> omega)]
        obtain ⟨z, M', e, r, f2⟩ := m_jg35 (D := D) (R := R) (T := T) (by omega) (n := n) (by omega) c (M2 60 11) n 0 (-2) 0 (.inr 0) M2 (by omega) g k3 k0 (fun k hk => by rw [k0]; exact k7 k (by omega))
        exact ⟨z, M', e, r, Fr_tr f f2⟩
      | succ m ih =>
        intro x M2 hx g k3 k0 f k7
        have b5 := gm_r g.1 (o := 66) (lo := 0) (hi := 5) (by decide +kernel) (by decide +kernel) (k := x) (show x < 10 by omega)
        have w := (g.2.2.1.2.2.2.1 x (by omega)).2.2.2
        rw [L_M_judge_12, k3, if_neg (by rw [le32_iff] <;> omega), if_pos (by omega), if_pos (by omega), Int.toNat_natCast, show ((x : Int) + 1) = ((x + 1 : Nat) : Int) by omega]
        refine ih (x + 1) _ (by omega) (RI0_Fr (w := [(77, 999)]) (gM_r g.1 (lo := 0) (hi := 5) (by decide +kernel) (by decide +kernel) b5.1 b5.2) (Fr_set Fr_rfl (wOK_r (by decide) _)) (by decide) g) (by rw [pset_ne (by decide)]; exact k3) (by rw [pset_ne (by decide)]; exact k0) (Fr_set f (wOK_r (by decide) _)) (fun k hk => ?_)
        by_cases qk : k = x
        · rw [qk, pset_eq]; omega
        · rw [pset_ne2 qk]; exact k7 k (by omega)
    obtain ⟨z, M', e, r, f⟩ := key T 0 M1 (by omega) ht hT hR Fr_rfl (fun k hk => by omega)
    exact ⟨z, M', e, r, Fr_tr ft f⟩
/-! day -/
def wPs : List (Nat × Nat) := [(60, 14), (60, 17), (60, 18), (60, 19), (60, 20), (60, 21), (60, 22), (76, 999)]
def wDay : List (Nat × Nat) := [(60, 10), (60, 11), (60, 14), (60, 16), (60, 17), (60, 18), (60, 19), (60, 20), (60, 21), (60, 22), (60, 33), (66, 999), (69, 999), (74, 999), (75, 999), (76, 999)]
def dP (M0 : pM) (e : Option pR) : Prop := ∃ z M', e = rI z M' ∧ RI0 M' ∧ Fr wDay M0 M' ∧ M' 60 14 = 0
theorem m_day96 (hD : 4 ≤ D) {n : Nat} (hn : n ≤ 11) (x2 : Int) : ∀ (m k : Nat) (x4 : Int) (M : pM), k + m = n → RI0 M → M 60 3 = (T : Int) → M 60 0 = (R : Int) → M 60 14 = 0 → Fr wDay M0 M → dP M0 (xE D 219 96 [.inr 62, .inl (n : Int), .inl x2, .inl (k : Int), .inl x4] [] M) := by
  intro m
  induction m with
  | zero =>
    intro k x4 M hk h h3 h0 h14 F
    obtain ⟨z, M1, e1, r1, f1, hz⟩ := m_goEv (d := D) (by omega) (RI0_16 h)
    have k16 : M1 60 16 = 0 := by rw [f1 60 16 (by decide), pset_eq]
    have F1 : Fr wDay M0 M1 := Fr_tr F (Fr_tr (Fr_set (w := wDay) Fr_rfl (by decide)) (Fr_mono f1 (by decide)))
    have k14 : M1 60 14 = 0 := by rw [f1 60 14 (by decide), pset_ne2 (by decide)]; exact h14
    rw [L_M_day_96, if_pos (by rw [le32_iff] <;> omega), if_pos (by rw [le32_iff] <;> omega), e1, pbI_rI]
    by_cases q : eq32 z 0
    · obtain ⟨M2, e2, -, -, M3, e3, r3, f3⟩ := m_tell2 (D := D) (by omega) r1 k16 0 x4
      rw [if_pos q, e2, pbN_rV, e3, pbN_rV]
      exact ⟨_, M3, rfl, r3, Fr_tr F1 (Fr_mono f3 (by decide)), by rw [f3 60 14 (by decide)]; exact k14⟩
    · obtain ⟨M2, e2, -, -, M3, e3, r3, f3⟩ := m_tell2 (D := D) (by omega) r1 k16 1 x4
      rw [if_neg q, e2, pbN_rV, e3, pbN_rV]
      exact ⟨_, M3, rfl, r3, Fr_tr F1 (Fr_mono f3 (by decide)), by rw [f3 60 14 (by decide)]; exact k14⟩
  | succ m ih =>
    intro k x4 M hk h h3 h0 h14 F
    have t0 := gm_i h.1 60 3 (lo := 0) (hi := 10) (by decide +kernel) (by decide +kernel)
    have b1 := gm_r h.1 (o := 76) (lo := -1000) (hi := 1000) (by decide +kernel) (by decide +kernel) (k := 2 * k) (show 2 * k < 80 by omega)
    have b2 := gm_r h.1 (o := 76) (lo := -1000) (hi := 1000) (by decide +kernel) (by decide +kernel) (k := 2 * k + 1) (show 2 * k + 1 < 80 by omega)
    have i1 : (0 : Int) ≤ 2 * (k : Int) ∧ 2 * (k : Int) < 80 := by omega
    have i2 : (0 : Int) ≤ 2 * (k : Int) + 1 ∧ 2 * (k : Int) + 1 < 80 := by omega
    obtain ⟨z, M1, e1, g1, f1, alt⟩ := m_refusal (d := D) (by omega) (b := M 76 (2 * k)) (c := M 76 (2 * k + 1)) (by omega) (by omega) (by omega) (by omega) h.1 h0 h3
    have h1 : RI0 M1 := RI0_Fr g1 f1 (by decide) h
    have k3 : M1 60 3 = (T : Int) := by rw [f1 60 3 (by decide)]; exact h3
    have k0 : M1 60 0 = (R : Int) := by rw [f1 60 0 (by decide)]; exact h0
    have k14 : M1 60 14 = 0 := by rw [f1 60 14 (by decide)]; exact h14
    have k76 : ∀ i, M1 76 i = M 76 i := fun i => f1 76 i (wOK_no (by decide) i)
    have F1 : Fr wDay M0 M1 := Fr_tr F (Fr_mono f1 (by decide))
    rw [L_M_day_96, if_neg (by rw [le32_iff] <;> omega), if_pos i1, if_pos i2, show (2 * (k : Int)).toNat = 2 * k by omega, show (2 * (k : Int) + 1).toNat = 2 * k + 1 by omega, e1, pbI_rI]
    rcases alt with q | ⟨rfl, q1, q2⟩
    · obtain ⟨M2, e2, -, -, M3, e3, r3, f3⟩ := m_tell2 (D := D) (by omega) (RI0_16 h1) pset_eq (-1) x4
      rw [if_pos (by rcases q with rfl | rfl | rfl <;> decide), if_neg (by rw [le32_iff] <;> omega), e2, pbN_rV, e3, pbN_rV]
      exact ⟨_, M3, rfl, r3, Fr_tr F1 (Fr_tr (Fr_set (w := wDay) Fr_rfl (by decide)) (Fr_mono f3 (by decide))), by rw [f3 60 14 (by decide), pset_ne2 (by decide)]; exact k14⟩
    · obtain ⟨x, hx⟩ := natI q1.1
      obtain ⟨y, hy⟩ := natI q2.1
      obtain ⟨M2, e2, h2, f2⟩ := m_remember (d := D) (by omega) (b := x) (by omega) (h1.2.2.1.2.2.2.1 x (by omega)).2.2.2 h1
      obtain ⟨v, M3, e3, h4, f3⟩ := m_carries (d := D) (by omega) (b := x) (c := y) (by omega) (by rw [f2 60 0 (by decide), k0]; omega) h2
      have k762 : ∀ i, M2 76 i = M 76 i := fun i => (f2 76 i (wOK_no (by decide) i)).trans (k76 i)
      rw [if_neg (fun z => z rfl), if_pos i1, k76, hx, e2, pbN_rV, if_pos i1, if_pos i2, k762, k762, hx, hy, e3, pbI_rI, show ((k : Int) + 1) = ((k + 1 : Nat) : Int) by omega]
      exact ih (k + 1) _ M3 (by omega) h4 (by rw [f3 60 3 (by decide), f2 60 3 (by decide)]; exact k3) (by rw [f3 60 0 (by decide), f2 60 0 (by decide)]; exact k0) (by rw [f3 60 14 (by decide), f2 60 14 (by decide)]; exact k14) (Fr_tr F1 (Fr_tr (Fr_mono f2 (by decide)) (Fr_mono f3 (by decide))))
theorem Fr_AGr {M1 M2 : pM} (a : AGr M1 M2) : Fr wPs M1 M2 := fun o i q => a o i (fun z => by
  obtain ⟨rfl, rfl | rfl⟩ := z <;> exact absurd q (by decide))
theorem m_hereA (hd : 1 ≤ d) {top : Nat} {s : rgs} (h : RSt tx L top M s) : ∃ v, xF d 178 [.inr 62] M = rI v M ∧ -128 ≤ v ∧ v ≤ 127 := by
  obtain ⟨D, rfl, -⟩ := dsucc hd
  obtain ⟨h1, h2, h3, h4, h5, h6, h7, h8, h9, h10⟩ := h
  obtain ⟨p, hp⟩ := natI h8
  rw [T_M_here, h2, h3, hp]
  by_cases q1 : L ≤ p
  · rw [if_pos (by rw [le32_iff] <;> omega)]; exact ⟨_, rfl, by decide, by decide⟩
  · rw [if_neg (by rw [le32_iff] <;> omega)]
    by_cases q2 : top ≤ p
    · rw [if_pos (by rw [le32_iff] <;> omega)]; exact ⟨_, rfl, by decide, by decide⟩
    · rw [if_neg (by rw [le32_iff] <;> omega), h1, show (70 : Int).toNat = 70 from rfl, m_here12, hp, if_pos (by omega), Int.toNat_natCast, h6 p (by omega)]
      exact ⟨_, rfl, (h7 p (by omega)).1, (h7 p (by omega)).2⟩
/-- what was read stands or not, and then the carrying -/
theorem m_dayV (hD : 4 ≤ D) {n : Nat} (hn : n ≤ 11) (x2 : Int) {s : rgs} (h : RSt tx L 40 M s) (hM : gM gAll M) (R0 : RI0 M0) (F : Fr wPs M0 M) (h14 : M 60 14 = 0) : dP M0 (pbI (xF D 179 [.inr 62] M) fun v2 M1 => if ¬ eq32 v2 0 then xE D 219 96 [.inr 62, .inl (n : Int), .inl x2, .inl 0, .inl 0] [] M1 else some (some (.inl ((-1) - (M1 60 22))), M1)) := by
  have r0 := gm_i hM 60 0 (lo := 0) (hi := 6) (by decide +kernel) (by decide +kernel)
  have t0 := gm_i hM 60 3 (lo := 0) (hi := 10) (by decide +kernel) (by decide +kernel)
  obtain ⟨R, hR⟩ := natI r0.1
  obtain ⟨T, hT⟩ := natI t0.1
  have r : RI0 M := RI0_Fr hM F (by decide) R0
  have F1 : Fr wDay M0 M := Fr_mono F (by decide)
  cases s with
  | inl p =>
    rw [m_fineB (by omega) h, pbI_rI, if_neg (fun z => z rfl)]
    exact ⟨_, M, rfl, r, F1, h14⟩
  | inr a =>
    rw [m_fineG (by omega) h, pbI_rI, if_pos (by decide)]
    exact m_day96 hD hn x2 n 0 0 M (by omega) r hT hR h14 F1
theorem m_dayE (hD : 4 ≤ D) {n : Nat} (hn : n ≤ 11) {s : rgs} (h : RSt tx L 40 M s) (hM : gM gAll M) (R0 : RI0 M0) (F : Fr wPs M0 M) (h14 : M 60 14 = 0) : dP M0 (xE D 219 22 [.inr 62, .inl (n : Int), .inl 0, .inr 0, .inr 0] [] M) := by
  rw [L_M_day_22, if_pos rfl]
  by_cases q : le32 (M 60 19) (M 60 21)
  · rw [if_pos q]; exact m_dayV hD hn 0 h hM R0 F h14
  · rw [if_neg q]
    cases s with
    | inl p => rw [m_faultB (by omega) h, pbN_rV]; exact m_dayV hD hn 0 h hM R0 F h14
    | inr a =>
      have h11 := h.2.2.2.2.2.2.2.2.2.2.1
      obtain ⟨e, r⟩ := m_faultG (d := D) (by omega) h (p := a) (by omega)
      rw [h.2.2.2.2.2.2.2.2.2.1, e, pbN_rV]
      exact m_dayV hD hn 0 r (gM_RSt hM (AGr_bad AGr_rfl) r) R0 (Fr_tr F (Fr_AGr (AGr_bad AGr_rfl))) (by rw [pset_ne2 (by decide)]; exact h14)
/-- behind a thing's letter -/
theorem m_dayS (hD : 4 ≤ D) {n a : Nat} (hn : n ≤ 10) {s : rgs} (h : RSt tx L 40 M s) (hs : ∀ b, s = .inr b → b = a) (hM : gM gAll M) (R0 : RI0 M0) (F : Fr wPs M0 M) (h14 : M 60 14 = 0) (ih : ∀ M3, RSt tx L 40 M3 (.inr (a + 3)) → a + 3 ≤ 40 → gM gAll M3 → Fr wPs M0 M3 → M3 60 14 = 0 → dP M0 (xE D 219 22 [.inr 62, .inl ((n + 1 : Nat) : Int), .inl 1, .inr 0, .inr 0] [] M3)) : dP M0 (pbN (xF D 182 [.inr 62, .inl 62] M) fun M19 => pbI (xF D 183 [.inr 62, .inl 1, .inl 0, .inl 9] M19) fun v21 M20 => if 0 ≤ (2 * (n : Int)) + 1 ∧ (2 * (n : Int)) + 1 < 80 then pbI (xF D 181 [.inr 62, .inl 59] (pset M20 76 (((2 * (n : Int)) + 1).toNat) v21)) fun v23 M22 => xE D 219 22 [.inr 62, .inl ((n + 1 : Nat) : Int), .inl v23, .inr 0, .inr 0] [] M22 else none) := by
  obtain ⟨M1, e1, r1, a1⟩ := m_need (d := D) (by omega) h (c := 62) (by decide) (by decide)
  have g1 := gM_RSt hM a1 r1
  obtain ⟨M2, e2, r2, a2⟩ := m_num1 (d := D) (by omega) r1 (lo := 0) (hi := 9) (by decide) (by decide) (by decide) (by decide)
  have g2 := gM_RSt g1 a2 r2
  have hv := sgV_range (tx := tx) (st := min L 40) (lo := 0) (hi := 9) (by decide) (Or.inl (by decide)) (sgN tx (min L 40) 62 s)
  have r3 := RSt_ne (v := sgV tx (min L 40) 0 9 (sgN tx (min L 40) 62 s)) (o := 76) (i := 2 * n + 1) r2 (by decide) (by decide)
  have g3 : gM gAll (pset M2 76 (2 * n + 1) (sgV tx (min L 40) 0 9 (sgN tx (min L 40) 62 s))) := gM_r g2 (lo := -1000) (hi := 1000) (by decide +kernel) (by decide +kernel) (by omega) (by omega)
  have F3 : Fr wPs M0 (pset M2 76 (2 * n + 1) (sgV tx (min L 40) 0 9 (sgN tx (min L 40) 62 s))) := Fr_set (Fr_tr F (Fr_tr (Fr_AGr a1) (Fr_AGr a2))) (wOK_r (by decide) _)
  have k14 : (pset M2 76 (2 * n + 1) (sgV tx (min L 40) 0 9 (sgN tx (min L 40) 62 s))) 60 14 = 0 := by
    rw [pset_ne (by decide), a2 60 14 (by decide), a1 60 14 (by decide)]; exact h14
  rw [e1, pbN_rV, e2, pbI_rI, if_pos (by omega), show (2 * (n : Int) + 1).toNat = 2 * n + 1 by omega]
  generalize hs4 : sgD tx (min L 40) 0 9 (sgN tx (min L 40) 62 s) = s4 at r3
  cases s4 with
  | inl p =>
    rw [m_passesB (by omega) r3, pbI_rI]
    exact m_dayE hD (n := n + 1) (by omega) r3 g3 R0 F3 k14
  | inr b =>
    obtain ⟨b1, hb1, hb2, -⟩ := sgD_inr hs4
    obtain ⟨b0, hb3, hb4, -⟩ := sgN_inr hb1
    have hb5 := hs b0 hb3
    rw [m_passesG (by omega) r3 (by decide) (by decide)]
    by_cases q : hc tx (min L 40) b = 59
    · have hlt : b < min L 40 := hc_lt (tx := tx) (st := min L 40) (by rw [q]; decide)
      have r4 := RSt_next r3 hlt
      rw [if_pos q, pbI_rI]
      rw [show b = a + 2 by omega] at r4 hlt ⊢
      exact ih _ r4 (by omega) (gM_RSt g3 (AGr_at AGr_rfl) r4) (Fr_tr F3 (Fr_AGr (AGr_at AGr_rfl))) (by rw [pset_ne2 (by decide)]; exact k14)
    · rw [if_neg q, pbI_rI]
      exact m_dayE hD (n := n + 1) (by omega) r3 g3 R0 F3 k14
theorem m_day22 (hD : 4 ≤ D) (R0 : RI0 M0) : ∀ (m n a : Nat) (M : pM), 4 * n + m = 44 → 4 * n ≤ a → a ≤ 40 → RSt tx L 40 M (.inr a) → gM gAll M → Fr wPs M0 M → M 60 14 = 0 → dP M0 (xE D 219 22 [.inr 62, .inl (n : Int), .inl 1, .inr 0, .inr 0] [] M) := by
  intro m
  induction m using Nat.strongRecOn with
  | ind m ih =>
    intro n a M hm hna ha h hM F h14
    have b21 := h.2.2.2.2.2.2.2.2.2.1
    have i1 : (0 : Int) ≤ 2 * (n : Int) ∧ 2 * (n : Int) < 80 := by omega
    rw [L_M_day_22, if_neg (by decide), m_fineG (by omega) h, pbI_rI, if_neg (by decide), m_here (by omega) h, pbI_rI]
    have hr := hc_range h a
    rw [m_inD (by omega) (by omega) (by omega) (by decide) (by decide) (by decide) (by decide), pbI_rI, show ((n : Int) + 1) = ((n + 1 : Nat) : Int) by omega]
    have nx : ∀ M3, RSt tx L 40 M3 (.inr (a + 1 + 3)) → a + 1 + 3 ≤ 40 → gM gAll M3 → Fr wPs M0 M3 → M3 60 14 = 0 → dP M0 (xE D 219 22 [.inr 62, .inl ((n + 1 : Nat) : Int), .inl 1, .inr 0, .inr 0] [] M3) := fun M3 r3 h40 g3 f3 k3 => ih (m - 4) (by omega) (n + 1) (a + 1 + 3) M3 (by omega) (by omega) h40 r3 g3 f3 k3
    by_cases q : 97 ≤ hc tx (min L 40) a ∧ hc tx (min L 40) a ≤ 106
    · have hlt : a < min L 40 := hc_lt (tx := tx) (st := min L 40) (by omega)
      have r1 := RSt_ne (v := hc tx (min L 40) a - 97) (o := 76) (i := 2 * n) h (by decide) (by decide)
      have g1 : gM gAll (pset M 76 (2 * n) (hc tx (min L 40) a - 97)) := gM_r hM (lo := -1000) (hi := 1000) (by decide +kernel) (by decide +kernel) (by omega) (by omega)
      have r2 := RSt_next r1 hlt
      rw [if_pos q, if_pos (by decide), m_here (by omega) h, pbI_rI, if_pos i1, show (2 * (n : Int)).toNat = 2 * n by omega, pset_ne (show 60 ≠ 76 by decide), b21]
      exact m_dayS hD (by omega) r2 (fun b hb => by cases hb; rfl) (gM_RSt g1 (AGr_at AGr_rfl) r2) R0 (Fr_tr (Fr_set F (wOK_r (by decide) _)) (Fr_AGr (AGr_at AGr_rfl))) (by rw [pset_ne2 (by decide), pset_ne (by decide)]; exact h14) nx
    · obtain ⟨e, r⟩ := m_faultG (d := D) (by omega) h (p := a) (by omega)
      obtain ⟨v, ev, v1, v2⟩ := m_hereA (d := D) (by omega) r
      have r1 := RSt_ne (v := v - 97) (o := 76) (i := 2 * n) r (by decide) (by decide)
      have g0 := gM_RSt hM (AGr_bad AGr_rfl) r
      have g1 : gM gAll (pset (pset M 60 22 (a : Int)) 76 (2 * n) (v - 97)) := gM_r g0 (lo := -1000) (hi := 1000) (by decide +kernel) (by decide +kernel) (by omega) (by omega)
      have r2 : RSt tx L 40 (pset (pset (pset M 60 22 (a : Int)) 76 (2 * n) (v - 97)) 60 21 ((a : Int) + 1)) (.inl a) := by
        obtain ⟨h1, h2, h3, h4, h5, h6, h7, h8, h9, h10⟩ := r1
        exact ⟨by rw [pset_ne2 (by decide)]; exact h1, by rw [pset_ne2 (by decide)]; exact h2, by rw [pset_ne2 (by decide)]; exact h3, h4, h5, fun i hi => by rw [pset_ne (by decide)]; exact h6 i hi, h7, by rw [pset_eq]; omega, by rw [pset_eq]; omega, by rw [pset_ne2 (by decide)]; exact h10.1, h10.2⟩
      rw [if_neg q, if_neg (fun z => z rfl), b21, e, pbN_rV, ev, pbI_rI, if_pos i1, show (2 * (n : Int)).toNat = 2 * n by omega, pset_ne (show 60 ≠ 76 by decide), pset_ne2 (show 21 ≠ 22 by decide), b21]
      exact m_dayS hD (by omega) r2 (fun b hb => by cases hb) (gM_RSt g1 (AGr_at AGr_rfl) r2) R0 (Fr_tr (Fr_set (Fr_tr F (Fr_AGr (AGr_bad AGr_rfl))) (wOK_r (by decide) _)) (Fr_AGr (AGr_at AGr_rfl))) (by rw [pset_ne2 (by decide), pset_ne (by decide), pset_ne2 (by decide)]; exact h14) nx
theorem r_day {d : Nat} (hd : 5 ≤ d) (h : RI0 M) : dP M (xF d 219 [.inr 62] M) := by
  obtain ⟨D, rfl, hD⟩ := dsucc hd
  obtain ⟨D', rfl, -⟩ := dsucc (show 1 ≤ D by omega)
  have hM := h.1
  have b0 := gm_i hM 60 14 (lo := 0) (hi := 80) (by decide +kernel) (by decide +kernel)
  obtain ⟨L, hL⟩ := natI b0.1
  have htx : ∀ i, i < 80 → -128 ≤ M 68 i ∧ M 68 i ≤ 127 := fun i hi => gm_r hM (o := 68) (lo := -128) (hi := 127) (by decide +kernel) (by decide +kernel) (show i < 80 from hi)
  rw [T_M_day, T_M_begin_68, pbN_rV]
  generalize hB : pset (pset (pset (pset (pset (pset (pset M 60 17 0) 60 18 70) 60 19 (pset M 60 17 0 60 14)) 60 20 40) 60 21 0) 60 22 (-1)) 60 14 0 = MB
  have hBo : ∀ o i, ¬ (o = 60 ∧ (i = 14 ∨ i = 17 ∨ i = 18 ∨ i = 19 ∨ i = 20 ∨ i = 21 ∨ i = 22)) → MB o i = M o i := fun o i q => by
    rw [← hB]
    unfold pset
    rw [if_neg (fun z => q ⟨z.1, by omega⟩), if_neg (fun z => q ⟨z.1, by omega⟩), if_neg (fun z => q ⟨z.1, by omega⟩), if_neg (fun z => q ⟨z.1, by omega⟩), if_neg (fun z => q ⟨z.1, by omega⟩), if_neg (fun z => q ⟨z.1, by omega⟩), if_neg (fun z => q ⟨z.1, by omega⟩)]
  have e14 : MB 60 14 = 0 := by rw [← hB, pset_eq]
  have e19 : MB 60 19 = (L : Int) := by
    rw [← hB, pset_ne2 (by decide), pset_ne2 (by decide), pset_ne2 (by decide), pset_ne2 (by decide), pset_eq, pset_ne2 (by decide)]; exact hL
  have gB : gM gAll MB := by
    rw [← hB]
    refine gM_f (gM_f (gM_f (gM_f (gM_f (gM_f (gM_thr hM) (lo := 0) (hi := 200) (by decide +kernel) (by omega) (by omega)) (lo := 0) (hi := 80) (by decide +kernel) ?_ ?_) (lo := 0) (hi := 80) (by decide +kernel) (by omega) (by omega)) (lo := 0) (hi := 80) (by decide +kernel) (by omega) (by omega)) (lo := -1) (hi := 80) (by decide +kernel) (by omega) (by omega)) (lo := 0) (hi := 80) (by decide +kernel) (by omega) (by omega)
    · rw [pset_ne2 (by decide)]; omega
    · rw [pset_ne2 (by decide)]; omega
  have fB : Fr wPs M MB := fun o i q => hBo o i (fun z => by
    obtain ⟨rfl, z⟩ := z
    rcases z with rfl | rfl | rfl | rfl | rfl | rfl | rfl <;> exact absurd q (by decide))
  have rB : RSt (fun i => M 68 i) L 40 MB (.inr 0) := by
    refine ⟨?_, e19, ?_, by omega, by decide, fun i hi => hBo 68 i (by omega), htx, ?_, ?_, ?_, by omega, ?_⟩
    · rw [← hB, pset_ne2 (by decide), pset_ne2 (by decide), pset_ne2 (by decide), pset_ne2 (by decide), pset_ne2 (by decide), pset_eq]
    · rw [← hB, pset_ne2 (by decide), pset_ne2 (by decide), pset_ne2 (by decide), pset_eq]; rfl
    · rw [← hB, pset_ne2 (by decide), pset_ne2 (by decide), pset_eq]; decide
    · rw [← hB, pset_ne2 (by decide), pset_ne2 (by decide), pset_eq]; decide
    · rw [← hB, pset_ne2 (by decide), pset_ne2 (by decide), pset_eq]; rfl
    · rw [← hB, pset_ne2 (by decide), pset_eq]
  by_cases q : le32 (MB 60 19) 0
  · rw [if_pos q]; exact m_dayE (by omega) (n := 0) (by decide) rB gB h fB e14
  · rw [if_neg q]; exact m_day22 (by omega) h 44 0 0 MB (by omega) (by omega) (by omega) rB gB fB e14
end RY
end
section
/-! build of the reference gives the sizes back -/
def wBu : List (Nat × Nat) := [(60, 16), (60, 17), (60, 30), (60, 39), (60, 40), (69, 999), (72, 999), (73, 999), (78, 999), (79, 999)]
section BU
variable {D R : Nat} {M : pM}
theorem m_be27 (hD : 100 ≤ D) (h1 : 1 ≤ R) (h6 : R ≤ 6) (x1 : Int) {r x2 : Nat} (hr : r < R) (h2 : x2 ≤ 100) : ∀ n (a b : Nat) (y6 : pV) (M : pM), gM gAll M → M 60 0 = (R : Int) → a ≤ b → b ≤ 100 → b - a ≤ n → ∃ (z1 : Int) (z2 : Nat) (y4 y5 y6' : pV) (M' : pM), z2 ≤ 100 ∧ gM gAll M' ∧ Fr wBu M M' ∧ xE D 248 27 [.inr 62, .inl x1, .inl (x2 : Int), .inl (r : Int), .inl (a : Int), .inl (b : Int), y6] [] M = xE D 248 19 [.inr 62, .inl z1, .inl (z2 : Int), .inl ((r : Int) + 1), y4, y5, y6'] [] M' := by
  have fin : ∀ (a b : Nat) (y6 : pV) (M : pM), gM gAll M → a ≤ 100 → b ≤ 100 → b ≤ a → ∃ (z1 : Int) (z2 : Nat) (y4 y5 y6' : pV) (M' : pM), z2 ≤ 100 ∧ gM gAll M' ∧ Fr wBu M M' ∧ xE D 248 27 [.inr 62, .inl x1, .inl (x2 : Int), .inl (r : Int), .inl (a : Int), .inl (b : Int), y6] [] M = xE D 248 19 [.inr 62, .inl z1, .inl (z2 : Int), .inl ((r : Int) + 1), y4, y5, y6'] [] M' := by
    intro a b y6 M hM ha hb hab
    rw [L_M_build_27, if_pos (by rw [le32_iff] <;> omega)]
    by_cases q : lt32 (a : Int) (x2 : Int)
    · rw [if_pos q]
      exact ⟨r, a, .inl (a : Int), .inl (b : Int), y6, M, ha, hM, Fr_rfl, rfl⟩
    · rw [if_neg q]
      exact ⟨x1, x2, .inl (a : Int), .inl (b : Int), y6, M, h2, hM, Fr_rfl, rfl⟩
  intro n
  induction n with
  | zero => intro a b y6 M hM h0 hab hb hn; exact fin a b y6 M hM (by omega) hb (by omega)
  | succ n ih =>
    intro a b y6 M hM h0 hab hb hn
    by_cases e : b ≤ a
    · exact fin a b y6 M hM (by omega) hb e
    · have em : jdiv ((a : Int) + (b : Int)) 2 = (((a + b) / 2 : Nat) : Int) := by
        rw [show (a : Int) + (b : Int) = ((a + b : Nat) : Int) by omega, show (2 : Int) = ((2 : Nat) : Int) from rfl, jdiv_nat (by omega) (by omega) (by omega)]
      obtain ⟨v, M1, e1, g1, f1⟩ := m_enough (d := D) (by omega) (r := r) (by omega) (((a + b) / 2 : Nat) : Int) hM ⟨by omega, by omega⟩
      have f2 : Fr wBu M M1 := Fr_mono f1 (by decide)
      rw [L_M_build_27, if_neg (by rw [le32_iff] <;> omega), em, e1, pbI_rI]
      by_cases q : eq32 v 0
      · rw [if_pos q, show (((a + b) / 2 : Nat) : Int) + 1 = (((a + b) / 2 + 1 : Nat) : Int) by omega]
        obtain ⟨z1, z2, y4, y5, y6', M', c1, c2, c3, c4⟩ := ih ((a + b) / 2 + 1) b (.inl (((a + b) / 2 : Nat) : Int)) M1 g1 (by rw [f1 60 0 (by decide)]; exact h0) (by omega) hb (by omega)
        exact ⟨z1, z2, y4, y5, y6', M', c1, c2, Fr_tr f2 c3, c4⟩
      · rw [if_neg q]
        obtain ⟨z1, z2, y4, y5, y6', M', c1, c2, c3, c4⟩ := ih a ((a + b) / 2) (.inl (((a + b) / 2 : Nat) : Int)) M1 g1 (by rw [f1 60 0 (by decide)]; exact h0) (by omega) (by omega) (by omega)
        exact ⟨z1, z2, y4, y5, y6', M', c1, c2, Fr_tr f2 c3, c4⟩
theorem m_be19 (hD : 100 ≤ D) (h1 : 1 ≤ R) (h6 : R ≤ 6) : ∀ m r (x1 : Int) (x2 : Nat) (y4 y5 y6 : pV) (M : pM), r + m = R → x2 ≤ 100 → gM gAll M → M 60 0 = (R : Int) → ∃ z M', xE D 248 19 [.inr 62, .inl x1, .inl (x2 : Int), .inl (r : Int), y4, y5, y6] [] M = rI z M' ∧ gM gAll M' ∧ Fr wBu M M' := by
  intro m
  induction m with
  | zero =>
    intro r x1 x2 y4 y5 y6 M hr h2 hM h0
    rw [L_M_build_19, h0, if_pos (by rw [le32_iff] <;> omega)]
    by_cases q1 : eq32 x1 (-1)
    · rw [if_neg (fun z => z q1)]
      exact ⟨_, M, rfl, hM, Fr_rfl⟩
    · rw [if_pos q1]
      by_cases q2 : eq32 (x2 : Int) 0
      · rw [if_neg (fun z => z q2)]
        obtain ⟨M', e, g, f⟩ := m_tell1 hD hM (-1)
        rw [e, pbN_rV]
        exact ⟨_, M', rfl, g, Fr_mono f (by decide)⟩
      · rw [if_pos q2]
        obtain ⟨M', e, g, f⟩ := m_tell1 hD hM x1
        rw [e, pbN_rV]
        exact ⟨_, M', rfl, g, Fr_mono f (by decide)⟩
  | succ m ih =>
    intro r x1 x2 y4 y5 y6 M hr h2 hM h0
    rw [L_M_build_19, h0, if_neg (by rw [le32_iff] <;> omega)]
    obtain ⟨z1, z2, y4', y5', y6', M', c1, c2, c3, c4⟩ := m_be27 hD h1 h6 x1 (r := r) (x2 := x2) (by omega) h2 100 0 x2 y6 M hM h0 (by omega) h2 (by omega)
    rw [show (.inl 0 : pV) = .inl ((0 : Nat) : Int) from rfl, c4, show ((r : Int) + 1) = ((r + 1 : Nat) : Int) by omega]
    obtain ⟨z, M'', e, g, f⟩ := ih (r + 1) z1 z2 y4' y5' y6' M' (by omega) c1 c2 (by rw [c3 60 0 (by decide)]; exact h0)
    exact ⟨z, M'', e, g, Fr_tr c3 f⟩
theorem r_build0 {d : Nat} (hd : 101 ≤ d) (hM : gM gAll M) : okM d 248 [.inr 62] wBu M := by
  obtain ⟨D, rfl, hD⟩ := dsucc hd
  have hb := gm_i hM 60 0 (lo := 0) (hi := 6) (by decide +kernel) (by decide +kernel)
  obtain ⟨R, hR⟩ := natI hb.1
  unfold okM
  rw [T_M_build, pset_ne2 (by decide), hR]
  have gt := gM_thr hM
  have ft : Fr wBu M (pset M 60 17 0) := Fr_set Fr_rfl (by decide)
  by_cases q : eq32 (R : Int) 0
  · rw [if_neg (fun z => z q)]
    exact ⟨_, _, rfl, gt, ft⟩
  · rw [if_pos q]
    have hR0 : R ≠ 0 := fun z => q (by rw [z]; rfl)
    have h0 : pset M 60 17 0 60 0 = (R : Int) := by rw [pset_ne2 (by decide)]; exact hR
    obtain ⟨v, M1, e, g, f, -⟩ := u_tooMuch (d := D) (by omega) gt ⟨by rw [h0]; omega, by rw [h0]; omega⟩
    have f1 : Fr wBu M M1 := Fr_tr ft (Fr_mono f (by decide))
    rw [e, pbI_rI]
    by_cases q2 : eq32 v 0
    · rw [if_pos q2]
      obtain ⟨z, M2, e2, g2, f2⟩ := m_be19 (R := R) hD (by omega) (by omega) R 0 (-1) 100 (.inr 0) (.inr 0) (.inr 0) M1 (by omega) (by omega) g (by rw [f 60 0 (by decide)]; exact h0)
      exact ⟨z, M2, e2, g2, Fr_tr f1 f2⟩
    · rw [if_neg q2]
      exact ⟨_, M1, rfl, g, f1⟩
end BU
end
section
/-! queue of the reference -/
theorem cntTo_lt {f g : Nat → Bool} (h : ∀ i, f i = true → g i = true) {c : Nat} (h1 : f c = false) (h2 : g c = true) : ∀ n, (cntTo f n ≤ cntTo g n) ∧ (c < n → cntTo f n + 1 ≤ cntTo g n)
  | 0 => ⟨Nat.le_refl _, fun z => by omega⟩
  | n + 1 => by
    obtain ⟨i1, i2⟩ := cntTo_lt h h1 h2 n
    unfold cntTo
    by_cases q : f n = true
    · rw [if_pos q, if_pos (h n q)]
      refine ⟨by omega, fun z => ?_⟩
      have : c ≠ n := fun y => by rw [y, q] at h1; cases h1
      have := i2 (by omega)
      omega
    · rw [if_neg q]
      by_cases q2 : c = n
      · rw [if_pos (by rw [← q2]; exact h2)]
        exact ⟨by omega, fun _ => by omega⟩
      · refine ⟨by split <;> omega, fun z => ?_⟩
        have := i2 (by omega)
        split <;> omega
theorem popc_or {s c : Nat} (hc : c < 10) (h : s.testBit c = false) : popc s + 1 ≤ popc (s ||| 2 ^ c) := (cntTo_lt (f := s.testBit) (g := (s ||| 2 ^ c).testBit) (fun i hi => by rw [Nat.testBit_or, hi]; rfl) h (by rw [Nat.testBit_or, Nat.testBit_two_pow_self, Bool.or_true]) 10).2 hc
theorem or_bit {s c : Nat} (hc : c < 10) (hs : s < 1024) : s ||| 2 ^ c < 1024 := Nat.or_lt_two_pow (n := 10) hs (Nat.pow_lt_pow_right (by decide) hc)
theorem or_gt {s c : Nat} (h : s.testBit c = false) : s < s ||| 2 ^ c := by
  have h1 : s ≤ s ||| 2 ^ c := Nat.left_le_or
  have h2 : s ≠ s ||| 2 ^ c := fun e => by
    have : (s ||| 2 ^ c).testBit c = true := by rw [Nat.testBit_or, Nat.testBit_two_pow_self, Bool.or_true]
    rw [← e, h] at this; cases this
  omega
theorem nan_sub {s x : Nat} (h : nan s x = 0) {i : Nat} (hi : s.testBit i = true) : x.testBit i = true := by
  have e := nan_bit s x i
  rw [h, Nat.zero_testBit, hi] at e
  cases q : x.testBit i with
  | true => rfl
  | false => rw [q] at e; cases e
theorem nan_or {s x c : Nat} (h : nan s x = 0) (hc : x.testBit c = true) : nan (s ||| 2 ^ c) x = 0 := Nat.eq_of_testBit_eq fun i => by
  rw [nan_bit, Nat.zero_testBit, Nat.testBit_or]
  cases q : x.testBit i with
  | true => rw [Bool.not_true, Bool.and_false]
  | false =>
    have h1 : s.testBit i = false := by
      cases z : s.testBit i with
      | false => rfl
      | true => rw [nan_sub h z] at q; cases q
    have h2 : (2 ^ c).testBit i = false := by
      rw [Nat.testBit_two_pow]
      exact decide_eq_false (fun z => by rw [← z, hc] at q; cases q)
    rw [h1, h2]; rfl
theorem nan_le2 {s x : Nat} (h : nan s x = 0) : s ≤ x := by
  have e : s = s &&& x := Nat.eq_of_testBit_eq fun i => by
    rw [Nat.testBit_and]
    cases z : s.testBit i with
    | false => rfl
    | true => rw [nan_sub h z]; rfl
  rw [e]; exact Nat.and_le_right
section QU
variable {D d S T R C : Nat} {sv : Nat → Nat} {N M M' : pM} {x1 : Nat}
theorem m_lawful_78 (hd : 3 ≤ d) (h : FCx M S T sv) (h0 : M 60 0 = (R : Int)) (hR : R ≤ 6) : xF d 212 [.inr 62, .inr 80] M = rI (if lwB M (M 78) S T R sv then 1 else 0) M := by
  obtain ⟨D, rfl, hD⟩ := dsucc hd
  rw [T_M_isLawful_78, m_parted_78 (by omega) h, pbI_rI]
  unfold lwB
  by_cases q : bitsOf (fun s => pdF (M 78) (sv s) T) S = 0
  · rw [if_neg (fun z => (bits_ne (by have := h.2.1; omega)).mp z q), m_full_78 (by omega) h.2.2.1 h.2.2.2.1 h0 hR, pbI_rI, q]
    by_cases q2 : bitsOf (fun r => decide (¬ le32 0 (frF M (M 78) r T))) R = 0
    · rw [if_neg (fun z => (bits_ne (by omega)).mp z q2), q2]; rfl
    · rw [if_pos ((bits_ne (by omega)).mpr q2), if_neg (by rw [Bool.and_eq_true]; exact fun z => q2 (eq_of_beq z.2))]
  · rw [if_pos ((bits_ne (by have := h.2.1; omega)).mpr q), if_neg (by rw [Bool.and_eq_true]; exact fun z => q (eq_of_beq z.1))]
theorem frF_congr {p : Nat → Int} {r : Int} (h1 : M 61 = N 61) (h3 : M 63 = N 63) : ∀ k, frF M p r k = frF N p r k
  | 0 => by unfold frF; rw [h1]
  | k + 1 => by unfold frF; rw [frF_congr h1 h3 k, h3]
theorem lwB_congr {p : Nat → Int} (h1 : M 61 = N 61) (h3 : M 63 = N 63) : lwB M p S T R sv = lwB N p S T R sv := by
  unfold lwB
  rw [show (fun r : Nat => decide (¬ le32 0 (frF M p r T))) = fun r : Nat => decide (¬ le32 0 (frF N p r T)) from funext fun r => by rw [frF_congr h1 h3]]
def QF (T : Nat) (N M : pM) : Prop := ∀ o i, o ≠ 82 → ¬ (o = 60 ∧ i = 16) → o ≠ 69 → ¬ (o = 78 ∧ i < T) → M o i = N o i
def qP (N : pM) (T s : Nat) : Nat → Int := fun i => if i < T then (if s.testBit (N 72 i).toNat then N 81 i else N 66 i) else N 78 i
noncomputable def LW (N : pM) (S T R : Nat) (sv : Nat → Nat) (s : Nat) : Bool := lwB N (qP N T s) S T R sv
theorem m_with (hd : 4 ≤ d) (hF : FCx N S T sv) (h0 : N 60 0 = (R : Int)) (hR : R ≤ 6) (hq : QF T N M) (hM : gM gAll M) {s : Nat} (hs : s < 1024) : ∃ M', xF d 258 [.inr 62, .inl (s : Int)] M = rI (if LW N S T R sv s then 1 else 0) M' ∧ gM gAll M' ∧ ∀ o i, ¬ (o = 78 ∧ i < T) → M' o i = M o i := by
  obtain ⟨D, rfl, hD⟩ := dsucc hd
  obtain ⟨f1, f2, f3, f4, f5, f6⟩ := hF
  have key : ∀ (m t : Nat) (M1 : pM), t + m = T → gM gAll M1 → (∀ o i, ¬ (o = 78 ∧ i < T) → M1 o i = M o i) → (∀ i, i < t → M1 78 i = qP N T s i) → ∃ M', xE D 258 2 [.inr 62, .inl (s : Int), .inl (t : Int)] [] M1 = rI (if LW N S T R sv s then 1 else 0) M' ∧ gM gAll M' ∧ ∀ o i, ¬ (o = 78 ∧ i < T) → M' o i = M o i := by
    intro m
    induction m with
    | zero =>
      intro t M1 ht g f e78
      have A : ∀ o i, o ≠ 82 → ¬ (o = 60 ∧ i = 16) → o ≠ 69 → o ≠ 78 → M1 o i = N o i := fun o i a b c e => (f o i (fun z => e z.1)).trans (hq o i a b c (fun z => e z.1))
      have X : FCx M1 S T sv := ⟨(A 60 8 (by decide) (by decide) (by decide) (by decide)).trans f1, f2, (A 60 3 (by decide) (by decide) (by decide) (by decide)).trans f3, f4, fun k hk => (A 67 k (by decide) (by omega) (by decide) (by decide)).trans (f5 k hk), f6⟩
      have e : M1 78 = qP N T s := funext fun i => by
        by_cases q : i < T
        · exact e78 i (by omega)
        · rw [f 78 i (fun z => q z.2), hq 78 i (by decide) (by omega) (by decide) (fun z => q z.2)]
          unfold qP
          rw [if_neg q]
      have eL : lwB M1 (M1 78) S T R sv = LW N S T R sv s := by
        rw [e]
        exact lwB_congr (funext fun i => A 61 i (by decide) (by omega) (by decide) (by decide)) (funext fun i => A 63 i (by decide) (by omega) (by decide) (by decide))
      rw [L_M_isLawfulWith_2, X.2.2.1, if_pos (by rw [le32_iff] <;> omega), m_lawful_78 (by omega) X ((A 60 0 (by decide) (by decide) (by decide) (by decide)).trans h0) hR, pbI_rI, eL]
      refine ⟨M1, ?_, g, f⟩
      rw [if_pos]
      cases LW N S T R sv s
      · exact Or.inl rfl
      · exact Or.inr rfl
    | succ m ih =>
      intro t M1 ht g f e78
      have A : ∀ o i, o ≠ 82 → ¬ (o = 60 ∧ i = 16) → o ≠ 69 → o ≠ 78 → M1 o i = N o i := fun o i a b c e => (f o i (fun z => e z.1)).trans (hq o i a b c (fun z => e z.1))
      have b72 := gm_r g (o := 72) (lo := 0) (hi := 9) (by decide +kernel) (by decide +kernel) (k := t) (show t < 10 by omega)
      have b66 := gm_r g (o := 66) (lo := 0) (hi := 5) (by decide +kernel) (by decide +kernel) (k := t) (show t < 10 by omega)
      have b81 := gm_r g (o := 81) (lo := 0) (hi := 5) (by decide +kernel) (by decide +kernel) (k := t) (show t < 10 by omega)
      have k72 := A 72 t (by decide) (by omega) (by decide) (by decide)
      have k66 := A 66 t (by decide) (by omega) (by decide) (by decide)
      have k81 := A 81 t (by decide) (by omega) (by decide) (by decide)
      obtain ⟨c, hc⟩ := natI b72.1
      have i1 : (0 : Int) ≤ (t : Int) ∧ (t : Int) < 10 := by omega
      have eq : qP N T s t = if s.testBit c then M1 81 t else M1 66 t := by
        unfold qP
        rw [if_pos (by omega), ← k72, hc, k81, k66, Int.toNat_natCast]
      rw [L_M_isLawfulWith_2, A 60 3 (by decide) (by decide) (by decide) (by decide), f3, if_neg (by rw [le32_iff] <;> omega), if_pos i1, Int.toNat_natCast, hc, m_has (by omega) (by omega) (by omega), pbI_rI, show ((t : Int) + 1) = ((t + 1 : Nat) : Int) by omega]
      by_cases q : s.testBit c = true
      · rw [if_pos q, if_neg (by decide), if_pos i1, if_pos i1]
        rw [if_pos q] at eq
        refine ih (t + 1) _ (by omega) (gM_r g (lo := -1) (hi := 5) (by decide +kernel) (by decide +kernel) (by omega) b81.2) (fun o i ho => ?_) (fun i hi => ?_)
        · rw [← f o i ho]; exact if_neg (fun z => ho ⟨z.1, by omega⟩)
        · by_cases qi : i = t
          · rw [qi, pset_eq, eq]
          · rw [pset_ne2 qi]; exact e78 i (by omega)
      · rw [if_neg q, if_pos rfl, if_pos i1, if_pos i1]
        rw [if_neg q] at eq
        refine ih (t + 1) _ (by omega) (gM_r g (lo := -1) (hi := 5) (by decide +kernel) (by decide +kernel) (by omega) b66.2) (fun o i ho => ?_) (fun i hi => ?_)
        · rw [← f o i ho]; exact if_neg (fun z => ho ⟨z.1, by omega⟩)
        · by_cases qi : i = t
          · rw [qi, pset_eq, eq]
          · rw [pset_ne2 qi]; exact e78 i (by omega)
  rw [T_M_isLawfulWith]
  exact key T 0 M (by omega) hM (fun o i _ => rfl) (fun i hi => by omega)
def CCs (N M : pM) (S T R : Nat) (sv : Nat → Nat) (x1 s : Nat) : Prop := M 82 s = 0 ∨ s = x1 ∨ ∃ c, c < 10 ∧ x1.testBit c = true ∧ s.testBit c = false ∧ M 82 (s ||| 2 ^ c) ≠ 0 ∧ LW N S T R sv (s ||| 2 ^ c) = true
theorem CCs_set {s s' : Nat} {v : Int} (h : CCs N M S T R sv x1 s') (hs : s < s') : CCs N (pset M 82 s v) S T R sv x1 s' := by
  rcases h with h | h | ⟨c, h1, h2, h3, h4, h5⟩
  · exact Or.inl (by rw [pset_ne2 (by omega)]; exact h)
  · exact Or.inr (Or.inl h)
  · have := or_gt h3
    exact Or.inr (Or.inr ⟨c, h1, h2, h3, by rw [pset_ne2 (by omega)]; exact h4, h5⟩)
theorem CCs_congr {s' : Nat} (h : CCs N M S T R sv x1 s') (e : ∀ i, M' 82 i = M 82 i) : CCs N M' S T R sv x1 s' := by
  rcases h with h | h | ⟨c, h1, h2, h3, h4, h5⟩
  · exact Or.inl (by rw [e]; exact h)
  · exact Or.inr (Or.inl h)
  · exact Or.inr (Or.inr ⟨c, h1, h2, h3, by rw [e]; exact h4, h5⟩)
theorem QF_82 {s : Nat} {v : Int} (h : QF T N M) : QF T N (pset M 82 s v) := fun o i a b c e => by rw [pset_ne a]; exact h o i a b c e
theorem QF_tr (h : QF T N M) (f : ∀ o i, ¬ (o = 78 ∧ i < T) → M' o i = M o i) : QF T N M' := fun o i a b c e => (f o i e).trans (h o i a b c e)
theorem m_q89 (hD : 4 ≤ D) (hF : FCx N S T sv) (h0 : N 60 0 = (R : Int)) (hR : R ≤ 6) (hC : N 60 30 = (C : Int)) (hC2 : C ≤ 10) (hx : x1 < 1024) {s : Nat} (hs : s < 1024) : ∀ (m x : Nat) (M : pM), x + m = C → gM gAll M → QF T N M → (∀ s', s < s' → s' < 1024 → nan s' x1 = 0 → CCs N M S T R sv x1 s') → CCs N M S T R sv x1 s → ∃ y M', xE D 259 89 [.inr 62, .inl (x1 : Int), .inl (s : Int), .inl (x : Int)] [] M = xE D 259 68 [.inr 62, .inl (x1 : Int), .inl ((s : Int) + (-1)), y] [] M' ∧ gM gAll M' ∧ QF T N M' ∧ ∀ s', s ≤ s' → s' < 1024 → nan s' x1 = 0 → CCs N M' S T R sv x1 s' := by
  have i1 : (0 : Int) ≤ (s : Int) ∧ (s : Int) < 1024 := by omega
  have all : ∀ M : pM, (∀ s', s < s' → s' < 1024 → nan s' x1 = 0 → CCs N M S T R sv x1 s') → CCs N M S T R sv x1 s → ∀ s', s ≤ s' → s' < 1024 → nan s' x1 = 0 → CCs N M S T R sv x1 s' := fun M h1 h2 s' a b c => by
    by_cases q : s' = s
    · rw [q]; exact h2
    · exact h1 s' (by omega) b c
  have g82 : ∀ {M : pM} {v : Int}, gM gAll M → 0 ≤ v → v ≤ 1 → gM gAll (pset M 82 s v) := fun g a b => gM_r g (lo := 0) (hi := 1) (by decide +kernel) (by decide +kernel) a b
  intro m
  induction m with
  | zero =>
    intro x M hm g hq h1 h2
    rw [L_M_queue_89, hq 60 30 (by decide) (by decide) (by decide) (by omega), hC, if_pos (by rw [le32_iff] <;> omega)]
    exact ⟨_, M, rfl, g, hq, all M h1 h2⟩
  | succ m ih =>
    intro x M hm g hq h1 h2
    have b82 := gm_r g (o := 82) (lo := 0) (hi := 1) (by decide +kernel) (by decide +kernel) (k := s) (show s < 1024 from hs)
    have hp : 2 ^ x < 2147483648 := Nat.lt_of_lt_of_le (Nat.pow_lt_pow_right (by decide) (show x < 31 by omega)) (Nat.le_refl (2 ^ 31))
    have hn := nan_le x1 s
    rw [L_M_queue_89, hq 60 30 (by decide) (by decide) (by decide) (by omega), hC, if_neg (by rw [le32_iff] <;> omega), if_pos i1, Int.toNat_natCast]
    by_cases q : eq32 (M 82 s) 0
    · rw [if_neg (fun z => z q), jxor_m1 (by omega), jand_not (by omega) (by omega), m_has (by omega) (by omega) (by omega), pbI_rI, jshl_one x (by omega), jor_nat (by omega) hp, show ((x : Int) + 1) = ((x + 1 : Nat) : Int) by omega]
      have no : ∃ y M', xE D 259 89 [.inr 62, .inl (x1 : Int), .inl (s : Int), .inl ((x + 1 : Nat) : Int)] [] (pset M 82 s 0) = xE D 259 68 [.inr 62, .inl (x1 : Int), .inl ((s : Int) + (-1)), y] [] M' ∧ gM gAll M' ∧ QF T N M' ∧ ∀ s', s ≤ s' → s' < 1024 → nan s' x1 = 0 → CCs N M' S T R sv x1 s' := ih (x + 1) _ (by omega) (g82 g (by decide) (by decide)) (QF_82 hq) (fun s' a b c => CCs_set (h1 s' a b c) a) (Or.inl pset_eq)
      by_cases q2 : (nan x1 s).testBit x = true
      · have q3 : x1.testBit x = true ∧ s.testBit x = false := by
          rw [nan_bit, Bool.and_eq_true] at q2
          exact ⟨q2.1, by rw [← Bool.not_eq_true']; exact q2.2⟩
        have o1 := or_bit (c := x) (by omega) hs
        have o2 := or_gt q3.2
        rw [if_pos q2, if_neg (by decide), if_pos (by omega), Int.toNat_natCast]
        by_cases q4 : eq32 (M 82 (s ||| 2 ^ x)) 0
        · rw [if_pos q4]; rw [if_pos i1]; exact no
        · obtain ⟨M3, e3, g3, f3⟩ := m_with (d := D) hD hF h0 hR hq g o1
          have k82 : ∀ i, M3 82 i = M 82 i := fun i => f3 82 i (by omega)
          rw [if_neg q4, e3, pbI_rI]
          by_cases q5 : LW N S T R sv (s ||| 2 ^ x) = true
          · rw [if_pos q5, if_neg (by decide), if_pos i1]
            refine ih (x + 1) _ (by omega) (g82 g3 (by decide) (by decide)) (QF_82 (QF_tr hq f3)) (fun s' a b c => CCs_set (CCs_congr (h1 s' a b c) k82) a) (Or.inr (Or.inr ⟨x, by omega, q3.1, q3.2, ?_, q5⟩))
            rw [pset_ne2 (by omega), k82]
            exact fun z => q4 (by rw [z])
          · rw [if_neg q5, if_pos rfl, if_pos i1]
            exact ih (x + 1) _ (by omega) (g82 g3 (by decide) (by decide)) (QF_82 (QF_tr hq f3)) (fun s' a b c => CCs_set (CCs_congr (h1 s' a b c) k82) a) (Or.inl pset_eq)
      · rw [if_neg q2, if_pos rfl, if_pos i1]
        exact no
    · rw [if_pos q]
      exact ⟨_, M, rfl, g, hq, all M h1 h2⟩
/-- the first step of a way that stands -/
theorem m_q151 (hD : 4 ≤ D) (hF : FCx N S T sv) (h0 : N 60 0 = (R : Int)) (hR : R ≤ 6) (hx : x1 < 1024) {s k : Nat} (hs : s < 1024) (hk : k < 16) {c : Nat} (hc : c < 10) (c1 : x1.testBit c = true) (c2 : s.testBit c = false) (c5 : LW N S T R sv (s ||| 2 ^ c) = true) : ∀ (m x : Nat) (M : pM), x + m = c → gM gAll M → QF T N M → M 60 16 = (k : Int) → M 82 (s ||| 2 ^ c) ≠ 0 → ∃ (c' : Nat) (M' : pM), xE D 259 151 [.inr 62, .inl (x1 : Int), .inl (s : Int), .inl (x : Int)] [] M = xE D 259 146 [.inr 62, .inl (x1 : Int), .inl ((s ||| 2 ^ c' : Nat) : Int), .inl (c' : Int)] [] M' ∧ c' < 10 ∧ x1.testBit c' = true ∧ s.testBit c' = false ∧ M' 82 (s ||| 2 ^ c') ≠ 0 ∧ gM gAll M' ∧ QF T N M' ∧ (∀ i, M' 82 i = M 82 i) ∧ M' 60 16 = ((k + 1 : Nat) : Int) := by
  intro m
  induction m with
  | zero =>
    intro x M hm g hq h16 h82
    obtain rfl : x = c := by omega
    have hp : 2 ^ x < 2147483648 := Nat.lt_of_lt_of_le (Nat.pow_lt_pow_right (by decide) (show x < 31 by omega)) (Nat.le_refl (2 ^ 31))
    have hn := nan_le x1 s
    have o1 := or_bit (c := x) (by omega) hs
    have b82 := gm_r g (o := 82) (lo := 0) (hi := 1) (by decide +kernel) (by decide +kernel) (k := s ||| 2 ^ x) (show s ||| 2 ^ x < 1024 from o1)
    obtain ⟨M3, e3, g3, f3⟩ := m_with (d := D) hD hF h0 hR hq g o1
    have k82 : ∀ i, M3 82 i = M 82 i := fun i => f3 82 i (by omega)
    obtain ⟨M5, e5, g5, f5, k5⟩ := m_tellS (D := D) (M := M3) (n := k) (by omega) hk ((f3 60 16 (by omega)).trans h16) g3 (x : Int)
    rw [L_M_queue_151, jxor_m1 (by omega), jand_not (by omega) (by omega), m_has (by omega) (by omega) (by omega), pbI_rI, jshl_one x (by omega), jor_nat (by omega) hp, if_pos (show (nan x1 s).testBit x = true by rw [nan_bit, c1, c2]; rfl), if_neg (by decide), if_pos (by omega), Int.toNat_natCast, if_neg (by rw [eq32_iff] <;> omega), e3, pbI_rI, if_pos c5, if_pos (by decide), e5, pbN_rV]
    refine ⟨x, M5, rfl, hc, c1, c2, by rw [f5 82 _ (wOK_no (by decide) _), k82]; exact h82, g5, fun o i a b e h => ?_, fun i => by rw [f5 82 i (wOK_no (by decide) i), k82], k5⟩
    rw [f5 o i ?_]
    · exact QF_tr hq f3 o i a b e h
    · cases z : wOK [(60, 16), (69, 999)] o i with
      | false => rfl
      | true =>
        obtain ⟨w, hw, h2⟩ := List.any_eq_true.mp z
        rw [Bool.and_eq_true, Bool.or_eq_true] at h2
        simp only [List.mem_cons, List.not_mem_nil, or_false] at hw
        rcases hw with rfl | rfl
        · have e1 : 60 = o := Nat.eq_of_beq_eq_true h2.1
          rcases h2.2 with h3 | h3
          · exact absurd ⟨e1.symm, (Nat.eq_of_beq_eq_true h3).symm⟩ b
          · cases h3
        · exact absurd (Nat.eq_of_beq_eq_true h2.1).symm e
  | succ m ih =>
    intro x M hm g hq h16 h82
    have hp : 2 ^ x < 2147483648 := Nat.lt_of_lt_of_le (Nat.pow_lt_pow_right (by decide) (show x < 31 by omega)) (Nat.le_refl (2 ^ 31))
    have hn := nan_le x1 s
    have o1 := or_bit (c := x) (by omega) hs
    have b82 := gm_r g (o := 82) (lo := 0) (hi := 1) (by decide +kernel) (by decide +kernel) (k := s ||| 2 ^ x) (show s ||| 2 ^ x < 1024 from o1)
    rw [L_M_queue_151, jxor_m1 (by omega), jand_not (by omega) (by omega), m_has (by omega) (by omega) (by omega), pbI_rI, jshl_one x (by omega), jor_nat (by omega) hp, show ((x : Int) + 1) = ((x + 1 : Nat) : Int) by omega]
    by_cases q2 : (nan x1 s).testBit x = true
    · have q3 : x1.testBit x = true ∧ s.testBit x = false := by
        rw [nan_bit, Bool.and_eq_true] at q2
        exact ⟨q2.1, by rw [← Bool.not_eq_true']; exact q2.2⟩
      rw [if_pos q2, if_neg (by decide), if_pos (by omega), Int.toNat_natCast]
      by_cases q4 : eq32 (M 82 (s ||| 2 ^ x)) 0
      · rw [if_pos q4]; exact ih (x + 1) M (by omega) g hq h16 h82
      · obtain ⟨M3, e3, g3, f3⟩ := m_with (d := D) hD hF h0 hR hq g o1
        have k82 : ∀ i, M3 82 i = M 82 i := fun i => f3 82 i (by omega)
        rw [if_neg q4, e3, pbI_rI]
        by_cases q5 : LW N S T R sv (s ||| 2 ^ x) = true
        · obtain ⟨M5, e5, g5, f5, k5⟩ := m_tellS (D := D) (M := M3) (n := k) (by omega) hk ((f3 60 16 (by omega)).trans h16) g3 (x : Int)
          rw [if_pos q5, if_pos (by decide), e5, pbN_rV]
          refine ⟨x, M5, rfl, by omega, q3.1, q3.2, by rw [f5 82 _ (wOK_no (by decide) _), k82]; exact fun z => q4 (by rw [z]), g5, fun o i a b e h => ?_, fun i => by rw [f5 82 i (wOK_no (by decide) i), k82], k5⟩
          rw [f5 o i ?_]
          · exact QF_tr hq f3 o i a b e h
          · cases z : wOK [(60, 16), (69, 999)] o i with
            | false => rfl
            | true =>
              obtain ⟨w, hw, h2⟩ := List.any_eq_true.mp z
              rw [Bool.and_eq_true, Bool.or_eq_true] at h2
              simp only [List.mem_cons, List.not_mem_nil, or_false] at hw
              rcases hw with rfl | rfl
              · have e1 : 60 = o := Nat.eq_of_beq_eq_true h2.1
                rcases h2.2 with h3 | h3
                · exact absurd ⟨e1.symm, (Nat.eq_of_beq_eq_true h3).symm⟩ b
                · cases h3
              · exact absurd (Nat.eq_of_beq_eq_true h2.1).symm e
        · rw [if_neg q5, if_neg (fun z => z rfl)]
          obtain ⟨c', M', r1, r2, r3, r4, r5, r6, r7, r8, r9⟩ := ih (x + 1) M3 (by omega) g3 (QF_tr hq f3) ((f3 60 16 (by omega)).trans h16) (by rw [k82]; exact h82)
          exact ⟨c', M', r1, r2, r3, r4, r5, r6, r7, fun i => (r8 i).trans (k82 i), r9⟩
    · rw [if_neg q2, if_pos rfl]
      exact ih (x + 1) M (by omega) g hq h16 h82
theorem m_q146 (hD : 4 ≤ D) (hF : FCx N S T sv) (h0 : N 60 0 = (R : Int)) (hR : R ≤ 6) (hx : x1 < 1024) : ∀ (m s k : Nat) (y : pV) (M : pM), x1 ≤ s + m → s < 1024 → nan s x1 = 0 → gM gAll M → QF T N M → M 60 16 = (k : Int) → k ≤ popc s → M 82 s ≠ 0 → (∀ s', s' < 1024 → nan s' x1 = 0 → CCs N M S T R sv x1 s') → ∃ z M', xE D 259 146 [.inr 62, .inl (x1 : Int), .inl (s : Int), y] [] M = rI z M' ∧ gM gAll M' ∧ QF T N M' := by
  have fin : ∀ (s : Nat) (y : pV) (M : pM), s = x1 → gM gAll M → QF T N M → ∃ z M', xE D 259 146 [.inr 62, .inl (x1 : Int), .inl (s : Int), y] [] M = rI z M' ∧ gM gAll M' ∧ QF T N M' := fun s y M hs g hq => by
    rw [L_M_queue_146, if_pos (by rw [hs]), j_bitCount (by omega) hx, pbI_rI]
    exact ⟨_, M, rfl, g, hq⟩
  intro m
  induction m with
  | zero =>
    intro s k y M hm hs hn g hq h16 hk h82 hcc
    exact fin s y M (by have := nan_le2 hn; omega) g hq
  | succ m ih =>
    intro s k y M hm hs hn g hq h16 hk h82 hcc
    by_cases q : s = x1
    · exact fin s y M q g hq
    · have hp := popc_le s
      rcases hcc s hs hn with h | h | ⟨c, d1, d2, d3, d4, d5⟩
      · exact absurd h h82
      · exact absurd h q
      · rw [L_M_queue_146, if_neg (by rw [eq32_iff] <;> omega)]
        obtain ⟨c', M', r1, r2, r3, r4, r5, r6, r7, r8, r9⟩ := m_q151 (k := k) hD hF h0 hR hx hs (by omega) d1 d2 d3 d5 c 0 M (by omega) g hq h16 d4
        have o2 := or_gt r4
        have o3 := popc_or r2 r4
        rw [show (.inl 0 : pV) = .inl ((0 : Nat) : Int) from rfl, r1]
        exact ih (s ||| 2 ^ c') (k + 1) _ M' (by omega) (or_bit r2 hs) (nan_or hn r3) r6 r7 r9 (by omega) r5 (fun s' a b => CCs_congr (hcc s' a b) r8)
theorem m_q68 (hD : 4 ≤ D) (hF : FCx N S T sv) (h0 : N 60 0 = (R : Int)) (hR : R ≤ 6) (hC : N 60 30 = (C : Int)) (hC2 : C ≤ 10) (hx : x1 < 1024) : ∀ (lo : Nat) (y : pV) (M : pM), lo ≤ 1024 → gM gAll M → QF T N M → (∀ s, lo ≤ s → s < 1024 → nan s x1 = 0 → CCs N M S T R sv x1 s) → ∃ z M', xE D 259 68 [.inr 62, .inl (x1 : Int), .inl ((lo : Int) - 1), y] [] M = rI z M' ∧ gM gAll M' ∧ QF T N M' := by
  intro lo
  induction lo with
  | zero =>
    intro y M hlo g hq hcc
    have b82 := gm_r g (o := 82) (lo := 0) (hi := 1) (by decide +kernel) (by decide +kernel) (k := 0) (show 0 < 1024 by decide)
    rw [L_M_queue_68, if_pos (by decide)]
    by_cases q : eq32 (M 82 0) 0
    · rw [if_neg (fun z => z q)]
      exact ⟨_, M, rfl, g, hq⟩
    · rw [if_pos q, show (.inl 0 : pV) = .inl ((0 : Nat) : Int) from rfl]
      exact m_q146 hD hF h0 hR hx x1 0 0 y (pset M 60 16 0) (by omega) (by decide) (by unfold nan; rw [Nat.zero_and, Nat.zero_xor]) (gM_row0 g) (fun o i a b c e => by
        rw [← hq o i a b c e]; exact if_neg b) pset_eq (Nat.zero_le _) (by rw [pset_ne (by decide)]; exact fun z => q (by rw [z])) (fun s' a b => CCs_congr (hcc s' (Nat.zero_le _) a b) (fun i => pset_ne (by decide)))
  | succ lo ih =>
    intro y M hlo g hq hcc
    have hn := nan_le lo x1
    have e1 : (((lo + 1 : Nat) : Int) - 1) = (lo : Int) := by omega
    have e2 : ((lo : Int) + (-1)) = (lo : Int) - 1 := by omega
    rw [e1, L_M_queue_68, if_neg (by rw [lt32_iff] <;> omega), jxor_m1 (by omega), jand_not (by omega) (by omega)]
    have g82 : ∀ {M : pM} {v : Int}, gM gAll M → 0 ≤ v → v ≤ 1 → gM gAll (pset M 82 lo v) := fun g a b => gM_r g (lo := 0) (hi := 1) (by decide +kernel) (by decide +kernel) a b
    by_cases q : nan lo x1 = 0
    · rw [if_pos (by rw [q]; rfl), if_pos (show (0 : Int) ≤ (lo : Int) ∧ (lo : Int) < 1024 by omega), if_pos (show (0 : Int) ≤ (lo : Int) ∧ (lo : Int) < 1024 by omega), Int.toNat_natCast]
      have go : ∀ v : Int, 0 ≤ v → v ≤ 1 → (v = 0 ∨ lo = x1) → ∃ z M', xE D 259 89 [.inr 62, .inl (x1 : Int), .inl (lo : Int), .inl 0] [] (pset M 82 lo v) = rI z M' ∧ gM gAll M' ∧ QF T N M' := fun v v1 v2 v3 => by
        obtain ⟨y', M1, r1, r2, r3, r4⟩ := m_q89 hD hF h0 hR hC hC2 hx (s := lo) (by omega) C 0 (pset M 82 lo v) (by omega) (g82 g v1 v2) (QF_82 hq) (fun s' a b c => CCs_set (hcc s' (by omega) b c) a) (v3.elim (fun z => Or.inl (by rw [pset_eq]; exact z)) (fun z => Or.inr (Or.inl z)))
        rw [show (.inl 0 : pV) = .inl ((0 : Nat) : Int) from rfl, r1, e2]
        exact ih y' M1 (by omega) r2 r3 r4
      by_cases q2 : lo = x1
      · rw [if_neg (fun z => z (by rw [q2]))]; exact go 1 (by decide) (by decide) (Or.inr q2)
      · rw [if_pos (by rw [eq32_iff] <;> omega)]; exact go 0 (by decide) (by decide) (Or.inl rfl)
    · rw [if_neg (by rw [eq32_iff] <;> omega), e2]
      exact ih y M (by omega) g hq (fun s a b c => by
        by_cases qs : s = lo
        · rw [qs] at c; exact absurd c q
        · exact hcc s (by omega) b c)
theorem m_q40 (hD : 4 ≤ D) (hF : FCx N S T sv) (h0 : N 60 0 = (R : Int)) (hR : R ≤ 6) (hC : N 60 30 = (C : Int)) (hC2 : C ≤ 10) (hN : gM gAll N) : ∀ (m t x : Nat), t + m = T → x < 1024 → ∃ z M', xE D 259 40 [.inr 62, .inl (x : Int), .inl (t : Int), .inr 0] [] N = rI z M' ∧ gM gAll M' ∧ QF T N M' := by
  have h3 := hF.2.2.1
  have hT := hF.2.2.2.1
  intro m
  induction m with
  | zero =>
    intro t x ht hx
    rw [L_M_queue_40, h3, if_pos (by rw [le32_iff] <;> omega), show (.inl (x : Int) :: .inl (x : Int) :: [.inr 0] : List pV) = .inl (x : Int) :: .inl (((x + 1 : Nat) : Int) - 1) :: [.inr 0] by rw [show (((x + 1 : Nat) : Int) - 1) = (x : Int) by omega]]
    exact m_q68 hD hF h0 hR hC hC2 hx (x + 1) (.inr 0) N (by omega) hN (fun o i _ _ _ _ => rfl) (fun s a b c => by have := nan_le2 c; omega)
  | succ m ih =>
    intro t x ht hx
    have i1 : (0 : Int) ≤ (t : Int) ∧ (t : Int) < 10 := by omega
    have b72 := gm_r hN (o := 72) (lo := 0) (hi := 9) (by decide +kernel) (by decide +kernel) (k := t) (show t < 10 by omega)
    obtain ⟨c, hc⟩ := natI b72.1
    have hp : 2 ^ c < 2147483648 := Nat.lt_of_lt_of_le (Nat.pow_lt_pow_right (by decide) (show c < 31 by omega)) (Nat.le_refl (2 ^ 31))
    rw [L_M_queue_40, h3, if_neg (by rw [le32_iff] <;> omega), if_pos i1, if_pos i1, Int.toNat_natCast, show ((t : Int) + 1) = ((t + 1 : Nat) : Int) by omega]
    by_cases q : eq32 (N 66 t) (N 81 t)
    · rw [if_pos q, show jor (x : Int) 0 = ((x ||| 0 : Nat) : Int) from jor_nat (b := 0) (by omega) (by decide), Nat.or_zero]
      exact ih (t + 1) x (by omega) hx
    · rw [if_neg q, if_pos i1, hc, jshl_one c (by omega), jor_nat (by omega) hp]
      exact ih (t + 1) _ (by omega) (or_bit (by omega) hx)
def wQu : List (Nat × Nat) := [(60, 16), (60, 17), (60, 30), (69, 999), (72, 999), (73, 999), (74, 999), (78, 999), (82, 999)]
theorem r_queue {d : Nat} (hd : 5 ≤ d) (h : RI0 M) : okR d 259 [.inr 62] wQu M := by
  obtain ⟨D, rfl, hD⟩ := dsucc hd
  have ht := RI0_thr h
  have ft : Fr wQu M (pset M 60 17 0) := Fr_set Fr_rfl (by decide)
  unfold okR
  rw [T_M_queue]
  generalize pset M 60 17 0 = M1 at ht ft ⊢
  obtain ⟨z, M2, e2, g2, f2, -⟩ := u_hasAim (d := D) (by omega) ht.1
  have h2 : RI0 M2 := RI0_Fr g2 f2 (by decide) ht
  have F2 : Fr wQu M M2 := Fr_tr ft (Fr_mono f2 (by decide))
  rw [e2, pbI_rI]
  by_cases q : eq32 z 0
  · rw [if_neg (fun y => y q)]; exact ⟨_, M2, rfl, h2, F2⟩
  · have X := fcx_of g2
    rw [if_pos q, m_parted_81 (by omega) X, pbI_rI]
    split
    · exact ⟨_, M2, rfl, h2, F2⟩
    · rw [m_parted_66 (by omega) X, pbI_rI]
      split
      · obtain ⟨v, M3, e3, g3, f3, -⟩ := u_costA (d := D) (by omega) (a2 := 0) (a4 := 0) g2 (by decide) (by decide)
        have h3 : RI0 M3 := RI0_Fr g3 f3 (by decide) h2
        have F3 : Fr wQu M M3 := Fr_tr F2 (Fr_mono f3 (by decide))
        rw [e3, pbI_rI]
        split
        · obtain ⟨M4, e4, g4, f4, -⟩ := m_findClumps (d := D) (ns := 0) (g := 0) (by omega) g3 (fcx_of g3) (by decide) (by decide)
          have h4 : RI0 M4 := RI0_Fr g4 f4 (by decide) h3
          have F4 : Fr wQu M M4 := Fr_tr F3 (Fr_mono f4 (by decide))
          have b30 := gm_i g4 60 30 (lo := 0) (hi := 10) (by decide +kernel) (by decide +kernel)
          have b0 := gm_i g4 60 0 (lo := 0) (hi := 6) (by decide +kernel) (by decide +kernel)
          obtain ⟨C, hC⟩ := natI b30.1
          obtain ⟨R, hR⟩ := natI b0.1
          have e4' : xF D 200 [.inr 62, .inl 0, .inl 0] M3 = rV M4 := e4
          rw [e4', pbN_rV]
          obtain ⟨w, M5, e5, g5, q5⟩ := m_q40 (D := D) (R := R) (C := C) (by omega) (fcx_of g4) hR (by omega) hC (by omega) g4 (M4 60 3).toNat 0 0 (by omega) (by decide)
          have f5 : Fr wQu M4 M5 := fun o i ho => q5 o i (fun z => by rw [z, wOK_r (by decide)] at ho; cases ho) (fun z => by rw [z.1, z.2] at ho; exact absurd ho (by decide)) (fun z => by rw [z, wOK_r (by decide)] at ho; cases ho) (fun z => by rw [z.1, wOK_r (by decide)] at ho; cases ho)
          have e5' : xE D 259 40 [.inr 62, .inl 0, .inl 0, .inr 0] [] M4 = rI w M5 := e5
          rw [e5']
          exact ⟨_, M5, rfl, RI0_Fr g5 f5 (by decide) h4, Fr_tr F4 f5⟩
        · exact ⟨_, M3, rfl, h3, F3⟩
      · exact ⟨_, M2, rfl, h2, F2⟩
end QU
end
