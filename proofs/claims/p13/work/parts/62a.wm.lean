/-! what stays true of the reference's memory -/
def WM (M : pM) : Prop := (∀ r : Nat, (r : Int) < M 60 0 → 1 ≤ M 61 r ∧ M 61 r ≤ 99) ∧ SymD M ∧ (∀ a b : Nat, a < 6 → b < 6 → (M 60 0 ≤ a ∨ M 60 0 ≤ b ∨ a = b) → M 62 (6 * a + b) = 0) ∧ (∀ t : Nat, (t : Int) < M 60 3 → 1 ≤ M 63 t ∧ 1 ≤ M 64 t ∧ 1 ≤ M 65 t ∧ M 66 t < M 60 0) ∧ ∀ s : Nat, (s : Int) < M 60 8 → M 67 s < 2 ^ (M 60 3).toNat
/-- the house that the reference's memory tells -/
def hOf (M : pM) : pM := fun o i => match o with
  | 0 => (match i with
    | 0 => M 60 0
    | 1 => M 60 3
    | _ => M 60 8)
  | 1 => M 61 i
  | 2 => M 62 i
  | 3 => M 63 i
  | 4 => M 64 i
  | 5 => M 65 i
  | 6 => M 66 i
  | _ => M 67 i
section WMS
variable {M M' : pM}
theorem MH_of (hM : gM gAll M) : MH M (hOf M) := by
  have h0 := gm_i hM 60 0 (lo := 0) (hi := 6) (by decide +kernel) (by decide +kernel)
  have h3 := gm_i hM 60 3 (lo := 0) (hi := 10) (by decide +kernel) (by decide +kernel)
  have h8 := gm_i hM 60 8 (lo := 0) (hi := 8) (by decide +kernel) (by decide +kernel)
  have e0 : M 60 0 = hR (hOf M) := by show M 60 0 = ((M 60 0).toNat : Int); omega
  have e3 : M 60 3 = hT (hOf M) := by show M 60 3 = ((M 60 3).toNat : Int); omega
  have e8 : M 60 8 = hS (hOf M) := by show M 60 8 = ((M 60 8).toNat : Int); omega
  refine ⟨e0, e3, e8, fun r _ => rfl, fun p _ => rfl, fun t _ => ⟨rfl, rfl, rfl, rfl⟩, fun s hs => ?_⟩
  have := gm_r hM (o := 67) (lo := 0) (hi := 1023) (by decide +kernel) (by decide +kernel) (k := s) (show s < 8 by omega)
  show M 67 s = ((M 67 s).toNat : Int)
  omega
theorem WF_of (hM : gM gAll M) (w : WM M) : WF (hOf M) := by
  obtain ⟨w1, w2, w3, w4, w5⟩ := w
  obtain ⟨e0, e3, e8, -, -, -, -⟩ := MH_of hM
  have h0 := gm_i hM 60 0 (lo := 0) (hi := 6) (by decide +kernel) (by decide +kernel)
  have h3 := gm_i hM 60 3 (lo := 0) (hi := 10) (by decide +kernel) (by decide +kernel)
  have h8 := gm_i hM 60 8 (lo := 0) (hi := 8) (by decide +kernel) (by decide +kernel)
  refine ⟨by omega, by omega, by omega, fun r hr => w1 r (by omega), fun p hp => gm_r hM (o := 62) (lo := 0) (hi := 9) (by decide +kernel) (by decide +kernel) (k := p) (show p < 36 from hp), fun a b ha hb => w2 a b ha hb, fun a b ha hb h => w3 a b ha hb (by omega), fun t ht => ?_, fun s hs => ?_⟩
  · have k := w4 t (by omega)
    have b1 := gm_r hM (o := 63) (lo := 0) (hi := 99) (by decide +kernel) (by decide +kernel) (k := t) (show t < 10 by omega)
    have b2 := gm_r hM (o := 64) (lo := 0) (hi := 9) (by decide +kernel) (by decide +kernel) (k := t) (show t < 10 by omega)
    have b3 := gm_r hM (o := 65) (lo := 0) (hi := 9) (by decide +kernel) (by decide +kernel) (k := t) (show t < 10 by omega)
    have b4 := gm_r hM (o := 66) (lo := 0) (hi := 5) (by decide +kernel) (by decide +kernel) (k := t) (show t < 10 by omega)
    exact ⟨⟨k.1, b1.2⟩, ⟨k.2.1, b2.2⟩, ⟨k.2.2.1, b3.2⟩, b4.1, by show M 66 t < _; omega⟩
  · have k := w5 s (by omega)
    have b := gm_r hM (o := 67) (lo := 0) (hi := 1023) (by decide +kernel) (by decide +kernel) (k := s) (show s < 8 by omega)
    have e : (M 60 3).toNat = hT (hOf M) := rfl
    rw [e] at k
    show (M 67 s).toNat < 2 ^ hT (hOf M)
    have : ((M 67 s).toNat : Int) < ((2 ^ hT (hOf M) : Nat) : Int) := by
      rw [Int.natCast_pow]
      have : ((M 67 s).toNat : Int) = M 67 s := by omega
      rw [this]; exact k
    omega
theorem WM_of {h : pM} (W : WF h) (X : MH M h) : WM M := by
  obtain ⟨w1, w2, w3, w4, w5, w6, w7, w8, w9⟩ := W
  obtain ⟨x1, x2, x3, x4, x5, x6, x7⟩ := X
  refine ⟨fun r hr => ?_, fun a b ha hb => ?_, fun a b ha hb hh => ?_, fun t ht => ?_, fun s hs => ?_⟩
  · rw [x4 r (by omega)]; exact w4 r (by omega)
  · rw [x5 _ (by omega), x5 _ (by omega)]; exact w6 a b ha hb
  · rw [x5 _ (by omega)]; exact w7 a b ha hb (by omega)
  · obtain ⟨y1, y2, y3, y4⟩ := x6 t (by omega)
    have k := w8 t (by omega)
    rw [y1, y2, y3, y4, x1]
    exact ⟨k.1.1, k.2.1.1, k.2.2.1.1, k.2.2.2.2⟩
  · rw [x7 s (by omega), x2, Int.toNat_natCast]
    have := w9 s (by omega)
    have e : ((me h s : Nat) : Int) < ((2 ^ hT h : Nat) : Int) := by omega
    rw [Int.natCast_pow] at e
    exact e
theorem WM_Fr {w : List (Nat × Nat)} (a : Fr w M M') (h0 : wOK w 60 0 = false) (h3 : wOK w 60 3 = false) (h8 : wOK w 60 8 = false) (hn : w.all (fun q => decide (q.1 < 61 ∨ 67 < q.1)) = true) (W : WM M) : WM M' := by
  have hk : ∀ o i, 61 ≤ o → o ≤ 67 → M' o i = M o i := fun o i h1 h2 => a o i (by
    cases e : wOK w o i with
    | false => rfl
    | true =>
      obtain ⟨q, hq, h⟩ := List.any_eq_true.mp e
      have h4 := of_decide_eq_true (List.all_eq_true.mp hn q hq)
      rw [Bool.and_eq_true] at h
      have := Nat.eq_of_beq_eq_true h.1
      omega)
  obtain ⟨w1, w2, w3, w4, w5⟩ := W
  refine ⟨fun r hr => ?_, fun x y hx hy => ?_, fun x y hx hy hh => ?_, fun t ht => ?_, fun s hs => ?_⟩
  · rw [a 60 0 h0] at hr; rw [hk 61 r (by decide) (by decide)]; exact w1 r hr
  · rw [hk 62 _ (by decide) (by decide), hk 62 _ (by decide) (by decide)]; exact w2 x y hx hy
  · rw [a 60 0 h0] at hh; rw [hk 62 _ (by decide) (by decide)]; exact w3 x y hx hy hh
  · rw [a 60 3 h3] at ht
    rw [hk 63 t (by decide) (by decide), hk 64 t (by decide) (by decide), hk 65 t (by decide) (by decide), hk 66 t (by decide) (by decide), a 60 0 h0]
    exact w4 t ht
  · rw [a 60 8 h8] at hs
    rw [hk 67 s (by decide) (by decide), a 60 3 h3]
    exact w5 s hs
/-- what is undone, what is kept -/
def UM (M : pM) : Prop := (∀ k : Nat, (k : Int) < M 60 33 → M 75 (3 * k + 1) < M 60 0) ∧ 0 ≤ M 60 52 ∧ M 60 52 ≤ M 60 0 + M 60 3 ∧ ∀ i : Nat, i < 2 → M 88 i ≠ 0 → 0 ≤ M 89 i ∧ M 89 i ≤ M 60 52 ∧ (M 89 i = M 60 52 → ∀ t : Nat, (t : Int) < M 60 3 → M 87 (12 * i + t) < M 60 0)
theorem UM_Fr {w : List (Nat × Nat)} (a : Fr w M M') (h0 : wOK w 60 0 = false) (h3 : wOK w 60 3 = false) (h33 : wOK w 60 33 = false) (h52 : wOK w 60 52 = false) (hn : w.all (fun q => decide (q.1 ≠ 75 ∧ q.1 ≠ 87 ∧ q.1 ≠ 88 ∧ q.1 ≠ 89)) = true) (U : UM M) : UM M' := by
  have hk : ∀ o i, (o = 75 ∨ o = 87 ∨ o = 88 ∨ o = 89) → M' o i = M o i := fun o i h1 => a o i (by
    cases e : wOK w o i with
    | false => rfl
    | true =>
      obtain ⟨q, hq, h⟩ := List.any_eq_true.mp e
      have h4 := of_decide_eq_true (List.all_eq_true.mp hn q hq)
      rw [Bool.and_eq_true] at h
      have := Nat.eq_of_beq_eq_true h.1
      omega)
  obtain ⟨u1, u2, u3, u4⟩ := U
  refine ⟨fun k hk2 => ?_, by rw [a 60 52 h52]; exact u2, by rw [a 60 52 h52, a 60 0 h0, a 60 3 h3]; exact u3, fun i hi h => ?_⟩
  · rw [a 60 33 h33] at hk2
    rw [hk 75 _ (Or.inl rfl), a 60 0 h0]; exact u1 k hk2
  · rw [hk 88 i (by decide)] at h
    rw [hk 89 i (by decide), a 60 52 h52, a 60 3 h3, a 60 0 h0]
    obtain ⟨v1, v2, v3⟩ := u4 i hi h
    exact ⟨v1, v2, fun e t ht => by rw [hk 87 _ (by decide)]; exact v3 e t ht⟩
/-- the invariant of the reference's side -/
def RI0 (M : pM) : Prop := gM gAll M ∧ M 60 38 = 0 ∧ WM M ∧ UM M
/-- a call that keeps it -/
def okR (D k : Nat) (A : List pV) (w : List (Nat × Nat)) (M : pM) : Prop := ∃ z M', xF D k A M = rI z M' ∧ RI0 M' ∧ Fr w M M'
theorem RI0_Fr {w : List (Nat × Nat)} (g : gM gAll M') (a : Fr w M M') (h : w.all (fun q => (decide (q.1 < 60 ∨ 67 < q.1) || (Nat.beq q.1 60 && !(Nat.beq q.2 0) && !(Nat.beq q.2 3) && !(Nat.beq q.2 8) && !(Nat.beq q.2 33) && !(Nat.beq q.2 38) && !(Nat.beq q.2 52) && !(Nat.beq q.2 999))) && decide (q.1 ≠ 75 ∧ q.1 ≠ 87 ∧ q.1 ≠ 88 ∧ q.1 ≠ 89)) = true) (R : RI0 M) : RI0 M' := by
  have hp : ∀ i, (i = 0 ∨ i = 3 ∨ i = 8 ∨ i = 33 ∨ i = 38 ∨ i = 52) → wOK w 60 i = false := fun i hi => by
    cases e : wOK w 60 i with
    | false => rfl
    | true =>
      obtain ⟨q, hq, h2⟩ := List.any_eq_true.mp e
      have h4 := List.all_eq_true.mp h q hq
      simp only [Bool.and_eq_true, Bool.or_eq_true, decide_eq_true_eq] at h4
      rw [Bool.and_eq_true, Bool.or_eq_true] at h2
      have e1 := Nat.eq_of_beq_eq_true h2.1
      rcases h4.1 with h5 | h5
      · omega
      · exfalso
        obtain ⟨⟨⟨⟨⟨⟨⟨-, n0⟩, n3⟩, n8⟩, n33⟩, n38⟩, n52⟩, n999⟩ := h5
        rcases h2.2 with e2 | e2
        · have e3 := Nat.eq_of_beq_eq_true e2
          rw [e3] at n0 n3 n8 n33 n38 n52
          rcases hi with rfl | rfl | rfl | rfl | rfl | rfl
          · exact absurd n0 (by decide)
          · exact absurd n3 (by decide)
          · exact absurd n8 (by decide)
          · exact absurd n33 (by decide)
          · exact absurd n38 (by decide)
          · exact absurd n52 (by decide)
        · have e3 := Nat.eq_of_beq_eq_true e2
          rw [e3] at n999
          exact absurd n999 (by decide)
  refine ⟨g, by rw [a 60 38 (hp 38 (by omega))]; exact R.2.1, WM_Fr a (hp 0 (by omega)) (hp 3 (by omega)) (hp 8 (by omega)) (List.all_eq_true.mpr fun q hq => ?_) R.2.2.1, UM_Fr a (hp 0 (by omega)) (hp 3 (by omega)) (hp 33 (by omega)) (hp 52 (by omega)) (List.all_eq_true.mpr fun q hq => ?_) R.2.2.2⟩
  · have h4 := List.all_eq_true.mp h q hq
    simp only [Bool.and_eq_true, Bool.or_eq_true, decide_eq_true_eq] at h4
    refine decide_eq_true ?_
    rcases h4.1 with h5 | h5
    · omega
    · have := Nat.eq_of_beq_eq_true h5.1.1.1.1.1.1.1; omega
  · have h4 := List.all_eq_true.mp h q hq
    rw [Bool.and_eq_true] at h4
    exact h4.2
theorem RI0_rooms (R : RI0 M) : (1 ≤ M 60 0 ∧ M 60 0 ≤ 6) ∨ ((0 ≤ M 60 0 ∧ M 60 0 ≤ 0) ∧ (0 ≤ M 60 3 ∧ M 60 3 ≤ 0)) := by
  have h0 := gm_i R.1 60 0 (lo := 0) (hi := 6) (by decide +kernel) (by decide +kernel)
  have h3 := gm_i R.1 60 3 (lo := 0) (hi := 10) (by decide +kernel) (by decide +kernel)
  by_cases q : 1 ≤ M 60 0
  · exact Or.inl ⟨q, h0.2⟩
  · refine Or.inr ⟨⟨h0.1, by omega⟩, h3.1, ?_⟩
    by_cases q3 : 0 < M 60 3
    · have k := (R.2.2.1.2.2.2.1 0 q3).2.2.2
      have b := gm_r R.1 (o := 66) (lo := 0) (hi := 5) (by decide +kernel) (by decide +kernel) (k := 0) (show 0 < 10 by decide)
      omega
    · omega
/-- house keeps it -/
theorem r_house {d : Nat} (hd : 8 ≤ d) (R : RI0 M) : ∃ z M', xF d 184 [.inr 62] M = rI z M' ∧ RI0 M' ∧ Fr wHouse M M' ∧ M' 60 14 = 0 := by
  obtain ⟨g, s0, w, u1, u2, u3, u4⟩ := R
  have X := MH_of g
  have W := WF_of g w
  have b14 := gm_i g 60 14 (lo := 0) (hi := 80) (by decide +kernel) (by decide +kernel)
  obtain ⟨L, hL⟩ := natI b14.1
  obtain ⟨M', e, g', f, W', X', k14, k33, k33', k52, m1, m2⟩ := m_house (tx := fun i => M 68 i) (L := L) hd W X g hL (fun _ _ => rfl)
  have e0 := X.1
  have e3 := X.2.1
  have e0' := X'.1
  have e3' := X'.2.1
  refine ⟨_, M', e, ⟨g', by rw [f 60 38 (by decide)]; exact s0, WM_of W' X', fun k hk => ?_, ?_, ?_, fun i hi h => ?_⟩, f, k14⟩
  · rw [f 75 _ (wOK_no (by decide) _)]
    by_cases q : hsN (fun i => M 68 i) L (hOf M)
    · rw [k33 q] at hk; omega
    · rw [k33' q] at hk
      have := u1 k hk
      omega
  · rw [k52]; split <;> omega
  · rw [k52]; split <;> omega
  · rw [f 88 i (wOK_no (by decide) i)] at h
    rw [f 89 i (wOK_no (by decide) i)]
    obtain ⟨v1, v2, v3⟩ := u4 i hi h
    refine ⟨v1, by rw [k52]; split <;> omega, fun e t ht => ?_⟩
    rw [f 87 _ (wOK_no (by decide) _)]
    rw [k52] at e
    split at e
    · omega
    · have := v3 e t (by omega)
      omega
end WMS
