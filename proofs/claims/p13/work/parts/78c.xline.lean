/-! the class reads a line into its draft (object 17) -/
/-- the draft is h -/
def YH (M h : pM) : Prop := M 17 9 = hR h ∧ M 17 10 = hT h ∧ M 17 11 = hS h ∧ (∀ r, r < hR h → M 18 r = h 1 r) ∧ (∀ p, p < 36 → M 19 p = h 2 p) ∧ (∀ t, t < hT h → M 20 t = h 3 t ∧ M 21 t = h 4 t ∧ M 22 t = h 5 t ∧ M 23 t = h 6 t) ∧ (∀ s, s < hS h → M 24 s = me h s)
/-- all but the reader and the draft is the same -/
def AGl (M M' : pM) : Prop := ∀ o i, ¬ (o = 3 ∧ (i = 1 ∨ i = 3)) → ¬ (17 ≤ o ∧ o ≤ 24) → M' o i = M o i
theorem AGl_x {M M1 : pM} (a : AGx M M1) : AGl M M1 := fun o i q _ => a o i q
theorem AGl_tr {M M1 M2 : pM} (h1 : AGl M M1) (h2 : AGl M1 M2) : AGl M M2 := fun o i q q2 => (h2 o i q q2).trans (h1 o i q q2)
theorem AGl_set {M M' : pM} (h : AGl M M') {o k : Nat} {v : Int} (h1 : 17 ≤ o) (h2 : o ≤ 24) : AGl M (pset M' o k v) := fun o' i q q2 => by
  unfold pset
  rw [if_neg (fun z => q2 ⟨by omega, by omega⟩)]
  exact h o' i q q2
section XN
variable {tx : Nat → Int} {st d D : Nat} {M M' h : pM}
theorem YH_x (y : YH M h) (a : AGx M M') : YH M' h := by
  obtain ⟨y1, y2, y3, y4, y5, y6, y7⟩ := y
  exact ⟨by rw [a 17 9 (by omega)]; exact y1, by rw [a 17 10 (by omega)]; exact y2, by rw [a 17 11 (by omega)]; exact y3, fun r hr => by rw [a 18 r (by omega)]; exact y4 r hr, fun p hp => by rw [a 19 p (by omega)]; exact y5 p hp, fun t ht => by rw [a 20 t (by omega), a 21 t (by omega), a 22 t (by omega), a 23 t (by omega)]; exact y6 t ht, fun s hs => by rw [a 24 s (by omega)]; exact y7 s hs⟩
theorem XSt_ne {s : rgs} (x : XSt tx st M s) {o k : Nat} {v : Int} (h1 : o ≠ 3) (h2 : o ≠ 2) : XSt tx st (pset M o k v) s := by
  obtain ⟨a1, a2, a3, a4, a5, a6, a7⟩ := x
  refine ⟨by rw [pset_ne h1.symm]; exact a1, a2, fun i hi => by rw [pset_ne h2.symm]; exact a3 i hi, a4, by rw [pset_ne h1.symm]; exact a5, by rw [pset_ne h1.symm]; exact a6, ?_⟩
  cases s with
  | inl p => exact ⟨by rw [pset_ne h1.symm]; exact a7.1, a7.2⟩
  | inr a => exact ⟨by rw [pset_ne h1.symm]; exact a7.1, a7.2.1, by rw [pset_ne h1.symm]; exact a7.2.2⟩
/-- a room more; nothing is written when there are 6 -/
theorem x_addRoom (hd : 1 ≤ d) {s : rgs} (x : XSt tx st M s) (y : YH M h) (hr : hR h < 6) (v : Int) : ∃ M', xF d 70 [.inr 19, .inl v] M = rV M' ∧ XSt tx st M' s ∧ YH M' (addR h v) ∧ AGl M M' := by
  obtain ⟨D, rfl, -⟩ := dsucc hd
  obtain ⟨y1, y2, y3, y4, y5, y6, y7⟩ := y
  rw [T_House_addRoom, y1, if_neg (by rw [lt32_iff] <;> omega), if_neg (by rw [le32_iff] <;> omega), if_pos (by omega), Int.toNat_natCast, pset_ne (show 17 ≠ 18 by decide), y1]
  refine ⟨_, rfl, XSt_ne (XSt_ne x (by decide) (by decide)) (by decide) (by decide), ⟨?_, ?_, ?_, fun r hr2 => ?_, fun p hp => ?_, fun t ht => ?_, fun s hs => ?_⟩, AGl_set (AGl_set (fun _ _ _ _ => rfl) (by decide) (by decide)) (by decide) (by decide)⟩
  · rw [pset_eq, hR_addR]; omega
  · rw [hT_addR, pset_ne2 (by decide), pset_ne (by decide)]; exact y2
  · rw [hS_addR, pset_ne2 (by decide), pset_ne (by decide)]; exact y3
  · rw [hR_addR] at hr2
    unfold addR
    rw [pset_ne (show 18 ≠ 17 by decide), pset_ne (show 1 ≠ 0 by decide)]
    by_cases q : r = hR h
    · rw [q, pset_eq, pset_eq]
    · rw [pset_ne2 q, pset_ne2 q]; exact y4 r (by omega)
  · unfold addR
    rw [pset_ne (by decide), pset_ne (by decide), pset_ne (by decide), pset_ne (by decide)]; exact y5 p hp
  · rw [hT_addR] at ht
    unfold addR
    simp only [pset_ne (show 20 ≠ 17 by decide), pset_ne (show 21 ≠ 17 by decide), pset_ne (show 22 ≠ 17 by decide), pset_ne (show 23 ≠ 17 by decide), pset_ne (show 20 ≠ 18 by decide), pset_ne (show 21 ≠ 18 by decide), pset_ne (show 22 ≠ 18 by decide), pset_ne (show 23 ≠ 18 by decide), pset_ne (show 3 ≠ 0 by decide), pset_ne (show 4 ≠ 0 by decide), pset_ne (show 5 ≠ 0 by decide), pset_ne (show 6 ≠ 0 by decide), pset_ne (show 3 ≠ 1 by decide), pset_ne (show 4 ≠ 1 by decide), pset_ne (show 5 ≠ 1 by decide), pset_ne (show 6 ≠ 1 by decide)]
    exact y6 t ht
  · rw [hS_addR] at hs
    unfold addR me
    rw [pset_ne (show 24 ≠ 17 by decide), pset_ne (show 24 ≠ 18 by decide), pset_ne (show 7 ≠ 0 by decide), pset_ne (show 7 ≠ 1 by decide)]
    exact y7 s hs
theorem x_addSet (hd : 1 ≤ d) {s : rgs} (x : XSt tx st M s) (y : YH M h) (hr : hS h < 8) (b : Nat) : ∃ M', xF d 72 [.inr 19, .inl (b : Int)] M = rV M' ∧ XSt tx st M' s ∧ YH M' (addS h b) ∧ AGl M M' := by
  obtain ⟨D, rfl, -⟩ := dsucc hd
  obtain ⟨y1, y2, y3, y4, y5, y6, y7⟩ := y
  rw [T_House_addSet, y3, if_neg (by rw [lt32_iff] <;> omega), if_neg (by rw [le32_iff] <;> omega), if_pos (by omega), Int.toNat_natCast, pset_ne (show 17 ≠ 24 by decide), y3]
  refine ⟨_, rfl, XSt_ne (XSt_ne x (by decide) (by decide)) (by decide) (by decide), ⟨?_, ?_, ?_, fun r hr2 => ?_, fun p hp => ?_, fun t ht => ?_, fun s hs => ?_⟩, AGl_set (AGl_set (fun _ _ _ _ => rfl) (by decide) (by decide)) (by decide) (by decide)⟩
  · rw [hR_addS, pset_ne2 (by decide), pset_ne (by decide)]; exact y1
  · rw [hT_addS, pset_ne2 (by decide), pset_ne (by decide)]; exact y2
  · rw [pset_eq, hS_addS]; omega
  · rw [hR_addS] at hr2
    unfold addS
    rw [pset_ne (show 18 ≠ 17 by decide), pset_ne (show 18 ≠ 24 by decide), pset_ne (show 1 ≠ 0 by decide), pset_ne (show 1 ≠ 7 by decide)]; exact y4 r hr2
  · unfold addS
    rw [pset_ne (by decide), pset_ne (by decide), pset_ne (by decide), pset_ne (by decide)]; exact y5 p hp
  · rw [hT_addS] at ht
    unfold addS
    simp only [pset_ne (show 20 ≠ 17 by decide), pset_ne (show 21 ≠ 17 by decide), pset_ne (show 22 ≠ 17 by decide), pset_ne (show 23 ≠ 17 by decide), pset_ne (show 20 ≠ 24 by decide), pset_ne (show 21 ≠ 24 by decide), pset_ne (show 22 ≠ 24 by decide), pset_ne (show 23 ≠ 24 by decide), pset_ne (show 3 ≠ 0 by decide), pset_ne (show 4 ≠ 0 by decide), pset_ne (show 5 ≠ 0 by decide), pset_ne (show 6 ≠ 0 by decide), pset_ne (show 3 ≠ 7 by decide), pset_ne (show 4 ≠ 7 by decide), pset_ne (show 5 ≠ 7 by decide), pset_ne (show 6 ≠ 7 by decide)]
    exact y6 t ht
  · rw [hS_addS] at hs
    unfold addS me
    rw [pset_ne (show 24 ≠ 17 by decide), pset_ne (show 7 ≠ 0 by decide)]
    by_cases q : s = hS h
    · rw [q, pset_eq, pset_eq]; rfl
    · rw [pset_ne2 q, pset_ne2 q]; exact y7 s (by omega)
theorem x_addThing (hd : 1 ≤ d) {s : rgs} (x : XSt tx st M s) (y : YH M h) (hr : hT h < 10) (b w g r : Int) : ∃ M', xF d 71 [.inr 19, .inl b, .inl w, .inl g, .inl r] M = rV M' ∧ XSt tx st M' s ∧ YH M' (addT h b w g r) ∧ AGl M M' := by
  obtain ⟨D, rfl, -⟩ := dsucc hd
  obtain ⟨y1, y2, y3, y4, y5, y6, y7⟩ := y
  have a1 : ∀ (M : pM) (i : Nat) (v : Int), pset M 20 i v 17 10 = M 17 10 := fun _ _ _ => pset_ne (by decide)
  have a2 : ∀ (M : pM) (i : Nat) (v : Int), pset M 21 i v 17 10 = M 17 10 := fun _ _ _ => pset_ne (by decide)
  have a3 : ∀ (M : pM) (i : Nat) (v : Int), pset M 22 i v 17 10 = M 17 10 := fun _ _ _ => pset_ne (by decide)
  have a4 : ∀ (M : pM) (i : Nat) (v : Int), pset M 23 i v 17 10 = M 17 10 := fun _ _ _ => pset_ne (by decide)
  have i1 : (0 : Int) ≤ (hT h : Int) ∧ (hT h : Int) < 10 := by omega
  rw [T_House_addThing]
  simp only [a1, a2, a3, a4, y2, Int.toNat_natCast]
  rw [if_neg (by rw [lt32_iff] <;> omega), if_neg (by rw [le32_iff] <;> omega), if_pos i1, if_pos i1, if_pos i1, if_pos i1]
  refine ⟨_, rfl, XSt_ne (XSt_ne (XSt_ne (XSt_ne (XSt_ne x (by decide) (by decide)) (by decide) (by decide)) (by decide) (by decide)) (by decide) (by decide)) (by decide) (by decide), ⟨?_, ?_, ?_, fun r hr2 => ?_, fun p hp => ?_, fun t ht => ?_, fun s hs => ?_⟩, AGl_set (AGl_set (AGl_set (AGl_set (AGl_set (fun _ _ _ _ => rfl) (by decide) (by decide)) (by decide) (by decide)) (by decide) (by decide)) (by decide) (by decide)) (by decide) (by decide)⟩
  · rw [hR_addT, pset_ne2 (by decide), pset_ne (by decide), pset_ne (by decide), pset_ne (by decide), pset_ne (by decide)]; exact y1
  · rw [pset_eq, hT_addT]; omega
  · rw [hS_addT, pset_ne2 (by decide), pset_ne (by decide), pset_ne (by decide), pset_ne (by decide), pset_ne (by decide)]; exact y3
  · rw [hR_addT] at hr2
    unfold addT
    rw [pset_ne (show 18 ≠ 17 by decide), pset_ne (show 18 ≠ 23 by decide), pset_ne (show 18 ≠ 22 by decide), pset_ne (show 18 ≠ 21 by decide), pset_ne (show 18 ≠ 20 by decide), pset_ne (show 1 ≠ 0 by decide), pset_ne (show 1 ≠ 6 by decide), pset_ne (show 1 ≠ 5 by decide), pset_ne (show 1 ≠ 4 by decide), pset_ne (show 1 ≠ 3 by decide)]; exact y4 r hr2
  · unfold addT
    rw [pset_ne (show 19 ≠ 17 by decide), pset_ne (show 19 ≠ 23 by decide), pset_ne (show 19 ≠ 22 by decide), pset_ne (show 19 ≠ 21 by decide), pset_ne (show 19 ≠ 20 by decide), pset_ne (show 2 ≠ 0 by decide), pset_ne (show 2 ≠ 6 by decide), pset_ne (show 2 ≠ 5 by decide), pset_ne (show 2 ≠ 4 by decide), pset_ne (show 2 ≠ 3 by decide)]; exact y5 p hp
  · rw [hT_addT] at ht
    unfold addT
    simp only [pset_ne (show 20 ≠ 17 by decide), pset_ne (show 21 ≠ 17 by decide), pset_ne (show 22 ≠ 17 by decide), pset_ne (show 23 ≠ 17 by decide), pset_ne (show 20 ≠ 21 by decide), pset_ne (show 20 ≠ 22 by decide), pset_ne (show 20 ≠ 23 by decide), pset_ne (show 21 ≠ 22 by decide), pset_ne (show 21 ≠ 23 by decide), pset_ne (show 21 ≠ 20 by decide), pset_ne (show 22 ≠ 20 by decide), pset_ne (show 22 ≠ 21 by decide), pset_ne (show 22 ≠ 23 by decide), pset_ne (show 23 ≠ 20 by decide), pset_ne (show 23 ≠ 21 by decide), pset_ne (show 23 ≠ 22 by decide), pset_ne (show 3 ≠ 0 by decide), pset_ne (show 4 ≠ 0 by decide), pset_ne (show 5 ≠ 0 by decide), pset_ne (show 6 ≠ 0 by decide), pset_ne (show 3 ≠ 4 by decide), pset_ne (show 3 ≠ 5 by decide), pset_ne (show 3 ≠ 6 by decide), pset_ne (show 4 ≠ 3 by decide), pset_ne (show 4 ≠ 5 by decide), pset_ne (show 4 ≠ 6 by decide), pset_ne (show 5 ≠ 3 by decide), pset_ne (show 5 ≠ 4 by decide), pset_ne (show 5 ≠ 6 by decide), pset_ne (show 6 ≠ 3 by decide), pset_ne (show 6 ≠ 4 by decide), pset_ne (show 6 ≠ 5 by decide)]
    by_cases q : t = hT h
    · rw [q]; simp only [pset_eq, and_self]
    · simp only [pset_ne2 q]; exact y6 t (by omega)
  · rw [hS_addT] at hs
    unfold addT me
    rw [pset_ne (show 24 ≠ 17 by decide), pset_ne (show 24 ≠ 23 by decide), pset_ne (show 24 ≠ 22 by decide), pset_ne (show 24 ≠ 21 by decide), pset_ne (show 24 ≠ 20 by decide), pset_ne (show 7 ≠ 0 by decide), pset_ne (show 7 ≠ 6 by decide), pset_ne (show 7 ≠ 5 by decide), pset_ne (show 7 ≠ 4 by decide), pset_ne (show 7 ≠ 3 by decide)]
    exact y7 s hs
end XN
