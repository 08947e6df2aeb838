/-! the class's house is the told one -/
section XHT
variable {tx : Nat → Int} {d D L : Nat} {M M' h : pM}
theorem x_readH (hD : 8 ≤ D) {M1 : pM} (y : YH M1 h) (W : BD h) (h1 : M1 1 1 = (L : Int)) (hL : L ≤ 80) (ht : ∀ i, i < 80 → M1 2 i = ux (tx i)) (hx : ∀ i, i < 80 → -128 ≤ tx i ∧ tx i ≤ 127) : ∃ z M', xF D 107 [.inr 6, .inr 19] M1 = rI z M' ∧ AGl (pset (pset (pset M1 3 1 0) 3 3 (-1)) 3 2 ((min L 76 : Nat) : Int)) M' ∧ rdA L (phS tx (min L 76) 78 0 h 0) z M' := by
  obtain ⟨D, rfl, hD'⟩ := dsucc (show 1 ≤ D by omega)
  obtain ⟨D', rfl, -⟩ := dsucc (show 1 ≤ D by omega)
  have ej : jmin (L : Int) 76 = ((min L 76 : Nat) : Int) := by
    rw [jmin_eq (by omega) (by omega) (by decide) (by decide)]; omega
  rw [T_HouseReader_read, T_Reader_start_3, pbN_rV, pset_ne (show 1 ≠ 3 by decide), pset_ne (show 1 ≠ 3 by decide), h1, ej]
  generalize hB : pset (pset (pset M1 3 1 0) 3 3 (-1)) 3 2 ((min L 76 : Nat) : Int) = MB
  have eo : ∀ o i, o ≠ 3 → MB o i = M1 o i := fun o i ho => by rw [← hB, pset_ne ho, pset_ne ho, pset_ne ho]
  have xB : XSt tx (min L 76) MB (.inr 0) := by
    refine ⟨?_, by omega, fun i hi => by rw [eo 2 i (by decide)]; exact ht i hi, hx, ?_, ?_, ?_, by omega, ?_⟩
    · rw [← hB, pset_eq]
    · rw [← hB, pset_ne2 (by decide), pset_ne2 (by decide), pset_eq]; decide
    · rw [← hB, pset_ne2 (by decide), pset_ne2 (by decide), pset_eq]; decide
    · rw [← hB, pset_ne2 (by decide), pset_ne2 (by decide), pset_eq]; rfl
    · rw [← hB, pset_ne2 (by decide), pset_eq]
  have yB : YH MB h := by
    obtain ⟨y1, y2, y3, y4, y5, y6, y7⟩ := y
    exact ⟨by rw [eo 17 9 (by decide)]; exact y1, by rw [eo 17 10 (by decide)]; exact y2, by rw [eo 17 11 (by decide)]; exact y3, fun r hr => by rw [eo 18 r (by decide)]; exact y4 r hr, fun p hp => by rw [eo 19 p (by decide)]; exact y5 p hp, fun t ht => by rw [eo 20 t (by decide), eo 21 t (by decide), eo 22 t (by decide), eo 23 t (by decide)]; exact y6 t ht, fun s hs => by rw [eo 24 s (by decide)]; exact y7 s hs⟩
  obtain ⟨z, M', e, a, r⟩ := x_rd (D := D' + 1) (by omega) hL rfl 78 0 h 0 0 MB xB yB W (by rw [eo 1 1 (by decide)]; exact h1) (by omega) (by omega)
  exact ⟨z, M', e, a, r⟩
theorem x_house {d : Nat} (hd : 10 ≤ d) (hM : gM gAll M) (X : XH M h) (W : BD h) (h1 : M 1 1 = (L : Int)) (ht : ∀ i, i < 80 → M 2 i = ux (tx i)) (hx : ∀ i, i < 80 → -128 ≤ tx i ∧ tx i ≤ 127) {z : Int} (e : xF d 2 [.inr 2] M = rI z M') : z = hsA tx L h ∧ XH M' (hsH tx L h) ∧ (hsN tx L h → M' 39 3 = 0) ∧ (¬ hsN tx L h → M' 39 3 = M 39 3) := by
  obtain ⟨D, rfl, hD⟩ := dsucc hd
  have b1 := gm_i hM 1 1 (lo := 0) (hi := 80) (by decide +kernel) (by decide +kernel)
  rw [T_X_house, h1] at e
  by_cases q : L = 0
  · have eA : hsA tx L h = 0 := if_pos q
    have eH : hsH tx L h = h := if_pos q
    rw [if_neg (fun y => y (by rw [q]; rfl))] at e
    rw [eA, eH, ← (rI_inj e).2]
    exact ⟨(rI_inj e).1.symm, X, fun y => absurd q y.1, fun _ => rfl⟩
  · obtain ⟨M1, e1, g1, -⟩ := v_copy2 (d := D) (by omega) hM
    obtain ⟨M1', e1', y1, c1⟩ := x_become17 (d := D) (by omega) X W
    obtain rfl := rV_inj (e1.symm.trans e1')
    obtain ⟨v, M2, e2, g2, -⟩ := v_read (d := D) (by omega) g1
    obtain ⟨v', M2', e2', a2, r2⟩ := x_readH (tx := tx) (D := D) (by omega) y1 W (by rw [c1 1 1 (by omega)]; exact h1) (by omega) (fun i hi => by rw [c1 2 i (by omega)]; exact ht i hi) hx
    obtain ⟨rfl, rfl⟩ := rI_inj (e2.symm.trans e2')
    obtain ⟨e3, g3⟩ := x_cut0 (d := D) (by omega) g2
    rw [if_pos (by rw [eq32_iff] <;> omega), e1, pbN_rV, e2, pbI_rI, e3, pbI_rI] at e
    have uA : hsA tx L h = match phE L (phS tx (min L 76) 78 0 h 0).1 with
      | .inl p => -1 - (p : Int)
      | .inr _ => ((phS tx (min L 76) 78 0 h 0).2.2 : Int) := if_neg q
    have uH : hsH tx L h = match phE L (phS tx (min L 76) 78 0 h 0).1 with
      | .inl _ => h
      | .inr _ => (phS tx (min L 76) 78 0 h 0).2.1 := if_neg q
    have hn := phS_n tx (min L 76) 78 0 h 0
    unfold rdA at r2
    cases hp : phE L (phS tx (min L 76) 78 0 h 0).1 with
    | inl p =>
      rw [hp] at r2 uA uH
      obtain ⟨r2, p80⟩ : v = -1 - (p : Int) ∧ p ≤ 80 := r2
      have hp80 : lt32 v 0 := by rw [lt32_iff] <;> omega
      rw [if_pos hp80] at e
      rw [uA, uH, ← (rI_inj e).2]
      refine ⟨by rw [← (rI_inj e).1]; exact r2, XH_eq X (fun o i o1 o2 _ => ?_), fun y => ?_, fun _ => ?_⟩
      · rw [pset_ne (by omega), a2 o i (by omega) (by omega), pset_ne (by omega), pset_ne (by omega), pset_ne (by omega), c1 o i (by omega)]
      · obtain ⟨-, b, hb⟩ := y
        rw [hp] at hb; cases hb
      · rw [pset_ne (by decide), a2 39 3 (by decide) (by decide), pset_ne (by decide), pset_ne (by decide), pset_ne (by decide), c1 39 3 (by decide)]
    | inr b =>
      rw [hp] at r2 uA uH
      obtain ⟨r3, r4⟩ := r2
      have hp2 : ∃ c, (phS tx (min L 76) 78 0 h 0).1 = .inr c := by
        cases k : (phS tx (min L 76) 78 0 h 0).1 with
        | inl p => rw [k] at hp; cases hp
        | inr c => exact ⟨c, rfl⟩
      obtain ⟨c, hp3⟩ := hp2
      have W3 := BD_phS 78 0 h 0 c W hp3
      obtain ⟨M4, e4, g4, f4⟩ := v_become (d := D) (by omega) g3
      have y3 : YH (pset M2 1 1 0) (phS tx (min L 76) 78 0 h 0).2.1 := by
        obtain ⟨y1, y2, y3, y4, y5, y6, y7⟩ := r4
        exact ⟨by rw [pset_ne (by decide)]; exact y1, by rw [pset_ne (by decide)]; exact y2, by rw [pset_ne (by decide)]; exact y3, fun r hr => by rw [pset_ne (by decide)]; exact y4 r hr, fun p hp => by rw [pset_ne (by decide)]; exact y5 p hp, fun t ht => by rw [pset_ne (by decide), pset_ne (by decide), pset_ne (by decide), pset_ne (by decide)]; exact y6 t ht, fun s hs => by rw [pset_ne (by decide)]; exact y7 s hs⟩
      obtain ⟨M4', e4', X4⟩ := x_become7 (d := D) (by omega) y3 W3.1 W3.2.1 W3.2.2
      obtain rfl := rV_inj (e4.symm.trans e4')
      obtain ⟨M5, e5, g5, f5⟩ := v_hang (d := D) (by omega) g4
      obtain ⟨D', rfl, -⟩ := dsucc (show 1 ≤ D by omega)
      rw [if_neg (by rw [lt32_iff] <;> omega), e4, pbN_rV, e5, pbN_rV, T_Past_forget, pbN_rV] at e
      rw [uA, uH, ← (rI_inj e).2]
      refine ⟨by rw [← (rI_inj e).1]; exact r3, XH_eq X4 (fun o i o1 o2 q7 => ?_), fun _ => pset_eq, fun y => absurd ⟨q, b, hp⟩ y⟩
      · rw [pset_ne (by omega), f5 o i ?_]
        cases zz : wOK [(7, 12), (15, 999), (16, 999)] o i with
        | false => rfl
        | true =>
          obtain ⟨w, hw, h2⟩ := List.any_eq_true.mp zz
          rw [Bool.and_eq_true, Bool.or_eq_true] at h2
          simp only [List.mem_cons, List.not_mem_nil, or_false] at hw
          rcases hw with rfl | rfl | rfl
          · have k1 : 7 = o := Nat.eq_of_beq_eq_true h2.1
            rcases h2.2 with h3 | h3
            · exact absurd ⟨k1.symm, (Nat.eq_of_beq_eq_true h3).symm⟩ q7
            · cases h3
          · have k1 : 15 = o := Nat.eq_of_beq_eq_true h2.1
            omega
          · have k1 : 16 = o := Nat.eq_of_beq_eq_true h2.1
            omega
end XHT
