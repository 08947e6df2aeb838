/-! the class reads a line -/
section XHL
variable {tx : Nat → Int} {st d D : Nat} {M M' h : pM}
theorem x_addSet0 (hd : 1 ≤ d) {s : rgs} (x : XSt tx st M s) (y : YH M h) (hr : hS h < 8) (v : Int) : ∃ M', xF d 72 [.inr 19, .inl v] M = rV M' ∧ XSt tx st M' s ∧ AGl M M' := by
  obtain ⟨D, rfl, -⟩ := dsucc hd
  rw [T_House_addSet, y.2.2.1, if_neg (by rw [lt32_iff] <;> omega), if_neg (by rw [le32_iff] <;> omega), if_pos (by omega)]
  exact ⟨_, rfl, XSt_ne (XSt_ne x (by decide) (by decide)) (by decide) (by decide), AGl_set (AGl_set (fun _ _ _ _ => rfl) (by decide) (by decide)) (by decide) (by decide)⟩
theorem sgT_bad {a R : Nat} (h : ¬ (48 ≤ hc tx st a ∧ hc tx st a ≤ 57)) : sgT tx st R (.inr a) = .inl a := by
  have e : sgI tx st (.inr a) = .inl a := if_neg h
  unfold sgT
  rw [e]
  rfl
theorem x_tail (hD : 5 ≤ D) {a : Nat} (x : XSt tx st M (.inr a)) (y : YH M h) (hR6 : hR h ≤ 6) (hT10 : hT h ≤ 10) : ∃ M', (pbI (xF D 138 [.inr 5] M) fun v4 M3 =>
 if eq32 v4 0 then
 (pbN (xF D 135 [.inr 5, .inl (M3 3 1)] M3) fun M5 =>
 some (none, M5))
 else
 (if le32 10 (M3 17 10) then
 (pbN (xF D 135 [.inr 5, .inl (M3 3 1)] M3) fun M6 =>
 some (none, M6))
 else
 (pbN (xF D 110 [.inr 6, .inr 19] M3) fun M7 =>
 some (none, M7)))) = rV M' ∧ AGl M M' ∧ ((¬ ((48 ≤ hc tx st a ∧ hc tx st a ≤ 57) ∧ hT h < 10) ∧ XSt tx st M' (.inl a)) ∨ ((48 ≤ hc tx st a ∧ hc tx st a ≤ 57) ∧ hT h < 10 ∧ XSt tx st M' (sgT tx st (hR h) (.inr a)) ∧ ∀ c, sgT tx st (hR h) (.inr a) = .inr c → YH M' (addT h (sgIv tx st (.inr a)) (tvW tx st (.inr a)) (tvG tx st (.inr a)) (tvR tx st (hR h) (.inr a))))) := by
  have hst := x.2.1
  have ha := x.2.2.2.2.2.2.2.1
  obtain ⟨e, r⟩ := x_failG (d := D) (by omega) x (p := a) (by omega)
  rw [x_seesG (by omega) x, pbI_rI, XSt_at x, y.2.1]
  by_cases q : 48 ≤ hc tx st a ∧ hc tx st a ≤ 57
  · rw [if_pos q, if_neg (by decide)]
    by_cases q2 : hT h < 10
    · obtain ⟨M1, e1, r1, a1, y1⟩ := x_thingLine (d := D) (by omega) x y hR6 q2
      rw [if_neg (by rw [le32_iff] <;> omega), e1, pbN_rV]
      exact ⟨M1, rfl, a1, Or.inr ⟨q, q2, r1, y1⟩⟩
    · rw [if_pos (by rw [le32_iff] <;> omega), e, pbN_rV]
      exact ⟨_, rfl, AGl_x (AGx_set AGx_rfl (Or.inr rfl)), Or.inl ⟨fun z => q2 z.2, r⟩⟩
  · rw [if_neg q, if_pos rfl, e, pbN_rV]
    exact ⟨_, rfl, AGl_x (AGx_set AGx_rfl (Or.inr rfl)), Or.inl ⟨fun z => q z.1, r⟩⟩
theorem x_line (hd : 6 ≤ d) {a : Nat} (x : XSt tx st M (.inr a)) (y : YH M h) (hR6 : hR h ≤ 6) (hT10 : hT h ≤ 10) (hS8 : hS h ≤ 8) : ∃ M' s', xF d 108 [.inr 6, .inr 19] M = rV M' ∧ XSt tx st M' s' ∧ AGl M M' ∧ rlS tx st (lnS tx st h a).1 s' ∧ ∀ b, s' = .inr b → YH M' (lnS tx st h a).2 := by
  obtain ⟨D, rfl, hD⟩ := dsucc hd
  have hr := hx_range x a
  have y1 := y.1
  have y3 := y.2.2.1
  obtain ⟨MT, eT, aT, altT⟩ := x_tail (D := D) (by omega) x y hR6 hT10
  rw [T_HouseReader_line, x_peekG (by omega) x, pbI_rI, y1, y3, XSt_at x, eT]
  unfold lnS
  by_cases c1 : hc tx st a = 114
  · have k1 := (hx_is x (by decide) (by decide)).mpr c1
    rw [k1, if_neg (fun z => z rfl), if_pos c1]
    by_cases q : hR h = 6
    · rw [if_pos (by rw [le32_iff] <;> omega), if_pos (by decide), if_pos (by decide), if_pos q]
      rcases altT with ⟨-, r⟩ | ⟨z, -⟩
      · exact ⟨MT, .inl a, rfl, r, aT, Or.inl rfl, fun b hb => (by cases hb)⟩
      · omega
    · have hl : a < st := hc_lt (tx := tx) (st := st) (by omega)
      have x2 := XSt_next x hl
      have a2 : AGx M (pset M 3 1 ((a : Int) + 1)) := AGx_set AGx_rfl (Or.inl rfl)
      obtain ⟨v, M1, e1, r1, a1, b1, i1⟩ := x_inches (d := D) (by omega) x2
      obtain ⟨M2, e2, r2, y2, a3⟩ := x_addRoom (d := D) (by omega) r1 (YH_x y (AGx_tr a2 a1)) (by omega) v
      rw [if_neg (by rw [le32_iff] <;> omega), if_neg q, e1, pbI_rI, e2, pbN_rV]
      exact ⟨M2, _, rfl, r2, AGl_tr (AGl_x (AGx_tr a2 a1)) a3, Or.inl rfl, fun b hb => by rw [← i1 b hb]; exact y2⟩
  · have n1 : hx tx st a ≠ 114 := fun z => c1 ((hx_is x (by decide) (by decide)).mp z)
    rw [if_pos (by rw [eq32_iff] <;> omega), if_neg c1]
    by_cases c2 : hc tx st a = 100
    · have k2 := (hx_is x (by decide) (by decide)).mpr c2
      have hl : a < st := hc_lt (tx := tx) (st := st) (by omega)
      have x2 := XSt_next x hl
      have a2 : AGx M (pset M 3 1 ((a : Int) + 1)) := AGx_set AGx_rfl (Or.inl rfl)
      obtain ⟨M1, e1, r1, a1, i1⟩ := x_doorLine (d := D) (by omega) x2 (YH_x y a2) hR6
      rw [k2, if_neg (fun z => z rfl), if_pos c2, e1, pbN_rV]
      exact ⟨M1, _, rfl, r1, AGl_tr (AGl_x a2) a1, Or.inl rfl, i1⟩
    · have n2 : hx tx st a ≠ 100 := fun z => c2 ((hx_is x (by decide) (by decide)).mp z)
      rw [if_pos (by rw [eq32_iff] <;> omega), if_neg c2]
      by_cases c3 : hc tx st a = 115
      · have k3 := (hx_is x (by decide) (by decide)).mpr c3
        rw [k3, if_neg (fun z => z rfl), if_pos c3]
        by_cases q : hS h = 8
        · rw [if_pos (by rw [le32_iff] <;> omega), if_pos q]
          rcases altT with ⟨-, r⟩ | ⟨z, -⟩
          · exact ⟨MT, .inl a, rfl, r, aT, Or.inl rfl, fun b hb => (by cases hb)⟩
          · omega
        · have hl : a < st := hc_lt (tx := tx) (st := st) (by omega)
          have x2 := XSt_next x hl
          have a2 : AGx M (pset M 3 1 ((a : Int) + 1)) := AGx_set AGx_rfl (Or.inl rfl)
          have y2 := YH_x y a2
          obtain ⟨v, M1, s', e1, r1, a1, l1, i1⟩ := x_letters (d := D) (by omega) hT10 x2
          rw [if_neg (by rw [le32_iff] <;> omega), if_neg q, y2.2.1, e1, pbI_rI]
          cases s' with
          | inl p =>
            obtain ⟨M2, e2, r2, a3⟩ := x_addSet0 (d := D) (by omega) r1 (YH_x y2 a1) (by omega) v
            rw [e2, pbN_rV]
            exact ⟨M2, _, rfl, r2, AGl_tr (AGl_x (AGx_tr a2 a1)) a3, l1, fun b hb => (by cases hb)⟩
          | inr c =>
            have hv := i1 c rfl
            obtain ⟨M2, e2, r2, y3', a3⟩ := x_addSet (d := D) (by omega) r1 (YH_x y2 a1) (by omega) (sgL tx st (hT h) 11 (a + 1) 0 (-1)).2
            rw [hv, e2, pbN_rV]
            exact ⟨M2, _, rfl, r2, AGl_tr (AGl_x (AGx_tr a2 a1)) a3, l1, fun b hb => y3'⟩
      · have n3 : hx tx st a ≠ 115 := fun z => c3 ((hx_is x (by decide) (by decide)).mp z)
        rw [if_pos (by rw [eq32_iff] <;> omega), if_neg c3]
        rcases altT with ⟨z, r⟩ | ⟨z1, z2, r, i⟩
        · refine ⟨MT, .inl a, rfl, r, aT, Or.inl ?_, fun b hb => (by cases hb)⟩
          by_cases q : hT h = 10
          · rw [if_pos q]
          · rw [if_neg q]; exact (sgT_bad (fun w => z ⟨w, by omega⟩)).symm
        · rw [if_neg (by omega)]
          exact ⟨MT, _, rfl, r, aT, Or.inl rfl, i⟩
end XHL
