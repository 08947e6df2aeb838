/-! the class reads a set's letters -/
/-- the class's state against the told one: the same, or it stops a step earlier at a sign that can't stand -/
def rlS (tx : Nat → Int) (st : Nat) (s s' : rgs) : Prop := s' = s ∨ ∃ b, s = .inr b ∧ s' = .inl b ∧ b < st ∧ hc tx st b ≠ 59
section XL
variable {tx : Nat → Int} {st d D T : Nat} {M : pM}
theorem x_letter (hd : 3 ≤ d) {a : Nat} (h : XSt tx st M (.inr a)) {lo : Int} (h1 : 0 ≤ lo) (h2 : lo ≤ 10) (hT : T ≤ 10) : ∃ v M', xF d 140 [.inr 5, .inl lo, .inl (T : Int)] M = rI v M' ∧ AGx M M' ∧ ((lo ≤ hc tx st a - 97 ∧ hc tx st a - 97 < (T : Int) ∧ v = hc tx st a - 97 ∧ XSt tx st M' (.inr (a + 1))) ∨ (¬ (lo ≤ hc tx st a - 97 ∧ hc tx st a - 97 < (T : Int)) ∧ v = -1 ∧ XSt tx st M' (.inl a))) := by
  obtain ⟨D, rfl, hD⟩ := dsucc hd
  obtain ⟨D', rfl, hD'⟩ := dsucc (show 1 ≤ D by omega)
  have ha := h.2.2.2.2.2.2.2.1
  have hr := hx_range h a
  have hst := h.2.1
  rw [T_Reader_letter, x_peekG (by omega) h, pbI_rI, T_Reader_counted_3, XSt_at h]
  by_cases q : lo ≤ hc tx st a - 97 ∧ hc tx st a - 97 < (T : Int)
  · have q2 := hx_same h (a := a) (by omega)
    have hl : a < st := hc_lt (tx := tx) (st := st) (by omega)
    rw [q2, if_neg (by rw [lt32_iff] <;> omega), if_pos (by rw [lt32_iff] <;> omega), pbI_rI]
    exact ⟨_, _, rfl, AGx_set AGx_rfl (Or.inl rfl), Or.inl ⟨q.1, q.2, rfl, XSt_next h hl⟩⟩
  · have q2 : ¬ (lo + 97 ≤ hx tx st a ∧ hx tx st a ≤ (T : Int) + 96) := fun z => by
      have := (hx_hc h (a := a) (lo := lo + 97) (hi := (T : Int) + 96) (by omega) (by omega)).mp z
      omega
    obtain ⟨e, r⟩ := x_failG (d := D') (by omega) h (p := a) (by omega)
    by_cases q3 : hx tx st a - 97 < lo
    · rw [if_pos (by rw [lt32_iff] <;> omega), e, pbN_rV, pbI_rI]
      exact ⟨_, _, rfl, AGx_set AGx_rfl (Or.inr rfl), Or.inr ⟨q, rfl, r⟩⟩
    · rw [if_neg (by rw [lt32_iff] <;> omega), if_neg (by rw [lt32_iff] <;> omega), e, pbN_rV, pbI_rI]
      exact ⟨_, _, rfl, AGx_set AGx_rfl (Or.inr rfl), Or.inr ⟨q, rfl, r⟩⟩
theorem x_letB (hD : 1 ≤ D) {p : Nat} (h : XSt tx st M (.inl p)) (x1 x2 x3 x4 : Int) : xE D 111 16 [.inr 6, .inl x1, .inl x2, .inl x3, .inl x4] [] M = rI x3 M := by
  rw [L_HouseReader_letters_16]
  split
  · rfl
  · rw [x_goesB hD h, pbI_rI, if_pos rfl]
theorem x_lets (hD : 3 ≤ D) (hT : T ≤ 10) : ∀ (f a bits : Nat) (last x4 : Int) (M : pM), XSt tx st M (.inr a) → bits ≠ 0 → bits < 1024 → 0 ≤ last → last ≤ 9 → 10 ≤ (f : Int) + last → 0 ≤ x4 → x4 ≤ last → ∃ z M' s', xE D 111 16 [.inr 6, .inl (T : Int), .inl last, .inl (bits : Int), .inl x4] [] M = rI z M' ∧ XSt tx st M' s' ∧ AGx M M' ∧ rlS tx st (sgL tx st T f a bits last).1 s' ∧ (∀ b, s' = .inr b → z = ((sgL tx st T f a bits last).2 : Int)) := by
  intro f
  induction f with
  | zero => intro a bits last x4 M h hb0 hb hl1 hl2 hf; omega
  | succ f ih =>
    intro a bits last x4 M h hb0 hb hl1 hl2 hf hx1 hx2
    have hr := hx_range h a
    have hu : sgL tx st T (f + 1) a bits last = if 97 ≤ hc tx st a ∧ hc tx st a ≤ 106 then (if hc tx st a - 97 ≤ last ∨ (T : Int) ≤ hc tx st a - 97 then (.inl a, bits) else sgL tx st T f (a + 1) (bits ||| 2 ^ (hc tx st a - 97).toNat) (hc tx st a - 97)) else (if bits = 0 then .inl a else .inr a, bits) := rfl
    rw [L_HouseReader_letters_16, if_neg (by rw [le32_iff] <;> omega), x_goesG (by omega) h, pbI_rI]
    by_cases q1 : a < st
    · rw [if_pos q1, if_neg (by decide), x_peekG (by omega) h, pbI_rI]
      by_cases q2 : hc tx st a = 59
      · have q3 := (hx_is h (by decide) (by decide)).mpr q2
        rw [if_pos (by rw [q3]), hu, if_neg (by omega), if_neg hb0]
        exact ⟨_, M, .inr a, rfl, h, AGx_rfl, Or.inl rfl, fun _ _ => rfl⟩
      · have q3 : hx tx st a ≠ 59 := fun z => q2 ((hx_is h (by decide) (by decide)).mp z)
        obtain ⟨v, M1, e1, a1, alt⟩ := x_letter (d := D) (by omega) h (lo := last + 1) (by omega) (by omega) hT
        rw [if_neg (by rw [eq32_iff] <;> omega), e1, pbI_rI]
        rcases alt with ⟨r1, r2, rfl, r4⟩ | ⟨r1, rfl, r4⟩
        · have hp : 2 ^ (hc tx st a - 97).toNat < 1024 := show _ < 2 ^ 10 from Nat.pow_lt_pow_right (by decide) (by omega)
          have ej : jshl 1 (hc tx st a - 97) = ((2 ^ (hc tx st a - 97).toNat : Nat) : Int) := by
            rw [← jshl_one _ (show (hc tx st a - 97).toNat < 31 by omega), Int.toNat_of_nonneg (by omega)]
          rw [if_pos (by rw [le32_iff] <;> omega), ej, jor_nat (by omega) (by omega), hu, if_pos (by omega), if_neg (by omega)]
          have hor : bits ≤ bits ||| 2 ^ (hc tx st a - 97).toNat := Nat.left_le_or
          obtain ⟨z, M', s', i1, i2, i3, i4, i5⟩ := ih (a + 1) (bits ||| 2 ^ (hc tx st a - 97).toNat) (hc tx st a - 97) (x4 + 1) M1 r4 (by omega) (or_bit (by omega) hb) (by omega) (by omega) (by omega) (by omega) (by omega)
          exact ⟨z, M', s', i1, i2, AGx_tr a1 i3, i4, i5⟩
        · rw [if_neg (by decide), x_letB (by omega) r4]
          refine ⟨_, M1, .inl a, rfl, r4, a1, ?_, fun b hb2 => (by cases hb2)⟩
          rw [hu]
          by_cases q4 : 97 ≤ hc tx st a ∧ hc tx st a ≤ 106
          · rw [if_pos q4, if_pos (by omega)]; exact Or.inl rfl
          · rw [if_neg q4, if_neg hb0]; exact Or.inr ⟨a, rfl, rfl, q1, q2⟩
    · have q2 : hc tx st a = -1 := if_neg q1
      rw [if_neg q1, if_pos rfl, hu, if_neg (by omega), if_neg hb0]
      exact ⟨_, M, .inr a, rfl, h, AGx_rfl, Or.inl rfl, fun _ _ => rfl⟩
theorem x_letters (hd : 4 ≤ d) (hT : T ≤ 10) {a : Nat} (h : XSt tx st M (.inr a)) : ∃ z M' s', xF d 111 [.inr 6, .inl (T : Int)] M = rI z M' ∧ XSt tx st M' s' ∧ AGx M M' ∧ rlS tx st (sgL tx st T 11 a 0 (-1)).1 s' ∧ (∀ b, s' = .inr b → z = ((sgL tx st T 11 a 0 (-1)).2 : Int)) := by
  obtain ⟨D, rfl, hD⟩ := dsucc hd
  have hu : sgL tx st T (10 + 1) a 0 (-1) = if 97 ≤ hc tx st a ∧ hc tx st a ≤ 106 then (if hc tx st a - 97 ≤ -1 ∨ (T : Int) ≤ hc tx st a - 97 then (.inl a, 0) else sgL tx st T 10 (a + 1) (0 ||| 2 ^ (hc tx st a - 97).toNat) (hc tx st a - 97)) else (if 0 = 0 then .inl a else .inr a, 0) := rfl
  obtain ⟨v, M1, e1, a1, alt⟩ := x_letter (d := D) (by omega) h (lo := 0) (by decide) (by decide) hT
  rw [T_HouseReader_letters, e1, pbI_rI, show (11 : Nat) = 10 + 1 from rfl]
  rcases alt with ⟨r1, r2, rfl, r4⟩ | ⟨r1, rfl, r4⟩
  · have hp : 2 ^ (hc tx st a - 97).toNat < 1024 := show _ < 2 ^ 10 from Nat.pow_lt_pow_right (by decide) (by omega)
    have hp0 : 0 < 2 ^ (hc tx st a - 97).toNat := Nat.two_pow_pos _
    have ej : jshl 1 (hc tx st a - 97) = ((2 ^ (hc tx st a - 97).toNat : Nat) : Int) := by
      rw [← jshl_one _ (show (hc tx st a - 97).toNat < 31 by omega), Int.toNat_of_nonneg (by omega)]
    rw [if_pos (by rw [le32_iff] <;> omega), ej, hu, if_pos (by omega), if_neg (by omega), Nat.zero_or]
    obtain ⟨z, M', s', i1, i2, i3, i4, i5⟩ := x_lets (D := D) (by omega) hT 10 (a + 1) (2 ^ (hc tx st a - 97).toNat) (hc tx st a - 97) 0 M1 r4 (by omega) hp (by omega) (by omega) (by omega) (by decide) (by omega)
    exact ⟨z, M', s', i1, i2, AGx_tr a1 i3, i4, i5⟩
  · rw [if_neg (by decide), x_letB (by omega) r4]
    refine ⟨_, M1, .inl a, rfl, r4, a1, ?_, fun b hb2 => (by cases hb2)⟩
    rw [hu]
    by_cases q4 : 97 ≤ hc tx st a ∧ hc tx st a ≤ 106
    · rw [if_pos q4, if_pos (by omega)]; exact Or.inl rfl
    · rw [if_neg q4, if_pos rfl]; exact Or.inl rfl
end XL
