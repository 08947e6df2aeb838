/-! the reference's rule reading ends: its contract, by hand -/
section RCN
variable {D d : Nat} {M : pM}
theorem z_setsOf (h8 : 0 ≤ M 60 8 ∧ M 60 8 ≤ 8) (x1 : Int) : ∀ (m k : Nat) (x2 : Int), k + m = 8 → ∃ z, ∀ D M', AGr M M' → xE (D + 1) 196 4 [.inr 62, .inl x1, .inl x2, .inl (k : Int)] [] M' = rI z M'
  | 0, k, x2, hk => ⟨x2, fun D M' A => by rw [L_M_setsOf_4, A 60 8 (by omega), if_pos (by rw [le32_iff] <;> omega)]⟩
  | m + 1, k, x2, hk => by
    by_cases q : le32 (M 60 8) (k : Int)
    · exact ⟨x2, fun D M' A => by rw [L_M_setsOf_4, A 60 8 (by omega), if_pos q]⟩
    · by_cases q2 : eq32 (jand (jshr (M 67 k) x1) 1) 1
      · obtain ⟨z, e⟩ := z_setsOf h8 x1 m (k + 1) (jor x2 (jshl 1 (k : Int))) (by omega)
        refine ⟨z, fun D M' A => ?_⟩
        rw [L_M_setsOf_4, A 60 8 (by omega), if_neg q, if_pos (by omega), Int.toNat_natCast, A 67 k (by omega), T_M_has, if_neg (fun w => w q2), pbI_rI, if_neg (by decide), show ((k : Int) + 1) = ((k + 1 : Nat) : Int) by omega]
        exact e D M' A
      · obtain ⟨z, e⟩ := z_setsOf h8 x1 m (k + 1) (jor x2 0) (by omega)
        refine ⟨z, fun D M' A => ?_⟩
        rw [L_M_setsOf_4, A 60 8 (by omega), if_neg q, if_pos (by omega), Int.toNat_natCast, A 67 k (by omega), T_M_has, if_pos q2, pbI_rI, if_pos rfl, show ((k : Int) + 1) = ((k + 1 : Nat) : Int) by omega]
        exact e D M' A
theorem z_besides (h0 : 0 ≤ M 60 0 ∧ M 60 0 ≤ 6) {x1 : Int} (hx : 0 ≤ x1 ∧ x1 ≤ 5) : ∀ (m k : Nat) (x2 : Int), k + m = 6 → ∃ z, ∀ D M', AGr M M' → xE D 197 4 [.inr 62, .inl x1, .inl x2, .inl (k : Int)] [] M' = rI z M'
  | 0, k, x2, hk => ⟨x2, fun D M' A => by rw [L_M_besides_4, A 60 0 (by omega), if_pos (by rw [le32_iff] <;> omega)]⟩
  | m + 1, k, x2, hk => by
    by_cases q : le32 (M 60 0) (k : Int)
    · exact ⟨x2, fun D M' A => by rw [L_M_besides_4, A 60 0 (by omega), if_pos q]⟩
    · by_cases q2 : le32 (M 62 (6 * x1 + (k : Int)).toNat) 0
      · obtain ⟨z, e⟩ := z_besides h0 hx m (k + 1) (jor x2 0) (by omega)
        refine ⟨z, fun D M' A => ?_⟩
        rw [L_M_besides_4, A 60 0 (by omega), if_neg q, if_pos (by omega), A 62 _ (by omega), if_pos q2, show ((k : Int) + 1) = ((k + 1 : Nat) : Int) by omega]
        exact e D M' A
      · obtain ⟨z, e⟩ := z_besides h0 hx m (k + 1) (jor x2 (jshl 1 (k : Int))) (by omega)
        refine ⟨z, fun D M' A => ?_⟩
        rw [L_M_besides_4, A 60 0 (by omega), if_neg q, if_pos (by omega), A 62 _ (by omega), if_neg q2, show ((k : Int) + 1) = ((k + 1 : Nat) : Int) by omega]
        exact e D M' A
theorem z_letter (hM : gM gAll M) {t r : Int} (ht : 0 ≤ t ∧ t ≤ 9) (hr : 0 ≤ r ∧ r ≤ 5) {c : Int} (hl : isL c = true) : ∃ z, ∀ d M', 5 ≤ d → AGr M M' → xF d 192 [.inr 62, .inl c, .inl t, .inl r] M' = rI z M' := by
  have h8 := gm_i hM 60 8 (lo := 0) (hi := 8) (by decide +kernel) (by decide +kernel)
  have h0 := gm_i hM 60 0 (lo := 0) (hi := 6) (by decide +kernel) (by decide +kernel)
  have hl := of_decide_eq_true hl
  rcases hl with rfl | rfl | rfl | rfl | rfl | rfl | rfl | rfl | rfl
  · refine ⟨t, fun d M' hd A => ?_⟩
    obtain ⟨D, rfl, hD⟩ := dsucc (show 1 ≤ d by omega)
    rw [T_M_letter]
    repeat rw [if_neg (by decide)]
    rw [if_pos (by decide)]
  · refine ⟨M 63 t.toNat, fun d M' hd A => ?_⟩
    obtain ⟨D, rfl, hD⟩ := dsucc (show 1 ≤ d by omega)
    rw [T_M_letter, if_pos (by decide), if_pos (by omega), A 63 _ (by omega)]
  · refine ⟨M 64 t.toNat, fun d M' hd A => ?_⟩
    obtain ⟨D, rfl, hD⟩ := dsucc (show 1 ≤ d by omega)
    rw [T_M_letter]
    repeat rw [if_neg (by decide)]
    rw [if_pos (by decide), if_pos (by omega), A 64 _ (by omega)]
  · refine ⟨M 65 t.toNat, fun d M' hd A => ?_⟩
    obtain ⟨D, rfl, hD⟩ := dsucc (show 1 ≤ d by omega)
    rw [T_M_letter]
    repeat rw [if_neg (by decide)]
    rw [if_pos (by decide), if_pos (by omega), A 65 _ (by omega)]
  · obtain ⟨z, e⟩ := z_setsOf h8 t 8 0 0 (by omega)
    obtain ⟨w, hw⟩ : ∃ w, ∀ D M, xF (D + 1) 270 [.inl z] M = rI w M := ⟨_, fun D M => T_I_bitCount D z M⟩
    refine ⟨w, fun d M' hd A => ?_⟩
    obtain ⟨D, rfl, hD⟩ := dsucc (show 1 ≤ d by omega)
    obtain ⟨D', rfl, hD'⟩ := dsucc (show 1 ≤ D by omega)
    obtain ⟨D2, rfl, -⟩ := dsucc (show 1 ≤ D' by omega)
    have e' : xE (D2 + 1) 196 4 [.inr 62, .inl t, .inl 0, .inl 0] [] M' = rI z M' := e D2 M' A
    rw [T_M_letter]
    repeat rw [if_neg (by decide)]
    rw [if_pos (by decide), T_M_setsOf, e', pbI_rI, hw, pbI_rI]
  · refine ⟨r, fun d M' hd A => ?_⟩
    obtain ⟨D, rfl, hD⟩ := dsucc (show 1 ≤ d by omega)
    rw [T_M_letter]
    repeat rw [if_neg (by decide)]
    rw [if_pos (by decide)]
  · refine ⟨M 61 r.toNat, fun d M' hd A => ?_⟩
    obtain ⟨D, rfl, hD⟩ := dsucc (show 1 ≤ d by omega)
    rw [T_M_letter]
    repeat rw [if_neg (by decide)]
    rw [if_pos (by decide), if_pos (by omega), A 61 _ (by omega)]
  · obtain ⟨z, e⟩ := z_besides h0 hr 6 0 0 (by omega)
    obtain ⟨w, hw⟩ : ∃ w, ∀ D M, xF (D + 1) 270 [.inl z] M = rI w M := ⟨_, fun D M => T_I_bitCount D z M⟩
    refine ⟨w, fun d M' hd A => ?_⟩
    obtain ⟨D, rfl, hD⟩ := dsucc (show 1 ≤ d by omega)
    obtain ⟨D', rfl, hD'⟩ := dsucc (show 1 ≤ D by omega)
    have e' : xE D' 197 4 [.inr 62, .inl r, .inl 0, .inl 0] [] M' = rI z M' := e D' M' A
    rw [T_M_letter]
    repeat rw [if_neg (by decide)]
    rw [if_pos (by decide), T_M_besides, e', pbI_rI, hw, pbI_rI]
  · refine ⟨if eq32 (M 66 t.toNat) r then 1 else 0, fun d M' hd A => ?_⟩
    obtain ⟨D, rfl, hD⟩ := dsucc (show 1 ≤ d by omega)
    rw [T_M_letter]
    repeat rw [if_neg (by decide)]
    rw [if_pos (by decide), if_pos (by omega), A 66 _ (by omega)]
    by_cases q : eq32 (M 66 t.toNat) r
    · rw [if_neg (fun w => w q), if_pos q]
    · rw [if_pos q, if_neg q]
theorem z_HLv (hM : gM gAll M) : ∃ lv, HLv lv M := by
  have h26 := gm_i hM 60 26 (lo := -1) (hi := 9) (by decide +kernel) (by decide +kernel)
  have h27 := gm_i hM 60 27 (lo := 0) (hi := 5) (by decide +kernel) (by decide +kernel)
  have all : ∀ c : Int, ∃ z : Int, isL c = true → ∀ d M', 5 ≤ d → AGr M M' → (if ¬ eq32 (M' 60 26) (-1) then (pbI (xF d 192 [.inr 62, .inl c, .inl (M' 60 26), .inl (M' 60 27)] M') fun v N => some (some (.inl v), N)) else some (some (.inl 0), M')) = rI z M' := fun c => by
    by_cases q : eq32 (M 60 26) (-1)
    · exact ⟨0, fun _ d M' _ A => by rw [A 60 26 (by omega), if_neg (fun w => w q)]⟩
    · have n1 : M 60 26 ≠ -1 := fun w => q (by rw [w])
      cases hl : isL c with
      | false => exact ⟨0, fun h => by cases h⟩
      | true =>
        obtain ⟨z, e⟩ := z_letter hM (t := M 60 26) (r := M 60 27) (by omega) h27 hl
        exact ⟨z, fun _ d M' hd A => by rw [A 60 26 (by omega), A 60 27 (by omega), if_pos q, e d M' hd A, pbI_rI]⟩
  obtain ⟨lv, h⟩ := Classical.axiomOfChoice all
  exact ⟨lv, h⟩
theorem gM_RSq {tx : Nat → Int} {L q : Nat} {M' : pM} {s : rgs} (hM : gM gAll M) (a : AGr M M') (h : RSq tx L q M' s) : gM gAll M' := by
  intro o k hk
  by_cases q : o = 60 ∧ (k = 21 ∨ k = 22)
  · obtain ⟨rfl, q⟩ := q
    rcases q with rfl | rfl
    · rw [show gAll 60 21 = (0, 0, 80, 0, 0, 0) by decide +kernel]
      exact Or.inl ⟨rfl, h.2.2.2.2.2.2.2.1, (show M' 60 21 ≤ 80 by have := h.2.2.2.2.2.2.2.2.1; omega)⟩
    · rw [show gAll 60 22 = (0, -1, 80, 0, 0, 0) by decide +kernel]
      have := h.2.2.2.2.2.2.2.2.2
      cases s with
      | inl p => exact Or.inl ⟨rfl, (show -1 ≤ M' 60 22 by have := this.1; omega), (show M' 60 22 ≤ 80 by have := this; omega)⟩
      | inr a => exact Or.inl ⟨rfl, (show -1 ≤ M' 60 22 by have := this.2.2; omega), (show M' 60 22 ≤ 80 by have := this.2.2; omega)⟩
  · rw [a o k q]; exact hM o k hk
theorem cOK_held {d lv : Nat} {q : Int} (hq : q = 70 ∨ q = 73) (hd : 340 ≤ d) : cOK gAll (xF d) 188 (lv, [aRef 62, (0, 0, 4, 0, 0, 0)], [(60, 18, (0, q, q, 0, 0, 0)), (60, 20, (0, 40, 40, 0, 0, 0)), (60, 21, (0, 0, 0, 0, 0, 0)), (60, 22, (0, -1, -1, 0, 0, 0))], [(60, 21), (60, 22)], [(some (1, 0, 0, 0, 0, 0), [], [(60, 21, (0, 0, 40, 0, 0, 0))])]) := by
  intro A M hA hM hP
  obtain ⟨v0, r0, rfl, q0, hA⟩ := aF2_cons hA
  obtain ⟨v1, r1, rfl, q1, hA⟩ := aF2_cons hA
  have := aF2_nil hA
  subst this
  have e0 : v0 = .inr 62 := gW_ref q0 rfl
  obtain ⟨z1, e1, q1⟩ := gW_int q1 (by decide)
  have s1 := gR0 q1
  obtain ⟨b, rfl⟩ := natI s1.1
  subst e0; subst e1
  have p18 := gR0 (hP (60, 18, (0, q, q, 0, 0, 0)) (by simp))
  have p20 := gR0 (hP (60, 20, (0, 40, 40, 0, 0, 0)) (by simp))
  have p21 := gR0 (hP (60, 21, (0, 0, 0, 0, 0, 0)) (by simp))
  have p22 := gR0 (hP (60, 22, (0, -1, -1, 0, 0, 0)) (by simp))
  have p18 : q ≤ M 60 18 ∧ M 60 18 ≤ q := p18
  have p20 : 40 ≤ M 60 20 ∧ M 60 20 ≤ 40 := p20
  have p21 : 0 ≤ M 60 21 ∧ M 60 21 ≤ 0 := p21
  have p22 : -1 ≤ M 60 22 ∧ M 60 22 ≤ -1 := p22
  have h19 := gm_i hM 60 19 (lo := 0) (hi := 80) (by decide +kernel) (by decide +kernel)
  obtain ⟨L, hL⟩ := natI h19.1
  obtain ⟨lv', H⟩ := z_HLv hM
  have R : RSq (fun i => if q = 70 then M 68 i else if i < 40 then M 71 i else 0) L q.toNat M (.inr 0) := by
    refine ⟨by omega, hL, by omega, by omega, by omega, fun i hi => ⟨fun z => ?_, fun z z2 => ?_⟩, fun i hi => ?_, by omega, by omega, by omega, by omega, by omega⟩
    · show M 68 i = if q = 70 then M 68 i else if i < 40 then M 71 i else 0
      rw [if_pos (by omega)]
    · show M 71 i = if q = 70 then M 68 i else if i < 40 then M 71 i else 0
      rw [if_neg (by omega), if_pos z2]
    · have r1 : -128 ≤ M 68 i ∧ M 68 i ≤ 127 := gm_r hM (o := 68) (lo := -128) (hi := 127) (by decide +kernel) (by decide +kernel) (show i < 80 from hi)
      show -128 ≤ (if q = 70 then M 68 i else if i < 40 then M 71 i else 0) ∧ (if q = 70 then M 68 i else if i < 40 then M 71 i else 0) ≤ 127
      by_cases z : q = 70
      · rw [if_pos z]; exact r1
      · rw [if_neg z]
        by_cases z2 : i < 40
        · rw [if_pos z2]
          exact gm_r hM (o := 71) (lo := -128) (hi := 127) (by decide +kernel) (by decide +kernel) (show i < 40 from z2)
        · rw [if_neg z2]; omega
  have mu : rmu (min L 40) 0 (.inr 0 : rgs) = 8 * (min L 40 + 1 - 0) + 4 := rfl
  have s1 : 0 ≤ (b : Int) ∧ (b : Int) ≤ 4 := s1
  obtain ⟨M', e, R', A'⟩ := (RP_all 400 b (.inr 0) M d (by omega) R H).1 (by omega) (by omega)
  exact ⟨_, M', e, gM_RSq hM A' R', fun o k hk => A' o k (fun w => by
    obtain ⟨rfl, w⟩ := w
    rcases w with rfl | rfl
    · cases hk
    · cases hk), _, List.mem_singleton.mpr rfl, Or.inl ⟨_, rfl, Or.inr (Or.inl rfl)⟩, fun j hj => absurd hj (Nat.not_lt_zero j), fun e he => by
    cases List.mem_singleton.mp he
    exact ⟨Or.inl ⟨rfl, R'.2.2.2.2.2.2.2.1, R'.2.2.2.2.2.2.2.2.1⟩, Or.inl rfl⟩⟩
end RCN
