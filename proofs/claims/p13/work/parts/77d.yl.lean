/-! the calls that may throw, on the class's side -/
set_option maxRecDepth 10000 in
theorem RT_room (D : Nat) (b c : Int) (M : pM) : xRc D 4 10 [.inr 2, .inl b, .inl c] M =
 pbI (xF D 63 [.inr 9, .inl b] M) fun v2 M1 =>
 if eq32 v2 0 then
 some (none, M1)
 else
 (if lt32 c 0 then
 some (none, M1)
 else
 (if le32 c 3 then
 (if eq32 c 0 then
 (if 0 ≤ b ∧ b < 6 then
 some (some (.inl (M1 8 b.toNat)), M1)
 else none)
 else
 if eq32 c 1 then
 (pbI (xF D 86 [.inr 9, .inl b, .inr 15] M1) fun v8 M7 =>
 some (some (.inl v8), M7))
 else
 if eq32 c 2 then
 (if 0 ≤ b ∧ b < 6 then
 pbI (xF D 87 [.inr 9, .inl b, .inr 15] M1) fun v6 M5 =>
 some (some (.inl ((M1 8 b.toNat) - v6)), M5)
 else none)
 else
 (pbI (xF D 77 [.inr 9, .inl b, .inl 1] M1) fun v4 M3 =>
 some (some (.inl v4), M3)))
 else
 some (none, M1))) := rfl
set_option maxRecDepth 10000 in
theorem RT_thing (D : Nat) (b c : Int) (M : pM) : xRc D 5 10 [.inr 2, .inl b, .inl c] M =
 pbI (xF D 64 [.inr 9, .inl b] M) fun v2 M1 =>
 if eq32 v2 0 then
 some (none, M1)
 else
 (if lt32 c 0 then
 some (none, M1)
 else
 (if le32 c 6 then
 (if eq32 c 0 then
 (if 0 ≤ b ∧ b < 10 then
 some (some (.inl (M1 10 b.toNat)), M1)
 else none)
 else
 if eq32 c 1 then
 (if 0 ≤ b ∧ b < 10 then
 some (some (.inl (M1 11 b.toNat)), M1)
 else none)
 else
 if eq32 c 2 then
 (if 0 ≤ b ∧ b < 10 then
 some (some (.inl (M1 12 b.toNat)), M1)
 else none)
 else
 if eq32 c 3 then
 (if 0 ≤ b ∧ b < 10 then
 some (some (.inl (M1 13 b.toNat)), M1)
 else none)
 else
 if eq32 c 4 then
 (pbI (xF D 93 [.inr 9, .inl b] M1) fun v6 M5 =>
 some (some (.inl v6), M5))
 else
 if eq32 c 5 then
 (if 0 ≤ b ∧ b < 10 then
 some (some (.inl (M1 16 b.toNat)), M1)
 else none)
 else
 (if 0 ≤ b ∧ b < 10 then
 pbI (xF D 144 [.inr 29, .inr 9, .inl b, .inl (M1 13 b.toNat)] M1) fun v4 M3 =>
 some (some (.inl v4), M3)
 else none))
 else
 some (none, M1))) := rfl
set_option maxRecDepth 10000 in
theorem RT_row (D : Nat) (b : Int) (M : pM) : xRc D 46 7 [.inr 2, .inl b] M =
 if lt32 b 0 then
 some (none, M)
 else
 (if lt32 b (M 5 1) then
 (pbI (xF D 47 [.inr 8, .inl b] M) fun v2 M1 =>
 some (some (.inl v2), M1))
 else
 some (none, M)) := rfl
theorem yL_thr {D k pl : Nat} {a : List pV} {M : pM} (h1 : xF D k a M = none) (h2 : xRc D k pl a M = some (none, M)) : yL D k pl a M = rI 1 M := by
  unfold yL
  rw [h1, h2]
theorem yL_ok {D k pl : Nat} {a : List pV} {M M1 : pM} {v : Int} (h : xF D k a M = rI v M1) : yL D k pl a M = rI 0 (pset M1 90 0 (iI v).toInt) := by
  unfold yL
  rw [h]
def okY (D k pl : Nat) (A : List pV) (w : List (Nat × Nat)) (M : pM) : Prop := ∃ z M', yL D k pl A M = rI z M' ∧ gM gAll M' ∧ Fr w M M'
section YY
variable {D d : Nat} {M M1 : pM}
theorem okY_ok {k pl : Nat} {a : List pV} {w : List (Nat × Nat)} {v : Int} (h : xF D k a M = rI v M1) (g : gM gAll M1) (f : Fr w M M1) (hw : wOK w 90 0 = true) : okY D k pl a w M := ⟨_, _, yL_ok h, gMs_set g (by rw [show gAll 90 0 = (1, 0, 0, 0, 0, 0) by decide +kernel]; exact Or.inr (Or.inl rfl)), Fr_set f hw⟩
theorem okY_thr {k pl : Nat} {a : List pV} {w : List (Nat × Nat)} (h1 : xF D k a M = none) (h2 : xRc D k pl a M = some (none, M)) (g : gM gAll M) : okY D k pl a w M := ⟨_, _, yL_thr h1 h2, g, Fr_rfl⟩
theorem x_isR7 (hd : 1 ≤ d) (hM : gM gAll M) {b : Int} (h1 : -2147483648 ≤ b) (h2 : b ≤ 2147483647) : xF d 63 [.inr 9, .inl b] M = rI (if 0 ≤ b ∧ b < M 7 9 then 1 else 0) M := by
  obtain ⟨D, rfl, -⟩ := dsucc hd
  have r := gm_i hM 7 9 (lo := 0) (hi := 6) (by decide +kernel) (by decide +kernel)
  rw [T_House_isRoom_7]
  by_cases q : b < 0
  · rw [if_pos (by rw [lt32_iff] <;> omega), if_neg (by omega)]
  · rw [if_neg (by rw [lt32_iff] <;> omega)]
    by_cases q2 : M 7 9 ≤ b
    · rw [if_pos (by rw [le32_iff] <;> omega), if_neg (by omega)]
    · rw [if_neg (by rw [le32_iff] <;> omega), if_pos (by omega)]
theorem x_isT7 (hd : 1 ≤ d) (hM : gM gAll M) {b : Int} (h1 : -2147483648 ≤ b) (h2 : b ≤ 2147483647) : xF d 64 [.inr 9, .inl b] M = rI (if 0 ≤ b ∧ b < M 7 10 then 1 else 0) M := by
  obtain ⟨D, rfl, -⟩ := dsucc hd
  have r := gm_i hM 7 10 (lo := 0) (hi := 10) (by decide +kernel) (by decide +kernel)
  rw [T_House_isThing]
  by_cases q : b < 0
  · rw [if_pos (by rw [lt32_iff] <;> omega), if_neg (by omega)]
  · rw [if_neg (by rw [lt32_iff] <;> omega)]
    by_cases q2 : M 7 10 ≤ b
    · rw [if_pos (by rw [le32_iff] <;> omega), if_neg (by omega)]
    · rw [if_neg (by rw [le32_iff] <;> omega), if_pos (by omega)]
theorem y_room (hd : 5 ≤ d) (hM : gM gAll M) {b c : Int} (h1 : -2147483648 ≤ b ∧ b ≤ 2147483647) (h2 : -2147483648 ≤ c ∧ c ≤ 2147483647) : okY d 4 10 [.inr 2, .inl b, .inl c] [(90, 999)] M := by
  obtain ⟨D, rfl, hD⟩ := dsucc hd
  have r := gm_i hM 7 9 (lo := 0) (hi := 6) (by decide +kernel) (by decide +kernel)
  have hT := T_X_room D b c M
  have hR := RT_room (D + 1) b c M
  rw [x_isR7 (by omega) hM h1.1 h1.2, pbI_rI] at hT hR
  by_cases q : 0 ≤ b ∧ b < M 7 9
  · have i6 : 0 ≤ b ∧ b < 6 := by omega
    rw [if_pos q, if_neg (by decide)] at hT hR
    by_cases q2 : lt32 c 0
    · rw [if_pos q2] at hT hR; exact okY_thr hT hR hM
    · rw [if_neg q2] at hT hR
      by_cases q3 : le32 c 3
      · rw [if_pos q3] at hT
        by_cases c0 : eq32 c 0
        · rw [if_pos c0, if_pos i6] at hT; exact okY_ok hT hM Fr_rfl rfl
        · rw [if_neg c0] at hT
          by_cases c1 : eq32 c 1
          · obtain ⟨v, M2, e2, g2, f2, -⟩ := v_thIn (d := D) (by omega) (a1 := b) hM h1
            rw [if_pos c1, e2, pbI_rI] at hT; exact okY_ok hT g2 (Fr_mono f2 (by decide)) rfl
          · rw [if_neg c1] at hT
            by_cases c2 : eq32 c 2
            · obtain ⟨v, M2, e2, g2, f2⟩ := v_load (d := D) (by omega) (a1 := b) hM h1
              rw [if_pos c2, if_pos i6, e2, pbI_rI] at hT; exact okY_ok hT g2 (Fr_mono f2 (by decide)) rfl
            · obtain ⟨v, M2, e2, g2, f2, -⟩ := v_next (d := D) (by omega) (a1 := b) (a2 := 1) hM h1 (by decide)
              rw [if_neg c2, e2, pbI_rI] at hT; exact okY_ok hT g2 (Fr_mono f2 (by decide)) rfl
      · rw [if_neg q3] at hT hR; exact okY_thr hT hR hM
  · rw [if_neg q, if_pos rfl] at hT hR; exact okY_thr hT hR hM
def wYt : List (Nat × Nat) := [(30, 1), (30, 2), (30, 3), (31, 999), (90, 999)]
theorem y_thing (hd : 33 ≤ d) (hM : gM gAll M) {b c : Int} (h1 : -2147483648 ≤ b ∧ b ≤ 2147483647) (h2 : -2147483648 ≤ c ∧ c ≤ 2147483647) : okY d 5 10 [.inr 2, .inl b, .inl c] wYt M := by
  obtain ⟨D, rfl, hD⟩ := dsucc hd
  have r := gm_i hM 7 10 (lo := 0) (hi := 10) (by decide +kernel) (by decide +kernel)
  have hT := T_X_thing D b c M
  have hR := RT_thing (D + 1) b c M
  rw [x_isT7 (by omega) hM h1.1 h1.2, pbI_rI] at hT hR
  by_cases q : 0 ≤ b ∧ b < M 7 10
  · have i6 : 0 ≤ b ∧ b < 10 := by omega
    rw [if_pos q, if_neg (by decide)] at hT hR
    by_cases q2 : lt32 c 0
    · rw [if_pos q2] at hT hR; exact okY_thr hT hR hM
    · rw [if_neg q2] at hT hR
      by_cases q3 : le32 c 6
      · rw [if_pos q3] at hT
        by_cases c0 : eq32 c 0
        · rw [if_pos c0, if_pos i6] at hT; exact okY_ok hT hM Fr_rfl rfl
        · rw [if_neg c0] at hT
          by_cases c1 : eq32 c 1
          · rw [if_pos c1, if_pos i6] at hT; exact okY_ok hT hM Fr_rfl rfl
          · rw [if_neg c1] at hT
            by_cases c2 : eq32 c 2
            · rw [if_pos c2, if_pos i6] at hT; exact okY_ok hT hM Fr_rfl rfl
            · rw [if_neg c2] at hT
              by_cases c3 : eq32 c 3
              · rw [if_pos c3, if_pos i6] at hT; exact okY_ok hT hM Fr_rfl rfl
              · rw [if_neg c3] at hT
                by_cases c4 : eq32 c 4
                · obtain ⟨v, M2, e2, g2, f2, -⟩ := v_sets (d := D) (by omega) (a1 := b) hM h1
                  rw [if_pos c4, e2, pbI_rI] at hT; exact okY_ok hT g2 (Fr_mono f2 (by decide)) rfl
                · rw [if_neg c4] at hT
                  by_cases c5 : eq32 c 5
                  · rw [if_pos c5, if_pos i6] at hT; exact okY_ok hT hM Fr_rfl rfl
                  · have b13 := gm_r hM (o := 13) (lo := 0) (hi := 5) (by decide +kernel) (by decide +kernel) (k := b.toNat) (show b.toNat < 10 by omega)
                    obtain ⟨v, M2, e2, g2, f2, -⟩ := v_val (d := D) (by omega) (a2 := b) (a3 := M 13 b.toNat) hM h1 ⟨by omega, by omega⟩
                    rw [if_neg c5, if_pos i6, e2, pbI_rI] at hT; exact okY_ok hT g2 (Fr_mono f2 (by decide)) rfl
      · rw [if_neg q3] at hT hR; exact okY_thr hT hR hM
  · rw [if_neg q, if_pos rfl] at hT hR; exact okY_thr hT hR hM
theorem y_row (hd : 3 ≤ d) (hM : gM gAll M) {b : Int} (h1 : -2147483648 ≤ b ∧ b ≤ 2147483647) : okY d 46 7 [.inr 2, .inl b] [(90, 999)] M := by
  obtain ⟨D, rfl, hD⟩ := dsucc hd
  obtain ⟨D', rfl, -⟩ := dsucc (show 1 ≤ D by omega)
  have r := gm_i hM 5 1 (lo := 0) (hi := 12) (by decide +kernel) (by decide +kernel)
  have hT := T_X_row (D' + 1) b M
  have hR := RT_row (D' + 1 + 1) b M
  by_cases q : lt32 b 0
  · rw [if_pos q] at hT hR; exact okY_thr hT hR hM
  · rw [if_neg q] at hT hR
    by_cases q2 : lt32 b (M 5 1)
    · rw [lt32_iff (by omega) (by omega) (by omega) (by omega)] at q
      have q3 := q2
      rw [lt32_iff (by omega) (by omega) (by omega) (by omega)] at q3
      rw [if_pos q2, T_X_numberAt_6, if_neg (by rw [lt32_iff] <;> omega), if_neg (by rw [le32_iff] <;> omega), if_pos (by omega), pbI_rI] at hT
      exact okY_ok hT hM Fr_rfl rfl
    · rw [if_neg q2] at hT hR; exact okY_thr hT hR hM
end YY
