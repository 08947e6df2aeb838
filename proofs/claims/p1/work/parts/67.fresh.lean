/-! one call on new objects (by program) -/
theorem m_in {d : Nat} (hd : 1 ≤ d) {a b c : Int} {M : pM} (a1 : -2147483648 ≤ a) (a2 : a < 2147483648) (b1 : -2147483648 ≤ b) (b2 : b < 2147483648) (c1 : -2147483648 ≤ c) (c2 : c < 2147483648) : xF d 169 [.inl a, .inl b, .inl c] M = rI (if b ≤ a ∧ a ≤ c then 1 else 0) M := by
  obtain ⟨D, rfl, -⟩ := dsucc hd
  rw [T_M_in]
  simp (disch := omega) only [lt32_iff]
  by_cases q : a < b
  · rw [if_pos q, if_neg (by omega)]
  · rw [if_neg q]
    by_cases q2 : c < a
    · rw [if_pos q2, if_neg (by omega)]
    · rw [if_neg q2, if_pos (by omega)]
def h0 : pM := fun _ _ => 0
theorem W0 : WF h0 := by
  refine ⟨by decide, by decide, by decide, fun r hr => ?_, fun p _ => ⟨Int.le_refl 0, (by decide : (0 : Int) ≤ 9)⟩, fun _ _ _ _ => rfl, fun _ _ _ _ _ => rfl, fun t ht => ?_, fun s hs => ?_⟩
  · exact absurd hr (Nat.not_lt_zero r)
  · exact absurd ht (Nat.not_lt_zero t)
  · exact absurd hs (Nat.not_lt_zero s)
theorem X0 : XH M0 h0 := by
  refine ⟨rfl, rfl, rfl, fun r _ => rfl, fun p _ => rfl, fun t _ => ⟨rfl, rfl, rfl, rfl⟩, fun s _ => rfl⟩
theorem x_isR {a : Int} (a1 : -2147483648 ≤ a) (a2 : a < 2147483648) {d : Nat} (hd : 1 ≤ d) : xF d 63 [.inr 9, .inl a] M0 = rI 0 M0 := by
  rw [c_isRoom7 hd W0 X0 a1 a2, if_neg (by show ¬ (0 ≤ a ∧ a < ((0 : Nat) : Int)); omega)]
theorem x_isT {a : Int} (a1 : -2147483648 ≤ a) (a2 : a < 2147483648) {d : Nat} (hd : 1 ≤ d) : xF d 64 [.inr 9, .inl a] M0 = rI 0 M0 := by
  rw [c_isThing7 hd W0 X0 a1 a2, if_neg (by show ¬ (0 ≤ a ∧ a < ((0 : Nat) : Int)); omega)]
theorem m_isR {a : Int} (a1 : -2147483648 ≤ a) (a2 : a < 2147483648) {d : Nat} (hd : 2 ≤ d) {M : pM} (hM : M 60 0 = 0) : xF d 173 [.inr 62, .inl a] M = rI 0 M := by
  obtain ⟨D, rfl, hD⟩ := dsucc hd
  rw [T_M_isRoom, hM, m_in hD a1 a2 (by decide) (by decide) (by decide) (by decide), pbI_rI, if_neg (show ¬ (0 ≤ a ∧ a ≤ (0 : Int) - 1) by omega), if_pos (Or.inl rfl)]
theorem m_isT {a : Int} (a1 : -2147483648 ≤ a) (a2 : a < 2147483648) {d : Nat} (hd : 2 ≤ d) {M : pM} (hM : M 60 3 = 0) : xF d 174 [.inr 62, .inl a] M = rI 0 M := by
  obtain ⟨D, rfl, hD⟩ := dsucc hd
  rw [T_M_isThing, hM, m_in hD a1 a2 (by decide) (by decide) (by decide) (by decide), pbI_rI, if_neg (show ¬ (0 ≤ a ∧ a ≤ (0 : Int) - 1) by omega), if_pos (Or.inl rfl)]
theorem okC_mk {cmp : Bool} {D kx km : Nat} {ax am : List pV} {Inv : pM → Prop} {M M1 M2 : pM} {v : Int} (h1 : xF D kx ax M = rI v M1) (h2 : xF D km am M1 = rI v M2) (hI : Inv M2) : okC cmp D kx km ax am Inv M := ⟨v, v, M1, M2, h1, h2, fun _ => rfl, hI⟩
def evA (n d kx km : Nat) (ax am : List pV) : Option (Option pV × Option pV) := (pcal pprog pnl n d kx ax M0).bind fun r => (pcal pprog pnl n d km am r.2).map fun q => (r.1, q.1)
theorem evA_ok {n d kx km : Nat} {ax am : List pV} {v : Int} {Inv : pM → Prop} {cmp : Bool} (h : evA n d kx km ax am = some (some (.inl v), some (.inl v))) (hI : ∀ M, Inv M) : okC cmp d kx km ax am Inv M0 := by
  unfold evA at h
  cases h1 : pcal pprog pnl n d kx ax M0 with
  | none => rw [h1] at h; cases h
  | some r =>
    rw [h1] at h
    cases h2 : pcal pprog pnl n d km am r.2 with
    | none => simp [h2] at h
    | some q =>
      have h3 : r.1 = some (.inl v) ∧ q.1 = some (.inl v) := by simpa [h2] using h
      obtain ⟨r1, r2⟩ := r
      obtain ⟨q1, q2⟩ := q
      obtain ⟨rfl, rfl⟩ := h3
      exact okC_mk ((pYE_some pprog pnl x_hF).mpr ⟨n, h1⟩) ((pYE_some pprog pnl x_hF).mpr ⟨n, h2⟩) (hI _)
set_option maxRecDepth 100000 in
theorem ev_2 : evA 4000 1000 2 184 [.inr 2] [.inr 62] = some (some (.inl (0)), some (.inl (0))) := by decide +kernel
set_option maxRecDepth 100000 in
theorem ev_3 : evA 4000 1000 3 193 [.inr 2] [.inr 62] = some (some (.inl (0)), some (.inl (0))) := by decide +kernel
set_option maxRecDepth 100000 in
theorem ev_12 : evA 4000 1000 12 218 [.inr 2] [.inr 62] = some (some (.inl (1)), some (.inl (1))) := by decide +kernel
set_option maxRecDepth 100000 in
theorem ev_13 : evA 4000 1000 13 219 [.inr 2] [.inr 62] = some (some (.inl (0)), some (.inl (0))) := by decide +kernel
set_option maxRecDepth 100000 in
theorem ev_14 : evA 4000 1000 14 220 [.inr 2] [.inr 62] = some (some (.inl (-1)), some (.inl (-1))) := by decide +kernel
set_option maxRecDepth 100000 in
theorem ev_16 : evA 4000 1000 16 222 [.inr 2] [.inr 62] = some (some (.inl (0)), some (.inl (0))) := by decide +kernel
set_option maxRecDepth 100000 in
theorem ev_17 : evA 4000 1000 17 224 [.inr 2] [.inr 62] = some (some (.inl (-2)), some (.inl (-2))) := by decide +kernel
set_option maxRecDepth 100000 in
theorem ev_20 : evA 4000 1000 20 227 [.inr 2] [.inr 62] = some (some (.inl (0)), some (.inl (0))) := by decide +kernel
set_option maxRecDepth 100000 in
theorem ev_21 : evA 4000 1000 21 234 [.inr 2] [.inr 62] = some (some (.inl (1)), some (.inl (1))) := by decide +kernel
set_option maxRecDepth 100000 in
theorem ev_22 : evA 4000 1000 22 235 [.inr 2] [.inr 62] = some (some (.inl (0)), some (.inl (0))) := by decide +kernel
set_option maxRecDepth 100000 in
theorem ev_23 : evA 4000 1000 23 236 [.inr 2] [.inr 62] = some (some (.inl (1)), some (.inl (1))) := by decide +kernel
set_option maxRecDepth 100000 in
theorem ev_24 : evA 4000 1000 24 238 [.inr 2] [.inr 62] = some (some (.inl (0)), some (.inl (0))) := by decide +kernel
set_option maxRecDepth 100000 in
theorem ev_26 : evA 4000 1000 26 240 [.inr 2] [.inr 62] = some (some (.inl (-2)), some (.inl (-2))) := by decide +kernel
set_option maxRecDepth 100000 in
theorem ev_32 : evA 4000 1000 32 246 [.inr 2] [.inr 62] = some (some (.inl (0)), some (.inl (0))) := by decide +kernel
set_option maxRecDepth 100000 in
theorem ev_33 : evA 4000 1000 33 248 [.inr 2] [.inr 62] = some (some (.inl (-2)), some (.inl (-2))) := by decide +kernel
set_option maxRecDepth 100000 in
theorem ev_36 : evA 4000 1000 36 252 [.inr 2] [.inr 62] = some (some (.inl (0)), some (.inl (0))) := by decide +kernel
set_option maxRecDepth 100000 in
theorem ev_38 : evA 4000 1000 38 255 [.inr 2] [.inr 62] = some (some (.inl (0)), some (.inl (0))) := by decide +kernel
set_option maxRecDepth 100000 in
theorem ev_39 : evA 4000 1000 39 257 [.inr 2] [.inr 62] = some (some (.inl (-4)), some (.inl (-4))) := by decide +kernel
set_option maxRecDepth 100000 in
theorem ev_40 : evA 4000 1000 40 259 [.inr 2] [.inr 62] = some (some (.inl (-4)), some (.inl (-4))) := by decide +kernel
set_option maxRecDepth 100000 in
theorem ev_41 : evA 4000 1000 41 263 [.inr 2] [.inr 62] = some (some (.inl (-4)), some (.inl (-4))) := by decide +kernel
set_option maxRecDepth 100000 in
theorem ev_42 : evA 4000 1000 42 264 [.inr 2] [.inr 62] = some (some (.inl (-4)), some (.inl (-4))) := by decide +kernel
theorem ev_43_0 : evA 4000 1000 43 266 [.inr 2, .inl 0] [.inr 62, .inl 0] = some (some (.inl 1), some (.inl 1)) := by decide +kernel
theorem ev_43_1 : evA 4000 1000 43 266 [.inr 2, .inl 1] [.inr 62, .inl 1] = some (some (.inl 1), some (.inl 1)) := by decide +kernel
theorem ev_44_0 : evA 4000 1000 44 267 [.inr 2, .inl 0] [.inr 62, .inl 0] = some (some (.inl 0), some (.inl 0)) := by decide +kernel
theorem ev_44_1 : evA 4000 1000 44 267 [.inr 2, .inl 1] [.inr 62, .inl 1] = some (some (.inl 0), some (.inl 0)) := by decide +kernel
theorem ev_45_0 : evA 4000 1000 45 268 [.inr 2, .inl 0] [.inr 62, .inl 0] = some (some (.inl 0), some (.inl 0)) := by decide +kernel
theorem ev_45_1 : evA 4000 1000 45 268 [.inr 2, .inl 1] [.inr 62, .inl 1] = some (some (.inl 0), some (.inl 0)) := by decide +kernel
theorem ev_45_2 : evA 4000 1000 45 268 [.inr 2, .inl 2] [.inr 62, .inl 2] = some (some (.inl 0), some (.inl 0)) := by decide +kernel
theorem ev_45_3 : evA 4000 1000 45 268 [.inr 2, .inl 3] [.inr 62, .inl 3] = some (some (.inl 0), some (.inl 0)) := by decide +kernel
theorem ev_45_4 : evA 4000 1000 45 268 [.inr 2, .inl 4] [.inr 62, .inl 4] = some (some (.inl 0), some (.inl 0)) := by decide +kernel
theorem ev_45_5 : evA 4000 1000 45 268 [.inr 2, .inl 5] [.inr 62, .inl 5] = some (some (.inl 0), some (.inl 0)) := by decide +kernel
theorem ev_45_6 : evA 4000 1000 45 268 [.inr 2, .inl 6] [.inr 62, .inl 6] = some (some (.inl 0), some (.inl 0)) := by decide +kernel
theorem ev_45_7 : evA 4000 1000 45 268 [.inr 2, .inl 7] [.inr 62, .inl 7] = some (some (.inl 0), some (.inl 0)) := by decide +kernel
theorem ev_45_8 : evA 4000 1000 45 268 [.inr 2, .inl 8] [.inr 62, .inl 8] = some (some (.inl 0), some (.inl 0)) := by decide +kernel
theorem ev_45_9 : evA 4000 1000 45 268 [.inr 2, .inl 9] [.inr 62, .inl 9] = some (some (.inl 0), some (.inl 0)) := by decide +kernel
theorem ev_45_10 : evA 4000 1000 45 268 [.inr 2, .inl 10] [.inr 62, .inl 10] = some (some (.inl 0), some (.inl 0)) := by decide +kernel
theorem ev_45_11 : evA 4000 1000 45 268 [.inr 2, .inl 11] [.inr 62, .inl 11] = some (some (.inl 999), some (.inl 999)) := by decide +kernel
theorem ev_1_0 : evA 4000 1000 1 176 [.inr 2, .inl 0] [.inr 62, .inl 0] = some (some (.inl 1), some (.inl 1)) := by decide +kernel
theorem ev_27d : ((List.range 100).all fun b => b == 0 || decide (evA 4000 1000 27 241 [.inr 2, .inl (b : Int), .inl 0] [.inr 62, .inl (b : Int), .inl 0] = some (some (.inl 0), some (.inl 0)))) = true := by decide +kernel
theorem ev_27 (b : Nat) (h1 : b < 100) (h2 : 1 ≤ b) : evA 4000 1000 27 241 [.inr 2, .inl (b : Int), .inl 0] [.inr 62, .inl (b : Int), .inl 0] = some (some (.inl 0), some (.inl 0)) := by
  have h := List.all_eq_true.mp ev_27d b (List.mem_range.mpr h1)
  rcases Bool.or_eq_true _ _ ▸ h with q | q
  · exact absurd (beq_iff_eq.mp q) (by omega)
  · exact of_decide_eq_true q
