/-! one call with arguments on new objects (by program) -/
set_option maxRecDepth 10000 in
theorem RT_room (D : Nat) (b c : Int) (M : pM) : xRc D 4 10 [.inr 2, .inl b, .inl c] M =
 pbI (xF D 63 [.inr 9, .inl b] M) fun v2 M1 =>
 if eq32 v2 0 then
 some (none, M1)
 else
 (if lt32 c 0 then
 some (none, M1)
 else
 (if le32 c 3 then
 (if eq32 c 0 then
 (if 0 ≤ b ∧ b < 6 then
 some (some (.inl (M1 8 b.toNat)), M1)
 else none)
 else
 if eq32 c 1 then
 (pbI (xF D 86 [.inr 9, .inl b, .inr 15] M1) fun v8 M7 =>
 some (some (.inl v8), M7))
 else
 if eq32 c 2 then
 (if 0 ≤ b ∧ b < 6 then
 pbI (xF D 87 [.inr 9, .inl b, .inr 15] M1) fun v6 M5 =>
 some (some (.inl ((M1 8 b.toNat) - v6)), M5)
 else none)
 else
 (pbI (xF D 77 [.inr 9, .inl b, .inl 1] M1) fun v4 M3 =>
 some (some (.inl v4), M3)))
 else
 some (none, M1))) := rfl
set_option maxRecDepth 10000 in
theorem RT_thing (D : Nat) (b c : Int) (M : pM) : xRc D 5 10 [.inr 2, .inl b, .inl c] M =
 pbI (xF D 64 [.inr 9, .inl b] M) fun v2 M1 =>
 if eq32 v2 0 then
 some (none, M1)
 else
 (if lt32 c 0 then
 some (none, M1)
 else
 (if le32 c 6 then
 (if eq32 c 0 then
 (if 0 ≤ b ∧ b < 10 then
 some (some (.inl (M1 10 b.toNat)), M1)
 else none)
 else
 if eq32 c 1 then
 (if 0 ≤ b ∧ b < 10 then
 some (some (.inl (M1 11 b.toNat)), M1)
 else none)
 else
 if eq32 c 2 then
 (if 0 ≤ b ∧ b < 10 then
 some (some (.inl (M1 12 b.toNat)), M1)
 else none)
 else
 if eq32 c 3 then
 (if 0 ≤ b ∧ b < 10 then
 some (some (.inl (M1 13 b.toNat)), M1)
 else none)
 else
 if eq32 c 4 then
 (pbI (xF D 93 [.inr 9, .inl b] M1) fun v6 M5 =>
 some (some (.inl v6), M5))
 else
 if eq32 c 5 then
 (if 0 ≤ b ∧ b < 10 then
 some (some (.inl (M1 16 b.toNat)), M1)
 else none)
 else
 (if 0 ≤ b ∧ b < 10 then
 pbI (xF D 144 [.inr 29, .inr 9, .inl b, .inl (M1 13 b.toNat)] M1) fun v4 M3 =>
 some (some (.inl v4), M3)
 else none))
 else
 some (none, M1))) := rfl
set_option maxRecDepth 10000 in
theorem RT_row (D : Nat) (b : Int) (M : pM) : xRc D 46 7 [.inr 2, .inl b] M =
 if lt32 b 0 then
 some (none, M)
 else
 (if lt32 b (M 5 1) then
 (pbI (xF D 47 [.inr 8, .inl b] M) fun v2 M1 =>
 some (some (.inl v2), M1))
 else
 some (none, M)) := rfl
theorem yL_thr {D k pl : Nat} {a : List pV} {M : pM} (h1 : xF D k a M = none) (h2 : xRc D k pl a M = some (none, M)) : yL D k pl a M = rI 1 M := by
  unfold yL
  rw [h1, h2]
theorem okT_mk {cmp : Bool} {D k pl km : Nat} {ax am : List pV} {Inv : pM → Prop} {M M2 : pM} {w : Int} (h1 : yL D k pl ax M = rI 1 M) (h2 : xF D km am M = rI w M2) (h3 : xF D 168 [.inr 62] M2 = rI 1 M2) (hI : Inv M2) : okT cmp D k pl km ax am Inv M := ⟨1, w, 1, M, M2, M2, h1, h2, h3, fun _ => ⟨rfl, fun q => by cases q⟩, Or.inr rfl, hI⟩
theorem x_unl {a b : Int} (a1 : -2147483648 ≤ a) (a2 : a < 2147483648) {d : Nat} (hd : 2 ≤ d) : xF d 65 [.inr 9, .inl a, .inl b] M0 = rI 0 M0 := by
  obtain ⟨D, rfl, hD⟩ := dsucc hd
  rw [T_House_areUnlikeRooms_7, x_isR a1 a2 hD, pbI_rI, if_pos (by decide)]
theorem b32_lo (f : Int32 → Int32 → Int32) (x y : Int) : -2147483648 ≤ b32 f x y := r32a _
theorem b32_hi (f : Int32 → Int32 → Int32) (x y : Int) : b32 f x y < 2147483648 := r32b _
theorem m_thr {d : Nat} (hd : 1 ≤ d) {M : pM} : xF d 168 [.inr 62] M = rI (M 60 17) M := by
  obtain ⟨D, rfl, -⟩ := dsucc hd
  rw [T_M_thrown]
theorem m_lost {d : Nat} (hd : 1 ≤ d) {M : pM} : xF d 171 [.inr 62] M = rI 0 (pset M 60 17 1) := by
  obtain ⟨D, rfl, -⟩ := dsucc hd
  rw [T_M_lost]
abbrev Mz : pM := pset M0 60 17 0
theorem fc_7 {Inv : pM → Prop} (hI : ∀ M, Inv M) {a b c e : Int} (a1 : -2147483648 ≤ a) (a2 : a < 2147483648) (b1 : -2147483648 ≤ b) (b2 : b < 2147483648) : okC (cmpc 7) 1000 7 203 [.inr 2, .inl a, .inl b] [.inr 62, .inl a, .inl b] Inv M0 := by
  refine okC_mk (v := -1) (M1 := M0) (M2 := Mz) ?_ ?_ (hI _)
  · rw [T_X_door, x_unl a1 a2 (by decide), pbI_rI]
    first | rw [if_pos (by decide)] | rw [if_neg (by decide)]
  · rw [T_M_door, m_isR a1 a2 (by decide) rfl, pbI_rI]
    first | rw [if_pos (by decide)] | rw [if_neg (by decide)]
theorem fc_8 {Inv : pM → Prop} (hI : ∀ M, Inv M) {a b c e : Int} (a1 : -2147483648 ≤ a) (a2 : a < 2147483648) (b1 : -2147483648 ≤ b) (b2 : b < 2147483648) : okC (cmpc 8) 1000 8 204 [.inr 2, .inl a, .inl b, .inl c] [.inr 62, .inl a, .inl b, .inl c] Inv M0 := by
  refine okC_mk (v := -1) (M1 := M0) (M2 := Mz) ?_ ?_ (hI _)
  · rw [T_X_widen, x_unl a1 a2 (by decide), pbI_rI]
    first | rw [if_pos (by decide)] | rw [if_neg (by decide)]
  · rw [T_M_widen, m_isR a1 a2 (by decide) rfl, pbI_rI]
    first | rw [if_pos (by decide)] | rw [if_neg (by decide)]
theorem fc_31 {Inv : pM → Prop} (hI : ∀ M, Inv M) {a b c e : Int} (a1 : -2147483648 ≤ a) (a2 : a < 2147483648) (b1 : -2147483648 ≤ b) (b2 : b < 2147483648) : okC (cmpc 31) 1000 31 245 [.inr 2, .inl a, .inl b] [.inr 62, .inl a, .inl b] Inv M0 := by
  refine okC_mk (v := -1) (M1 := M0) (M2 := Mz) ?_ ?_ (hI _)
  · rw [T_X_swap, x_unl a1 a2 (by decide), pbI_rI]
    first | rw [if_pos (by decide)] | rw [if_neg (by decide)]
  · rw [T_M_swap, m_isR a1 a2 (by decide) rfl, pbI_rI]
    first | rw [if_pos (by decide)] | rw [if_neg (by decide)]
theorem fc_18 {Inv : pM → Prop} (hI : ∀ M, Inv M) {a b c e : Int} (a1 : -2147483648 ≤ a) (a2 : a < 2147483648) (b1 : -2147483648 ≤ b) (b2 : b < 2147483648) : okC (cmpc 18) 1000 18 225 [.inr 2, .inl a] [.inr 62, .inl a] Inv M0 := by
  refine okC_mk (v := -1) (M1 := M0) (M2 := Mz) ?_ ?_ (hI _)
  · rw [T_X_without, x_isT a1 a2 (by decide), pbI_rI]
    first | rw [if_pos (by decide)] | rw [if_neg (by decide)]
  · rw [T_M_without, m_isT a1 a2 (by decide) rfl, pbI_rI]
    first | rw [if_pos (by decide)] | rw [if_neg (by decide)]
theorem fc_19 {Inv : pM → Prop} (hI : ∀ M, Inv M) {a b c e : Int} (a1 : -2147483648 ≤ a) (a2 : a < 2147483648) (b1 : -2147483648 ≤ b) (b2 : b < 2147483648) : okC (cmpc 19) 1000 19 226 [.inr 2, .inl a] [.inr 62, .inl a] Inv M0 := by
  refine okC_mk (v := -1) (M1 := M0) (M2 := Mz) ?_ ?_ (hI _)
  · rw [T_X_breaks, x_isT a1 a2 (by decide), pbI_rI]
    first | rw [if_pos (by decide)] | rw [if_neg (by decide)]
  · rw [T_M_breaks, m_isT a1 a2 (by decide) rfl, pbI_rI]
    first | rw [if_pos (by decide)] | rw [if_neg (by decide)]
theorem fc_25 {Inv : pM → Prop} (hI : ∀ M, Inv M) {a b c e : Int} (a1 : -2147483648 ≤ a) (a2 : a < 2147483648) (b1 : -2147483648 ≤ b) (b2 : b < 2147483648) : okC (cmpc 25) 1000 25 239 [.inr 2, .inl a, .inl b] [.inr 62, .inl a, .inl b] Inv M0 := by
  refine okC_mk (v := -1) (M1 := M0) (M2 := Mz) ?_ ?_ (hI _)
  · rw [T_X_guest, x_isR a1 a2 (by decide), pbI_rI]
    first | rw [if_pos (by decide)] | rw [if_neg (by decide)]
  · rw [T_M_guest, m_isR a1 a2 (by decide) rfl, pbI_rI]
    first | rw [if_pos (by decide)] | rw [if_neg (by decide)]
theorem fc_29 {Inv : pM → Prop} (hI : ∀ M, Inv M) {a b c e : Int} (a1 : -2147483648 ≤ a) (a2 : a < 2147483648) (b1 : -2147483648 ≤ b) (b2 : b < 2147483648) : okC (cmpc 29) 1000 29 243 [.inr 2, .inl a, .inl b] [.inr 62, .inl a, .inl b] Inv M0 := by
  refine okC_mk (v := -1) (M1 := M0) (M2 := Mz) ?_ ?_ (hI _)
  · rw [T_X_together, x_isT a1 a2 (by decide), pbI_rI]
    first | rw [if_pos (by decide)] | rw [if_neg (by decide)]
  · rw [T_M_together, m_isT a1 a2 (by decide) rfl, pbI_rI]
    first | rw [if_pos (by decide)] | rw [if_neg (by decide)]
theorem fc_30 {Inv : pM → Prop} (hI : ∀ M, Inv M) {a b c e : Int} (a1 : -2147483648 ≤ a) (a2 : a < 2147483648) (b1 : -2147483648 ≤ b) (b2 : b < 2147483648) : okC (cmpc 30) 1000 30 244 [.inr 2, .inl a] [.inr 62, .inl a] Inv M0 := by
  refine okC_mk (v := -1) (M1 := M0) (M2 := Mz) ?_ ?_ (hI _)
  · rw [T_X_fullest, x_isR a1 a2 (by decide), pbI_rI]
    first | rw [if_pos (by decide)] | rw [if_neg (by decide)]
  · rw [T_M_fullest, m_isR a1 a2 (by decide) rfl, pbI_rI]
    first | rw [if_pos (by decide)] | rw [if_neg (by decide)]
theorem fc_34 {Inv : pM → Prop} (hI : ∀ M, Inv M) {a b c e : Int} (a1 : -2147483648 ≤ a) (a2 : a < 2147483648) (b1 : -2147483648 ≤ b) (b2 : b < 2147483648) : okC (cmpc 34) 1000 34 250 [.inr 2, .inl a, .inl b] [.inr 62, .inl a, .inl b] Inv M0 := by
  refine okC_mk (v := -1) (M1 := M0) (M2 := Mz) ?_ ?_ (hI _)
  · rw [T_X_way, x_isT a1 a2 (by decide), pbI_rI]
    first | rw [if_pos (by decide)] | rw [if_neg (by decide)]
  · rw [T_M_way, m_isT a1 a2 (by decide) rfl, pbI_rI]
    first | rw [if_pos (by decide)] | rw [if_neg (by decide)]
theorem fc_35 {Inv : pM → Prop} (hI : ∀ M, Inv M) {a b c e : Int} (a1 : -2147483648 ≤ a) (a2 : a < 2147483648) (b1 : -2147483648 ≤ b) (b2 : b < 2147483648) : okC (cmpc 35) 1000 35 251 [.inr 2, .inl a, .inl b] [.inr 62, .inl a, .inl b] Inv M0 := by
  refine okC_mk (v := -1) (M1 := M0) (M2 := Mz) ?_ ?_ (hI _)
  · rw [T_X_widest, x_isR a1 a2 (by decide), pbI_rI]
    first | rw [if_pos (by decide)] | rw [if_neg (by decide)]
  · rw [T_M_widest, m_isR a1 a2 (by decide) rfl, pbI_rI]
    first | rw [if_pos (by decide)] | rw [if_neg (by decide)]
theorem fc_37 {Inv : pM → Prop} (hI : ∀ M, Inv M) {a b c e : Int} (a1 : -2147483648 ≤ a) (a2 : a < 2147483648) (b1 : -2147483648 ≤ b) (b2 : b < 2147483648) : okC (cmpc 37) 1000 37 254 [.inr 2, .inl a] [.inr 62, .inl a] Inv M0 := by
  refine okC_mk (v := -1) (M1 := M0) (M2 := Mz) ?_ ?_ (hI _)
  · rw [T_X_hinge, x_isR a1 a2 (by decide), pbI_rI]
    first | rw [if_pos (by decide)] | rw [if_neg (by decide)]
  · rw [T_M_hinge, m_isR a1 a2 (by decide) rfl, pbI_rI]
    first | rw [if_pos (by decide)] | rw [if_neg (by decide)]
theorem fc_0 {Inv : pM → Prop} (hI : ∀ M, Inv M) {a b c e : Int} (a1 : -2147483648 ≤ a) (a2 : a < 2147483648) (b1 : -2147483648 ≤ b) (b2 : b < 2147483648) : okC (cmpc 0) 1000 0 175 [.inr 2, .inl a] [.inr 62, .inl a] Inv M0 := by
  have h1 := c_sign (d := 1000) (by decide) (M := M0) (L := 0) rfl (by decide) (b := a)
  rw [if_pos (by decide)] at h1
  have h2 := m_sign (d := 1000) (by decide) (M := tapp M0 1 1 2 0 (sgX a) 4) (L := 0) rfl (by decide) (b := a)
  rw [if_pos (by decide)] at h2
  exact okC_mk h1 h2 (hI _)
theorem fc_1 {Inv : pM → Prop} (hI : ∀ M, Inv M) {a b c e : Int} (a1 : -2147483648 ≤ a) (a2 : a < 2147483648) (b1 : -2147483648 ≤ b) (b2 : b < 2147483648) : okC (cmpc 1) 1000 1 176 [.inr 2, .inl a] [.inr 62, .inl a] Inv M0 := by
  by_cases q : a = 0
  · subst q; exact evA_ok ev_1_0 hI
  · refine okC_mk (v := 0) (M1 := M0) (M2 := Mz) ?_ ?_ (hI _)
    · rw [T_X_end, T_Text_cut, show M0 1 1 = 0 from rfl]
      by_cases q1 : a < 0
      · rw [if_pos (by rw [lt32_iff] <;> omega), pbI_rI, if_pos (Or.inl rfl)]
      · rw [if_neg (by rw [lt32_iff] <;> omega), if_neg (by rw [le32_iff] <;> omega), pbI_rI, if_pos (Or.inl rfl)]
    · rw [T_M_end, show pset M0 60 17 0 60 14 = 0 from rfl, m_in (by decide) a1 a2 (by decide) (by decide) (by decide) (by decide), pbI_rI, if_neg (show ¬ (0 ≤ a ∧ a ≤ 0) by omega), if_neg (by decide)]
theorem fc_6 {Inv : pM → Prop} (hI : ∀ M, Inv M) {a b c e : Int} (a1 : -2147483648 ≤ a) (a2 : a < 2147483648) (b1 : -2147483648 ≤ b) (b2 : b < 2147483648) : okC (cmpc 6) 1000 6 202 [.inr 2, .inl a] [.inr 62, .inl a] Inv M0 := by
  refine okC_mk (v := -1) (M1 := M0) (M2 := Mz) ?_ ?_ (hI _)
  · rw [T_X_set, show M0 7 11 = 0 from rfl]
    by_cases q1 : a < 0
    · rw [if_pos (by rw [lt32_iff] <;> omega)]
    · rw [if_neg (by rw [lt32_iff] <;> omega), if_pos (by rw [le32_iff] <;> omega)]
  · rw [T_M_set, show pset M0 60 17 0 60 8 - 1 = -1 from rfl, m_in (by decide) a1 a2 (by decide) (by decide) (by decide) (by decide), pbI_rI, if_neg (show ¬ (0 ≤ a ∧ a ≤ -1) by omega), if_pos (by decide)]
theorem fc_9 {Inv : pM → Prop} (hI : ∀ M, Inv M) {a b c e : Int} (a1 : -2147483648 ≤ a) (a2 : a < 2147483648) (b1 : -2147483648 ≤ b) (b2 : b < 2147483648) : okC (cmpc 9) 1000 9 205 [.inr 2, .inl a] [.inr 62, .inl a] Inv M0 := by
  by_cases q : 1 ≤ a ∧ a ≤ 999
  · refine okC_mk (v := 999) (M1 := pset M0 0 17 a) (M2 := pset (pset (pset M0 0 17 a) 60 17 0) 60 12 a) ?_ ?_ (hI _)
    · rw [T_X_strength, if_neg (by rw [lt32_iff] <;> omega), if_pos (by rw [le32_iff] <;> omega)]; rfl
    · rw [T_M_strength, m_in (by decide) a1 a2 (by decide) (by decide) (by decide) (by decide), pbI_rI, if_pos q, if_pos (by decide)]; rfl
  · refine okC_mk (v := -1) (M1 := M0) (M2 := Mz) ?_ ?_ (hI _)
    · rw [T_X_strength]
      by_cases q1 : a < 1
      · rw [if_pos (by rw [lt32_iff] <;> omega)]
      · rw [if_neg (by rw [lt32_iff] <;> omega), if_neg (by rw [le32_iff] <;> omega)]
    · rw [T_M_strength, m_in (by decide) a1 a2 (by decide) (by decide) (by decide) (by decide), pbI_rI, if_neg q, if_neg (by decide)]
theorem fc_10 {Inv : pM → Prop} (hI : ∀ M, Inv M) {a b c e : Int} (a1 : -2147483648 ≤ a) (a2 : a < 2147483648) (b1 : -2147483648 ≤ b) (b2 : b < 2147483648) : okC (cmpc 10) 1000 10 206 [.inr 2, .inl a, .inl b, .inl c, .inl e] [.inr 62, .inl a, .inl b, .inl c, .inl e] Inv M0 := by
  have hw : ∀ x y z u : Int, xF 999 76 [.inr 9, .inl x, .inl y, .inl z, .inl u] M0 = rI 0 M0 := fun x y z u => by
    rw [T_House_weigh, L_House_weigh_4, if_pos (by decide)]
  have hm : ∀ x y z u : Int, xE 999 206 26 [.inr 62, .inl x, .inl y, .inl z, .inl u, .inl 0, .inl z, .inl 0, .inr 0] [] Mz = if ¬ eq32 x 3 then rI 0 Mz else rI (-3) Mz := fun x y z u => by
    rw [L_M_sheet_26, if_pos (by decide)]
  by_cases q : (0 ≤ a ∧ a ≤ 3) ∧ b ≤ 10
  · by_cases q3 : a = 3
    · subst q3
      refine okC_mk (v := -3) (M1 := M0) (M2 := Mz) ?_ ?_ (hI _)
      · rw [T_X_sheet, if_neg (by decide), if_neg (by decide), if_pos (by rw [le32_iff] <;> omega), if_neg (by decide), hw, pbI_rI]
      · rw [T_M_sheet, m_in (by decide) a1 a2 (by decide) (by decide) (by decide) (by decide), pbI_rI, if_pos q.1, if_neg (by decide), if_pos (by rw [le32_iff] <;> omega), if_pos (by decide), hm, if_neg (by decide)]
    · by_cases qb : b < 0
      · refine okC_mk (v := -2) (M1 := M0) (M2 := Mz) ?_ ?_ (hI _)
        · rw [T_X_sheet, if_neg (by rw [lt32_iff] <;> omega), if_neg (by rw [lt32_iff] <;> omega), if_pos (by rw [le32_iff] <;> omega), if_pos (by rw [eq32_iff] <;> omega), if_neg (by rw [le32_iff] <;> omega)]
        · rw [T_M_sheet, m_in (by decide) a1 a2 (by decide) (by decide) (by decide) (by decide), pbI_rI, if_pos q.1, if_neg (by decide), if_pos (by rw [le32_iff] <;> omega), if_neg (by rw [le32_iff] <;> omega), if_neg (by rw [le32_iff] <;> omega)]
      · refine okC_mk (v := 0) (M1 := M0) (M2 := Mz) ?_ ?_ (hI _)
        · rw [T_X_sheet, if_neg (by rw [lt32_iff] <;> omega), if_neg (by rw [lt32_iff] <;> omega), if_pos (by rw [le32_iff] <;> omega), if_pos (by rw [eq32_iff] <;> omega), if_pos (by rw [le32_iff] <;> omega), hw, pbI_rI]
        · rw [T_M_sheet, m_in (by decide) a1 a2 (by decide) (by decide) (by decide) (by decide), pbI_rI, if_pos q.1, if_neg (by decide), if_pos (by rw [le32_iff] <;> omega), if_neg (by rw [le32_iff] <;> omega), if_pos (by rw [le32_iff] <;> omega), hm, if_pos (by rw [eq32_iff] <;> omega)]
  · refine okC_mk (v := -1) (M1 := M0) (M2 := Mz) ?_ ?_ (hI _)
    · rw [T_X_sheet]
      by_cases q1 : a < 0
      · rw [if_pos (by rw [lt32_iff] <;> omega)]
      · rw [if_neg (by rw [lt32_iff] <;> omega)]
        by_cases q2 : 3 < a
        · rw [if_pos (by rw [lt32_iff] <;> omega)]
        · rw [if_neg (by rw [lt32_iff] <;> omega), if_neg (by rw [le32_iff] <;> omega)]
    · rw [T_M_sheet, m_in (by decide) a1 a2 (by decide) (by decide) (by decide) (by decide), pbI_rI]
      by_cases q1 : 0 ≤ a ∧ a ≤ 3
      · rw [if_pos q1, if_neg (by decide), if_neg (by rw [le32_iff] <;> omega)]
      · rw [if_neg q1, if_pos (by decide)]
theorem fc_11 {Inv : pM → Prop} (hI : ∀ M, Inv M) {a b c e : Int} (a1 : -2147483648 ≤ a) (a2 : a < 2147483648) (b1 : -2147483648 ≤ b) (b2 : b < 2147483648) : okC (cmpc 11) 1000 11 216 [.inr 2, .inl a, .inl b] [.inr 62, .inl a, .inl b] Inv M0 := by
  refine okC_mk (v := -1) (M1 := M0) (M2 := Mz) ?_ ?_ (hI _)
  · rw [T_X_carry, T_X_attempt_13, x_isT a1 a2 (by decide), pbI_rI, if_pos (by decide), pbI_rI, if_pos (by decide)]
  · rw [T_M_carry, T_M_refusal, m_isT a1 a2 (by decide) rfl, pbI_rI, if_pos (by decide), pbI_rI, if_neg (by decide)]
theorem fc_27 {Inv : pM → Prop} (hI : ∀ M, Inv M) {a b c e : Int} (a1 : -2147483648 ≤ a) (a2 : a < 2147483648) (b1 : -2147483648 ≤ b) (b2 : b < 2147483648) : okC (cmpc 27) 1000 27 241 [.inr 2, .inl a, .inl b] [.inr 62, .inl a, .inl b] Inv M0 := by
  by_cases q : (1 ≤ a ∧ a ≤ 99) ∧ b = 0
  · obtain ⟨⟨q1, q2⟩, rfl⟩ := q
    have h := ev_27 a.toNat (by omega) (by omega)
    rw [show ((a.toNat : Nat) : Int) = a by omega] at h
    exact evA_ok h hI
  · refine okC_mk (v := -1) (M1 := M0) (M2 := Mz) ?_ ?_ (hI _)
    · rw [T_X_could]
      by_cases q1 : a < 1
      · rw [if_pos (by rw [lt32_iff] <;> omega)]
      · rw [if_neg (by rw [lt32_iff] <;> omega)]
        by_cases q2 : 99 < a
        · rw [if_pos (by rw [lt32_iff] <;> omega)]
        · rw [if_neg (by rw [lt32_iff] <;> omega)]
          by_cases q3 : b < 0
          · rw [if_pos (by rw [lt32_iff] <;> omega)]
          · rw [if_neg (by rw [lt32_iff] <;> omega), c_allSets (by decide) W0 X0, pbI_rI, if_neg (by rw [show ((2 ^ hS h0 - 1 : Nat) : Int) = 0 from rfl, le32_iff] <;> omega)]
    · rw [T_M_could, m_in (by decide) a1 a2 (by decide) (by decide) (by decide) (by decide), pbI_rI]
      by_cases q1 : 1 ≤ a ∧ a ≤ 99
      · rw [if_pos q1, if_neg (by decide), show jshl 1 (pset M0 60 17 0 60 8) - 1 = 0 by decide +kernel, m_in (by decide) b1 b2 (by decide) (by decide) (by decide) (by decide), pbI_rI, if_neg (show ¬ (0 ≤ b ∧ b ≤ 0) by omega), if_neg (by decide)]
      · rw [if_neg q1, if_pos (by decide)]
theorem fc_28 {Inv : pM → Prop} (hI : ∀ M, Inv M) {a b c e : Int} (a1 : -2147483648 ≤ a) (a2 : a < 2147483648) (b1 : -2147483648 ≤ b) (b2 : b < 2147483648) : okC (cmpc 28) 1000 28 242 [.inr 2, .inl a] [.inr 62, .inl a] Inv M0 := by
  refine okC_mk (v := -1) (M1 := M0) (M2 := pset Mz 60 30 0) ?_ ?_ (hI _)
  · rw [T_X_may, show M0 7 12 = 0 from rfl]
    by_cases q1 : a < 0
    · rw [if_pos (by rw [lt32_iff] <;> omega)]
    · rw [if_neg (by rw [lt32_iff] <;> omega), if_neg (by rw [lt32_iff] <;> omega)]
  · rw [T_M_may, T_M_findClumps, L_M_findClumps_7, if_pos (by decide), pbN_rV, show pset (pset M0 60 17 0) 60 30 0 60 30 - 1 = -1 from rfl, m_in (by decide) a1 a2 (by decide) (by decide) (by decide) (by decide), pbI_rI, if_neg (show ¬ (0 ≤ a ∧ a ≤ -1) by omega), if_neg (by decide)]
theorem fc_43 {Inv : pM → Prop} (hI : ∀ M, Inv M) {a b c e : Int} (a1 : -2147483648 ≤ a) (a2 : a < 2147483648) (b1 : -2147483648 ≤ b) (b2 : b < 2147483648) : okC (cmpc 43) 1000 43 266 [.inr 2, .inl a] [.inr 62, .inl a] Inv M0 := by
  by_cases q : 0 ≤ a ∧ a < 2
  · rcases (show a = 0 ∨ a = 1 by omega) with rfl | rfl
    · exact evA_ok ev_43_0 hI
    · exact evA_ok ev_43_1 hI
  · refine okC_mk (v := 0) (M1 := M0) (M2 := Mz) ?_ ?_ (hI _)
    · rw [T_X_keep, T_X_keptAt]
      by_cases q1 : a < 0
      · rw [if_pos (by rw [lt32_iff] <;> omega), pbR_rR, L_X_keep_n_3]
      · rw [if_neg (by rw [lt32_iff] <;> omega), if_pos (by rw [le32_iff] <;> omega), pbR_rR, L_X_keep_n_3]
    · rw [T_M_keep, m_in (by decide) a1 a2 (by decide) (by decide) (by decide) (by decide), pbI_rI, if_neg (show ¬ (0 ≤ a ∧ a ≤ 1) by omega), if_neg (by decide)]
theorem fc_44 {Inv : pM → Prop} (hI : ∀ M, Inv M) {a b c e : Int} (a1 : -2147483648 ≤ a) (a2 : a < 2147483648) (b1 : -2147483648 ≤ b) (b2 : b < 2147483648) : okC (cmpc 44) 1000 44 267 [.inr 2, .inl a] [.inr 62, .inl a] Inv M0 := by
  by_cases q : 0 ≤ a ∧ a < 2
  · rcases (show a = 0 ∨ a = 1 by omega) with rfl | rfl
    · exact evA_ok ev_44_0 hI
    · exact evA_ok ev_44_1 hI
  · refine okC_mk (v := 0) (M1 := M0) (M2 := Mz) ?_ ?_ (hI _)
    · rw [T_X_again, T_X_keptAt]
      by_cases q1 : a < 0
      · rw [if_pos (by rw [lt32_iff] <;> omega), pbR_rR, L_X_again_n_3]
      · rw [if_neg (by rw [lt32_iff] <;> omega), if_pos (by rw [le32_iff] <;> omega), pbR_rR, L_X_again_n_3]
    · rw [T_M_again, m_in (by decide) a1 a2 (by decide) (by decide) (by decide) (by decide), pbI_rI, if_neg (show ¬ (0 ≤ a ∧ a ≤ 1) by omega), if_pos (by decide)]
theorem fc_45 {Inv : pM → Prop} (hI : ∀ M, Inv M) {a b c e : Int} (a1 : -2147483648 ≤ a) (a2 : a < 2147483648) (b1 : -2147483648 ≤ b) (b2 : b < 2147483648) : okC (cmpc 45) 1000 45 268 [.inr 2, .inl a] [.inr 62, .inl a] Inv M0 := by
  by_cases q : 0 ≤ a ∧ a < 12
  · rcases (show a = 0 ∨ a = 1 ∨ a = 2 ∨ a = 3 ∨ a = 4 ∨ a = 5 ∨ a = 6 ∨ a = 7 ∨ a = 8 ∨ a = 9 ∨ a = 10 ∨ a = 11 by omega) with rfl | rfl | rfl | rfl | rfl | rfl | rfl | rfl | rfl | rfl | rfl | rfl
    · exact evA_ok ev_45_0 hI
    · exact evA_ok ev_45_1 hI
    · exact evA_ok ev_45_2 hI
    · exact evA_ok ev_45_3 hI
    · exact evA_ok ev_45_4 hI
    · exact evA_ok ev_45_5 hI
    · exact evA_ok ev_45_6 hI
    · exact evA_ok ev_45_7 hI
    · exact evA_ok ev_45_8 hI
    · exact evA_ok ev_45_9 hI
    · exact evA_ok ev_45_10 hI
    · exact evA_ok ev_45_11 hI
  · refine okC_mk (v := -1) (M1 := M0) (M2 := Mz) ?_ ?_ (hI _)
    · rw [T_X_count, if_neg (by rw [eq32_iff] <;> omega), if_neg (by rw [eq32_iff] <;> omega), if_neg (by rw [eq32_iff] <;> omega), if_neg (by rw [eq32_iff] <;> omega), if_neg (by rw [eq32_iff] <;> omega), if_neg (by rw [eq32_iff] <;> omega), if_neg (by rw [eq32_iff] <;> omega), if_neg (by rw [eq32_iff] <;> omega), if_neg (by rw [eq32_iff] <;> omega), if_neg (by rw [eq32_iff] <;> omega), if_neg (by rw [eq32_iff] <;> omega), if_neg (by rw [eq32_iff] <;> omega)]
    · rw [T_M_count, if_neg (by rw [eq32_iff] <;> omega), if_neg (by rw [eq32_iff] <;> omega), if_neg (by rw [eq32_iff] <;> omega), if_neg (by rw [eq32_iff] <;> omega), if_neg (by rw [eq32_iff] <;> omega), if_neg (by rw [eq32_iff] <;> omega), if_neg (by rw [eq32_iff] <;> omega), if_neg (by rw [eq32_iff] <;> omega), if_neg (by rw [eq32_iff] <;> omega), if_neg (by rw [eq32_iff] <;> omega), if_neg (by rw [eq32_iff] <;> omega), if_neg (by rw [eq32_iff] <;> omega)]
theorem fc_4 {Inv : pM → Prop} (hI : ∀ M, Inv M) {a b c e : Int} (a1 : -2147483648 ≤ a) (a2 : a < 2147483648) (b1 : -2147483648 ≤ b) (b2 : b < 2147483648) : okT (cmpc 4) 1000 4 10 199 [.inr 2, .inl a, .inl b] [.inr 62, .inl a, .inl b] Inv M0 := by
  refine okT_mk (M2 := pset Mz 60 17 1) (w := 0) (yL_thr ?_ ?_) ?_ (by rw [m_thr (by decide)]; rfl) (hI _)
  · rw [T_X_room, x_isR a1 a2 (by decide), pbI_rI, if_pos (by decide)]
  · rw [RT_room, x_isR a1 a2 (by decide), pbI_rI, if_pos (by decide)]
  · rw [T_M_room, m_isR a1 a2 (by decide) rfl, pbI_rI, if_pos (by decide), m_lost (by decide), pbI_rI]
theorem fc_5 {Inv : pM → Prop} (hI : ∀ M, Inv M) {a b c e : Int} (a1 : -2147483648 ≤ a) (a2 : a < 2147483648) (b1 : -2147483648 ≤ b) (b2 : b < 2147483648) : okT (cmpc 5) 1000 5 10 201 [.inr 2, .inl a, .inl b] [.inr 62, .inl a, .inl b] Inv M0 := by
  refine okT_mk (M2 := pset Mz 60 17 1) (w := 0) (yL_thr ?_ ?_) ?_ (by rw [m_thr (by decide)]; rfl) (hI _)
  · rw [T_X_thing, x_isT a1 a2 (by decide), pbI_rI, if_pos (by decide)]
  · rw [RT_thing, x_isT a1 a2 (by decide), pbI_rI, if_pos (by decide)]
  · rw [T_M_thing, m_isT a1 a2 (by decide) rfl, pbI_rI, if_pos (by decide), m_lost (by decide), pbI_rI]
theorem fc_46 {Inv : pM → Prop} (hI : ∀ M, Inv M) {a b c e : Int} (a1 : -2147483648 ≤ a) (a2 : a < 2147483648) (b1 : -2147483648 ≤ b) (b2 : b < 2147483648) : okT (cmpc 46) 1000 46 7 269 [.inr 2, .inl a] [.inr 62, .inl a] Inv M0 := by
  refine okT_mk (M2 := pset Mz 60 17 1) (w := 0) (yL_thr ?_ ?_) ?_ (by rw [m_thr (by decide)]; rfl) (hI _)
  · rw [T_X_row, show M0 5 1 = 0 from rfl]
    by_cases q1 : a < 0
    · rw [if_pos (by rw [lt32_iff] <;> omega)]
    · rw [if_neg (by rw [lt32_iff] <;> omega), if_neg (by rw [lt32_iff] <;> omega)]
  · rw [RT_row, show M0 5 1 = 0 from rfl]
    by_cases q1 : a < 0
    · rw [if_pos (by rw [lt32_iff] <;> omega)]
    · rw [if_neg (by rw [lt32_iff] <;> omega), if_neg (by rw [lt32_iff] <;> omega)]
  · rw [T_M_row, show pset M0 60 17 0 60 16 - 1 = -1 from rfl, m_in (by decide) a1 a2 (by decide) (by decide) (by decide) (by decide), pbI_rI, if_neg (show ¬ (0 ≤ a ∧ a ≤ -1) by omega), if_pos (by decide), m_lost (by decide), pbI_rI]
abbrev Mj : pM := pcp M0 13 59 10
abbrev Mj2 : pM := tel (tel (pset Mj 5 1 0) 0 0) 1 1
theorem X0j {M : pM} (h : ∀ o i, 7 ≤ o → o ≤ 14 → M o i = M0 o i) : XH M h0 := by
  have e : ∀ o i, 7 ≤ o → o ≤ 14 → M o i = 0 := fun o i h1 h2 => by
    rw [h o i h1 h2]
    rcases (show o = 7 ∨ o = 8 ∨ o = 9 ∨ o = 10 ∨ o = 11 ∨ o = 12 ∨ o = 13 ∨ o = 14 by omega) with rfl | rfl | rfl | rfl | rfl | rfl | rfl | rfl <;> rfl
  exact ⟨e _ _ (by decide) (by decide), e _ _ (by decide) (by decide), e _ _ (by decide) (by decide), fun r _ => e _ _ (by decide) (by decide), fun p _ => e _ _ (by decide) (by decide), fun t _ => ⟨e _ _ (by decide) (by decide), e _ _ (by decide) (by decide), e _ _ (by decide) (by decide), e _ _ (by decide) (by decide)⟩, fun s _ => e _ _ (by decide) (by decide)⟩
theorem xj_law : xF 999 91 [.inr 9, .inr 61] (tel (pset Mj 5 1 0) 0 0) = rI 1 (tel (pset Mj 5 1 0) 0 0) := by
  have hl : lwf h0 (fun _ => 0) := ⟨rfl, rfl⟩
  haveI : Decidable (lwf h0 (fun _ => 0)) := isTrue hl
  rw [c_lawful_59 (h := h0) (p := fun _ => 0) (by decide) W0 (X0j (fun o i h1 h2 => by
    show pset (pset (pset Mj 5 1 0) 6 0 0) 5 1 1 o i = M0 o i
    rw [pset_ne (by omega), pset_ne (by omega), pset_ne (by omega)]
    show pcp M0 13 59 10 o i = M0 o i
    unfold pcp
    rw [if_neg (by omega)])) (fun t ht => absurd ht (Nat.not_lt_zero t)), if_pos hl]
theorem xj_tail (x4 : Int) : (pbN (xF 999 127 [.inr 7] Mj) fun M1 => pbN (xF 999 128 [.inr 7, .inl 0] M1) fun M2 => pbI (xF 999 91 [.inr 9, .inr 61] M2) fun v4 M3 => if eq32 v4 0 then (pbN (xF 999 128 [.inr 7, .inl 0] M3) fun M5 => some (some (.inl x4), M5)) else (pbN (xF 999 128 [.inr 7, .inl 1] M3) fun M6 => some (some (.inl x4), M6))) = (rI x4 Mj2 : Option pR) := by
  rw [c_start (by decide), pbN_rV, c_tell (n := 0) (by decide) rfl (by decide), pbN_rV, xj_law, pbI_rI, if_neg (by decide), c_tell (n := 1) (by decide) rfl (by decide), pbN_rV]
theorem xj_att {x y : Int} (f g : Int32 → Int32 → Int32) : xF 999 51 [.inr 2, .inl (b32 f x y), .inl (b32 g x y), .inr 61, .inl ((Mj 0 16) + 0)] Mj = rI (-1) Mj := by
  rw [T_X_attempt_59, c_isThing7 (h := h0) (by decide) W0 (X0j (fun o i h1 h2 => by show pcp M0 13 59 10 o i = M0 o i; unfold pcp; rw [if_neg (by omega)])) (b32_lo _ _ _) (b32_hi _ _ _), pbI_rI, if_neg (show ¬ (0 ≤ b32 f x y ∧ b32 f x y < ((hT h0 : Nat) : Int)) by rw [show hT h0 = 0 from rfl]; omega), if_pos (by decide)]
theorem mj_law {M : pM} (h1 : M 60 0 = 0) (h2 : M 60 8 = 0) : xF 999 212 [.inr 62, .inr 68] M = rI 1 M := by
  rw [T_M_isLawful_66, T_M_partedSets_66, L_M_partedSets_66_4, if_pos (by rw [h2]; decide), pbI_rI, if_neg (by decide), T_M_fullRooms_66, L_M_fullRooms_66_4, if_pos (by rw [h1]; decide), pbI_rI, if_neg (by decide)]
abbrev Mk : pM := pset Mj2 60 17 0
abbrev Mk2 : pM := telM (telM (pset (pset Mk 60 11 0) 60 16 0) 0 0) 1 1
theorem mj_tail (n c x4 : Int) : xE 999 221 85 [.inr 62, .inl n, .inl c, .inl 0, .inl x4, .inl 0, .inl 1, .inl 0] [] Mk = rI x4 Mk2 := by
  rw [L_M_judge_85, if_pos (by decide), m_tell (n := 0) (by decide) rfl (by decide), pbN_rV, m_tell (n := 1) (by decide) rfl (by decide), pbN_rV]
theorem mj_ref {x y : Int} (f g : Int32 → Int32 → Int32) : xF 999 213 [.inr 62, .inl (b32 f x y), .inl (b32 g x y)] Mk = rI (-1) Mk := by
  rw [T_M_refusal, m_isT (b32_lo _ _ _) (b32_hi _ _ _) (by decide) rfl, pbI_rI, if_pos (by decide)]
theorem fc_15 {Inv : pM → Prop} (hI : ∀ M, Inv M) {a b c e : Int} (a1 : -2147483648 ≤ a) (a2 : a < 2147483648) (b1 : -2147483648 ≤ b) (b2 : b < 2147483648) : okC (cmpc 15) 1000 15 221 [.inr 2, .inl a, .inl b] [.inr 62, .inl a, .inl b] Inv M0 := by
  by_cases q : 0 ≤ a ∧ a ≤ 4
  · have hx : xF 1000 15 [.inr 2, .inl a, .inl b] M0 = xE 999 15 19 [.inr 2, .inl a, .inl b, .inl 0, .inl (-2), .inl 0, .inr 0, .inr 0] [] Mj := by
      rw [T_X_judge, if_neg (by rw [lt32_iff] <;> omega), if_pos (by rw [le32_iff] <;> omega), c_copy_13_59 (by decide), pbN_rV]
    have hm : xF 1000 221 [.inr 62, .inl a, .inl b] Mj2 = xE 999 221 35 [.inr 62, .inl a, .inl b, .inl 0, .inl (-2), .inl 0, .inl 0, .inr 0] [] Mk := by
      rw [T_M_judge, m_in (by decide) a1 a2 (by decide) (by decide) (by decide) (by decide), pbI_rI, if_pos q, if_pos (by decide), L_M_judge_12, if_pos (by decide)]
      rfl
    by_cases q0 : a = 0
    · subst q0
      refine okC_mk (v := -2) (M1 := Mj2) (M2 := Mk2) ?_ ?_ (hI _)
      · rw [hx, L_X_judge_19, if_pos (by decide)]
        exact xj_tail (-2)
      · rw [hm, L_M_judge_35, if_pos (by decide), mj_law rfl rfl, pbI_rI, if_neg (by decide)]
        exact mj_tail 0 b (-2)
    · refine okC_mk (v := 0) (M1 := Mj2) (M2 := Mk2) ?_ ?_ (hI _)
      · rw [hx, L_X_judge_19, if_neg (by rw [le32_iff] <;> omega), if_neg (by decide)]
        rw [show xF 999 51 [.inr 2, .inl (jdiv (jand (jshr b (7 * 0)) 127) 10), .inl (jrem (jand (jshr b (7 * 0)) 127) 10), .inr 61, .inl (Mj 0 16 + 0)] Mj = rI (-1) Mj from xj_att _ _, pbI_rI, if_neg (by decide), L_X_judge_19]
        by_cases q1 : a ≤ 1
        · rw [if_pos (by rw [le32_iff] <;> omega)]
          exact xj_tail 0
        · rw [if_neg (by rw [le32_iff] <;> omega), if_pos (by decide)]
          exact xj_tail 0
      · rw [hm, L_M_judge_35, if_neg (by rw [le32_iff] <;> omega), if_neg (by decide)]
        rw [show xF 999 213 [.inr 62, .inl (jdiv (jand (jshr b (7 * 0)) 127) 10), .inl (jrem (jand (jshr b (7 * 0)) 127) 10)] Mk = rI (-1) Mk from mj_ref _ _, pbI_rI, if_neg (by decide), L_M_judge_35]
        by_cases q1 : a ≤ 1
        · rw [if_pos (by rw [le32_iff] <;> omega), mj_law rfl rfl, pbI_rI, if_neg (by decide)]
          exact mj_tail a b 0
        · rw [if_neg (by rw [le32_iff] <;> omega), if_pos (by decide), mj_law rfl rfl, pbI_rI, if_neg (by decide)]
          exact mj_tail a b 0
  · refine okC_mk (v := -1) (M1 := M0) (M2 := Mz) ?_ ?_ (hI _)
    · rw [T_X_judge]
      by_cases q1 : a < 0
      · rw [if_pos (by rw [lt32_iff] <;> omega)]
      · rw [if_neg (by rw [lt32_iff] <;> omega), if_neg (by rw [le32_iff] <;> omega)]
    · rw [T_M_judge, m_in (by decide) a1 a2 (by decide) (by decide) (by decide) (by decide), pbI_rI, if_neg q, if_neg (by decide)]
theorem fresh_all {Inv : pM → Prop} (hI : ∀ M, Inv M) (x1 x2 x3 x4 : Int32) : ∀ c, callOK 1000 Inv M0 x1.toInt x2.toInt x3.toInt x4.toInt c := by
  have a1 := r32a x1
  have a2 := r32b x1
  have b1 := r32a x2
  have b2 := r32b x2
  intro c
  match c with
  | 0 => exact fc_0 hI a1 a2 b1 b2 (c := x3.toInt) (e := x4.toInt)
  | 1 => exact fc_1 hI a1 a2 b1 b2 (c := x3.toInt) (e := x4.toInt)
  | 2 => exact evA_ok ev_2 hI
  | 3 => exact evA_ok ev_3 hI
  | 4 => exact fc_4 hI a1 a2 b1 b2 (c := x3.toInt) (e := x4.toInt)
  | 5 => exact fc_5 hI a1 a2 b1 b2 (c := x3.toInt) (e := x4.toInt)
  | 6 => exact fc_6 hI a1 a2 b1 b2 (c := x3.toInt) (e := x4.toInt)
  | 7 => exact fc_7 hI a1 a2 b1 b2 (c := x3.toInt) (e := x4.toInt)
  | 8 => exact fc_8 hI a1 a2 b1 b2 (c := x3.toInt) (e := x4.toInt)
  | 9 => exact fc_9 hI a1 a2 b1 b2 (c := x3.toInt) (e := x4.toInt)
  | 10 => exact fc_10 hI a1 a2 b1 b2 (c := x3.toInt) (e := x4.toInt)
  | 11 => exact fc_11 hI a1 a2 b1 b2 (c := x3.toInt) (e := x4.toInt)
  | 12 => exact evA_ok ev_12 hI
  | 13 => exact evA_ok ev_13 hI
  | 14 => exact evA_ok ev_14 hI
  | 15 => exact fc_15 hI a1 a2 b1 b2 (c := x3.toInt) (e := x4.toInt)
  | 16 => exact evA_ok ev_16 hI
  | 17 => exact evA_ok ev_17 hI
  | 18 => exact fc_18 hI a1 a2 b1 b2 (c := x3.toInt) (e := x4.toInt)
  | 19 => exact fc_19 hI a1 a2 b1 b2 (c := x3.toInt) (e := x4.toInt)
  | 20 => exact evA_ok ev_20 hI
  | 21 => exact evA_ok ev_21 hI
  | 22 => exact evA_ok ev_22 hI
  | 23 => exact evA_ok ev_23 hI
  | 24 => exact evA_ok ev_24 hI
  | 25 => exact fc_25 hI a1 a2 b1 b2 (c := x3.toInt) (e := x4.toInt)
  | 26 => exact evA_ok ev_26 hI
  | 27 => exact fc_27 hI a1 a2 b1 b2 (c := x3.toInt) (e := x4.toInt)
  | 28 => exact fc_28 hI a1 a2 b1 b2 (c := x3.toInt) (e := x4.toInt)
  | 29 => exact fc_29 hI a1 a2 b1 b2 (c := x3.toInt) (e := x4.toInt)
  | 30 => exact fc_30 hI a1 a2 b1 b2 (c := x3.toInt) (e := x4.toInt)
  | 31 => exact fc_31 hI a1 a2 b1 b2 (c := x3.toInt) (e := x4.toInt)
  | 32 => exact evA_ok ev_32 hI
  | 33 => exact evA_ok ev_33 hI
  | 34 => exact fc_34 hI a1 a2 b1 b2 (c := x3.toInt) (e := x4.toInt)
  | 35 => exact fc_35 hI a1 a2 b1 b2 (c := x3.toInt) (e := x4.toInt)
  | 36 => exact evA_ok ev_36 hI
  | 37 => exact fc_37 hI a1 a2 b1 b2 (c := x3.toInt) (e := x4.toInt)
  | 38 => exact evA_ok ev_38 hI
  | 39 => exact evA_ok ev_39 hI
  | 40 => exact evA_ok ev_40 hI
  | 41 => exact evA_ok ev_41 hI
  | 42 => exact evA_ok ev_42 hI
  | 43 => exact fc_43 hI a1 a2 b1 b2 (c := x3.toInt) (e := x4.toInt)
  | 44 => exact fc_44 hI a1 a2 b1 b2 (c := x3.toInt) (e := x4.toInt)
  | 45 => exact fc_45 hI a1 a2 b1 b2 (c := x3.toInt) (e := x4.toInt)
  | 46 => exact fc_46 hI a1 a2 b1 b2 (c := x3.toInt) (e := x4.toInt)
  | c + 47 => exact hI _
