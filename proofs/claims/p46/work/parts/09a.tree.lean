/-! the equations of the methods (by program) -/
set_option maxRecDepth 10000 in
theorem T_X_sign (D : Nat) (b : Int) (M : pM) : xF (D + 1) 0 [.inr 2, .inl b] M =
 pbI (xF D 152 [.inr 3, .inl b] M) fun v2 M1 =>
 if eq32 v2 0 then
 some (some (.inl (-1)), M1)
 else
 some (some (.inl (M1 1 1)), M1) :=
 (show xF (D + 1) 0 [.inr 2, .inl b] M = xE D 0 0 [.inr 2, .inl b] [] M from rfl).trans ((x_run D 0 (fun i => C_0.getD i s_none) rfl (fun _ => false) 12 0 [.inr 2, .inl b] [] M).trans rfl)
set_option maxRecDepth 10000 in
theorem T_X_end (D : Nat) (b : Int) (M : pM) : xF (D + 1) 1 [.inr 2, .inl b] M =
 pbI (xF D 153 [.inr 3, .inl b] M) fun v2 M1 =>
 if v2 = 0 ∨ v2 = 1 then some (some (.inl v2), M1) else none :=
 (show xF (D + 1) 1 [.inr 2, .inl b] M = xE D 1 0 [.inr 2, .inl b] [] M from rfl).trans ((x_run D 1 (fun i => C_1.getD i s_none) rfl (fun _ => false) 6 0 [.inr 2, .inl b] [] M).trans rfl)
set_option maxRecDepth 10000 in
theorem T_X_house (D : Nat)  (M : pM) : xF (D + 1) 2 [.inr 2] M =
 if ¬ eq32 (M 1 1) 0 then
 (pbN (xF D 62 [.inr 19, .inr 9] M) fun M1 =>
 pbI (xF D 107 [.inr 6, .inr 19] M1) fun v3 M2 =>
 pbI (xF D 153 [.inr 3, .inl 0] M2) fun v5 M4 =>
 if lt32 v3 0 then
 some (some (.inl v3), M4)
 else
 (pbN (xF D 62 [.inr 9, .inr 19] M4) fun M6 =>
 pbN (xF D 98 [.inr 9] M6) fun M7 =>
 pbN (xF D 129 [.inr 41] M7) fun M8 =>
 some (some (.inl v3), M8)))
 else
 some (some (.inl 0), M) :=
 (show xF (D + 1) 2 [.inr 2] M = xE D 2 0 [.inr 2, .inr 0] [] M from rfl).trans ((x_run D 2 (fun i => C_2.getD i s_none) rfl (fun _ => false) 38 0 [.inr 2, .inr 0] [] M).trans rfl)
set_option maxRecDepth 10000 in
theorem T_X_rule (D : Nat)  (M : pM) : xF (D + 1) 3 [.inr 2] M =
 pbI (xF D 143 [.inr 29, .inr 5] M) fun v2 M1 =>
 if ¬ eq32 v2 (-1) then
 (pbI (xF D 153 [.inr 3, .inl 0] M1) fun v4 M3 =>
 if ¬ eq32 v2 (-1) then
 some (some (.inl ((-1) - v2)), M3)
 else
 some (some (.inl 0), M3))
 else
 (pbN (xF D 155 [.inr 30, .inr 3] M1) fun M5 =>
 pbI (xF D 153 [.inr 3, .inl 0] M5) fun v7 M6 =>
 if ¬ eq32 v2 (-1) then
 some (some (.inl ((-1) - v2)), M6)
 else
 some (some (.inl 0), M6)) :=
 (show xF (D + 1) 3 [.inr 2] M = xE D 3 0 [.inr 2, .inr 0] [] M from rfl).trans ((x_run D 3 (fun i => C_3.getD i s_none) rfl (fun _ => false) 30 0 [.inr 2, .inr 0] [] M).trans rfl)
set_option maxRecDepth 10000 in
theorem T_X_room (D : Nat) (b : Int) (c : Int) (M : pM) : xF (D + 1) 4 [.inr 2, .inl b, .inl c] M =
 pbI (xF D 63 [.inr 9, .inl b] M) fun v2 M1 =>
 if eq32 v2 0 then
 none
 else
 (if lt32 c 0 then
 none
 else
 (if le32 c 3 then
 (if eq32 c 0 then
 (if 0 ≤ b ∧ b < 6 then
 some (some (.inl (M1 8 b.toNat)), M1)
 else none)
 else
 if eq32 c 1 then
 (pbI (xF D 86 [.inr 9, .inl b, .inr 15] M1) fun v8 M7 =>
 some (some (.inl v8), M7))
 else
 if eq32 c 2 then
 (if 0 ≤ b ∧ b < 6 then
 pbI (xF D 87 [.inr 9, .inl b, .inr 15] M1) fun v6 M5 =>
 some (some (.inl ((M1 8 b.toNat) - v6)), M5)
 else none)
 else
 (pbI (xF D 77 [.inr 9, .inl b, .inl 1] M1) fun v4 M3 =>
 some (some (.inl v4), M3)))
 else
 none)) :=
 (show xF (D + 1) 4 [.inr 2, .inl b, .inl c] M = xE D 4 0 [.inr 2, .inl b, .inl c] [] M from rfl).trans ((x_run D 4 (fun i => C_4.getD i s_none) rfl (fun _ => false) 52 0 [.inr 2, .inl b, .inl c] [] M).trans rfl)
set_option maxRecDepth 10000 in
theorem T_X_thing (D : Nat) (b : Int) (c : Int) (M : pM) : xF (D + 1) 5 [.inr 2, .inl b, .inl c] M =
 pbI (xF D 64 [.inr 9, .inl b] M) fun v2 M1 =>
 if eq32 v2 0 then
 none
 else
 (if lt32 c 0 then
 none
 else
 (if le32 c 6 then
 (if eq32 c 0 then
 (if 0 ≤ b ∧ b < 10 then
 some (some (.inl (M1 10 b.toNat)), M1)
 else none)
 else
 if eq32 c 1 then
 (if 0 ≤ b ∧ b < 10 then
 some (some (.inl (M1 11 b.toNat)), M1)
 else none)
 else
 if eq32 c 2 then
 (if 0 ≤ b ∧ b < 10 then
 some (some (.inl (M1 12 b.toNat)), M1)
 else none)
 else
 if eq32 c 3 then
 (if 0 ≤ b ∧ b < 10 then
 some (some (.inl (M1 13 b.toNat)), M1)
 else none)
 else
 if eq32 c 4 then
 (pbI (xF D 93 [.inr 9, .inl b] M1) fun v6 M5 =>
 some (some (.inl v6), M5))
 else
 if eq32 c 5 then
 (if 0 ≤ b ∧ b < 10 then
 some (some (.inl (M1 16 b.toNat)), M1)
 else none)
 else
 (if 0 ≤ b ∧ b < 10 then
 pbI (xF D 144 [.inr 29, .inr 9, .inl b, .inl (M1 13 b.toNat)] M1) fun v4 M3 =>
 some (some (.inl v4), M3)
 else none))
 else
 none)) :=
 (show xF (D + 1) 5 [.inr 2, .inl b, .inl c] M = xE D 5 0 [.inr 2, .inl b, .inl c] [] M from rfl).trans ((x_run D 5 (fun i => C_5.getD i s_none) rfl (fun _ => false) 65 0 [.inr 2, .inl b, .inl c] [] M).trans rfl)
set_option maxRecDepth 10000 in
theorem T_X_widen (D : Nat) (b : Int) (c : Int) (d : Int) (M : pM) : xF (D + 1) 8 [.inr 2, .inl b, .inl c, .inl d] M =
 pbI (xF D 65 [.inr 9, .inl b, .inl c] M) fun v2 M1 =>
 if eq32 v2 0 then
 some (some (.inl (-1)), M1)
 else
 (if lt32 d 0 then
 some (some (.inl (-1)), M1)
 else
 (if le32 d 9 then
 (pbI (xF D 74 [.inr 9, .inl b, .inl c] M1) fun v4 M3 =>
 pbN (xF D 73 [.inr 9, .inl b, .inl c, .inl d] M3) fun M5 =>
 some (some (.inl v4), M5))
 else
 some (some (.inl (-1)), M1))) :=
 (show xF (D + 1) 8 [.inr 2, .inl b, .inl c, .inl d] M = xE D 8 0 [.inr 2, .inl b, .inl c, .inl d, .inr 0] [] M from rfl).trans ((x_run D 8 (fun i => C_8.getD i s_none) rfl (fun _ => false) 28 0 [.inr 2, .inl b, .inl c, .inl d, .inr 0] [] M).trans rfl)
set_option maxRecDepth 10000 in
theorem T_X_strength (D : Nat) (b : Int) (M : pM) : xF (D + 1) 9 [.inr 2, .inl b] M =
 if lt32 b 1 then
 some (some (.inl (-1)), M)
 else
 (if le32 b 999 then
 some (some (.inl (M 0 17)), pset M 0 17 b)
 else
 some (some (.inl (-1)), M)) :=
 (show xF (D + 1) 9 [.inr 2, .inl b] M = xE D 9 0 [.inr 2, .inl b, .inr 0] [] M from rfl).trans ((x_run D 9 (fun i => C_9.getD i s_none) rfl (fun _ => false) 17 0 [.inr 2, .inl b, .inr 0] [] M).trans rfl)
set_option maxRecDepth 10000 in
theorem T_X_sheet (D : Nat) (b : Int) (c : Int) (d : Int) (e : Int) (M : pM) : xF (D + 1) 10 [.inr 2, .inl b, .inl c, .inl d, .inl e] M =
 if lt32 b 0 then
 some (some (.inl (-1)), M)
 else
 (if lt32 3 b then
 some (some (.inl (-1)), M)
 else
 (if le32 c 10 then
 (if ¬ eq32 b 3 then
 (if le32 0 c then
 (pbI (xF D 76 [.inr 9, .inl b, .inl c, .inl d, .inl e] M) fun v2 M1 =>
 some (some (.inl v2), M1))
 else
 some (some (.inl (-2)), M))
 else
 (pbI (xF D 76 [.inr 9, .inl 2, .inl 0, .inl 0, .inl 0] M) fun v4 M3 =>
 some (some (.inl (-3)), M3)))
 else
 some (some (.inl (-1)), M))) :=
 (show xF (D + 1) 10 [.inr 2, .inl b, .inl c, .inl d, .inl e] M = xE D 10 0 [.inr 2, .inl b, .inl c, .inl d, .inl e] [] M from rfl).trans ((x_run D 10 (fun i => C_10.getD i s_none) rfl (fun _ => false) 36 0 [.inr 2, .inl b, .inl c, .inl d, .inl e] [] M).trans rfl)
set_option maxRecDepth 10000 in
theorem T_X_carry (D : Nat) (b : Int) (c : Int) (M : pM) : xF (D + 1) 11 [.inr 2, .inl b, .inl c] M =
 pbI (xF D 51 [.inr 2, .inl b, .inl c, .inr 15, .inl (M 0 16)] M) fun v2 M1 =>
 if lt32 v2 0 then
 some (some (.inl v2), M1)
 else
 (pbN (xF D 52 [.inr 2, .inl b, .inl c, .inl v2] M1) fun M3 =>
 some (some (.inl v2), M3)) :=
 (show xF (D + 1) 11 [.inr 2, .inl b, .inl c] M = xE D 11 0 [.inr 2, .inl b, .inl c, .inr 0] [] M from rfl).trans ((x_run D 11 (fun i => C_11.getD i s_none) rfl (fun _ => false) 20 0 [.inr 2, .inl b, .inl c, .inr 0] [] M).trans rfl)
set_option maxRecDepth 10000 in
theorem T_X_evening (D : Nat)  (M : pM) : xF (D + 1) 12 [.inr 2] M =
 pbI (xF D 89 [.inr 9, .inr 15] M) fun v2 M1 =>
 pbI (xF D 88 [.inr 9, .inr 15] M1) fun v4 M3 =>
 pbN (xF D 127 [.inr 7] M3) fun M5 =>
 pbN (xF D 128 [.inr 7, .inl v2] M5) fun M6 =>
 pbN (xF D 128 [.inr 7, .inl v4] M6) fun M7 =>
 if ¬ eq32 (jor v2 v4) 0 then
 some (some (.inl 0), M7)
 else
 (pbI (xF D 53 [.inr 2] M7) fun v9 M8 =>
 some (some (.inl v9), M8)) :=
 (show xF (D + 1) 12 [.inr 2] M = xE D 12 0 [.inr 2, .inr 0, .inr 0] [] M from rfl).trans ((x_run D 12 (fun i => C_12.getD i s_none) rfl (fun _ => false) 35 0 [.inr 2, .inr 0, .inr 0] [] M).trans rfl)
set_option maxRecDepth 10000 in
theorem T_X_day (D : Nat)  (M : pM) : xF (D + 1) 13 [.inr 2] M =
 pbI (xF D 54 [.inr 2] M) fun v2 M1 =>
 if eq32 v2 (-1) then
 xE D 13 29 [.inr 2, .inl v2, .inl (jdiv ((M1 1 1) + 1) 4), .inl 0, .inl 0, .inl 0, .inr 0] [] M1
 else
 (pbI (xF D 153 [.inr 3, .inl 0] M1) fun v4 M3 =>
 some (some (.inl ((-1) - v2)), M3)) :=
 (show xF (D + 1) 13 [.inr 2] M = xE D 13 0 [.inr 2, .inr 0, .inr 0, .inr 0, .inr 0, .inr 0, .inr 0] [] M from rfl).trans ((x_run D 13 (fun i => C_13.getD i s_none) rfl (fun i => Nat.beq i 29) 99 0 [.inr 2, .inr 0, .inr 0, .inr 0, .inr 0, .inr 0, .inr 0] [] M).trans rfl)
set_option maxRecDepth 10000 in
theorem L_X_day_29 (D : Nat) (x1 : Int) (x2 : Int) (x3 : Int) (x4 : Int) (x5 : Int) (yx6 : pV) (M : pM) : xE D 13 29 [.inr 2, .inl x1, .inl x2, .inl x3, .inl x4, .inl x5, yx6] [] M =
 if le32 x2 x5 then
 (pbI (xF D 153 [.inr 3, .inl 0] M) fun v2 M1 =>
 if le32 x2 x4 then
 (pbI (xF D 91 [.inr 9, .inr 15] M1) fun v4 M3 =>
 if eq32 v4 0 then
 (pbN (xF D 127 [.inr 7] M3) fun M5 =>
 pbN (xF D 128 [.inr 7, .inl 0] M5) fun M6 =>
 pbN (xF D 128 [.inr 7, .inl x3] M6) fun M7 =>
 some (some (.inl x4), M7))
 else
 (pbI (xF D 53 [.inr 2] M3) fun v9 M8 =>
 pbN (xF D 127 [.inr 7] M8) fun M10 =>
 pbN (xF D 128 [.inr 7, .inl v9] M10) fun M11 =>
 pbN (xF D 128 [.inr 7, .inl x3] M11) fun M12 =>
 some (some (.inl x4), M12)))
 else
 (pbN (xF D 127 [.inr 7] M1) fun M13 =>
 pbN (xF D 128 [.inr 7, .inl (-1)] M13) fun M14 =>
 pbN (xF D 128 [.inr 7, .inl x3] M14) fun M15 =>
 some (some (.inl x4), M15)))
 else
 (pbI (xF D 154 [.inr 3, .inl (x5 * 4)] M) fun v17 M16 =>
 pbI (xF D 154 [.inr 3, .inl ((x5 * 4) + 2)] M16) fun v19 M18 =>
 pbI (xF D 11 [.inr 2, .inl (v17 - 97), .inl (v19 - 48)] M18) fun v21 M20 =>
 if le32 0 v21 then
 xE D 13 29 [.inr 2, .inl x1, .inl x2, .inl (x3 + v21), .inl (x4 + 1), .inl (x5 + 1), .inl v21] [] M20
 else
 (pbI (xF D 153 [.inr 3, .inl 0] M20) fun v23 M22 =>
 if le32 x2 x4 then
 (pbI (xF D 91 [.inr 9, .inr 15] M22) fun v25 M24 =>
 if eq32 v25 0 then
 (pbN (xF D 127 [.inr 7] M24) fun M26 =>
 pbN (xF D 128 [.inr 7, .inl 0] M26) fun M27 =>
 pbN (xF D 128 [.inr 7, .inl x3] M27) fun M28 =>
 some (some (.inl x4), M28))
 else
 (pbI (xF D 53 [.inr 2] M24) fun v30 M29 =>
 pbN (xF D 127 [.inr 7] M29) fun M31 =>
 pbN (xF D 128 [.inr 7, .inl v30] M31) fun M32 =>
 pbN (xF D 128 [.inr 7, .inl x3] M32) fun M33 =>
 some (some (.inl x4), M33)))
 else
 (pbN (xF D 127 [.inr 7] M22) fun M34 =>
 pbN (xF D 128 [.inr 7, .inl (-1)] M34) fun M35 =>
 pbN (xF D 128 [.inr 7, .inl x3] M35) fun M36 =>
 some (some (.inl x4), M36)))) :=
 (x_run D 13 (fun i => C_13.getD i s_none) rfl (fun i => Nat.beq i 29) 99 29 [.inr 2, .inl x1, .inl x2, .inl x3, .inl x4, .inl x5, yx6] [] M).trans rfl
set_option maxRecDepth 10000 in
theorem T_X_undo (D : Nat)  (M : pM) : xF (D + 1) 14 [.inr 2] M =
 if ¬ eq32 (M 39 3) 0 then
 (pbI (xF D 47 [.inr 42, .inl ((pset M 39 3 ((M 39 3) - 1)) 39 3)] (pset M 39 3 ((M 39 3) - 1))) fun v2 M1 =>
 pbI (xF D 64 [.inr 9, .inl v2] M1) fun v4 M3 =>
 if eq32 v4 0 then
 (pbI (xF D 47 [.inr 44, .inl (M3 39 3)] M3) fun v6 M5 =>
 some (some (.inl ((pset M5 0 16 v6) 39 3)), pset M5 0 16 v6))
 else
 (pbI (xF D 47 [.inr 43, .inl (M3 39 3)] M3) fun v8 M7 =>
 if 0 ≤ v2 ∧ v2 < 10 then
 pbI (xF D 47 [.inr 44, .inl ((pset M7 13 v2.toNat v8) 39 3)] (pset M7 13 v2.toNat v8)) fun v10 M9 =>
 some (some (.inl ((pset M9 0 16 v10) 39 3)), pset M9 0 16 v10)
 else none))
 else
 some (some (.inl (-1)), M) :=
 (show xF (D + 1) 14 [.inr 2] M = xE D 14 0 [.inr 2, .inr 0] [] M from rfl).trans ((x_run D 14 (fun i => C_14.getD i s_none) rfl (fun _ => false) 52 0 [.inr 2, .inr 0] [] M).trans rfl)
set_option maxRecDepth 10000 in
theorem T_X_judge (D : Nat) (b : Int) (c : Int) (M : pM) : xF (D + 1) 15 [.inr 2, .inl b, .inl c] M =
 if lt32 b 0 then
 some (some (.inl (-1)), M)
 else
 (if le32 b 4 then
 (pbN (xF D 48 [.inr 15, .inr 61] M) fun M1 =>
 xE D 15 19 [.inr 2, .inl b, .inl c, .inl 0, .inl (-2), .inl 0, .inr 0, .inr 0] [] M1)
 else
 some (some (.inl (-1)), M)) :=
 (show xF (D + 1) 15 [.inr 2, .inl b, .inl c] M = xE D 15 0 [.inr 2, .inl b, .inl c, .inr 0, .inr 0, .inr 0, .inr 0, .inr 0] [] M from rfl).trans ((x_run D 15 (fun i => C_15.getD i s_none) rfl (fun i => Nat.beq i 19) 90 0 [.inr 2, .inl b, .inl c, .inr 0, .inr 0, .inr 0, .inr 0, .inr 0] [] M).trans rfl)
set_option maxRecDepth 10000 in
theorem L_X_judge_19 (D : Nat) (x1 : Int) (x2 : Int) (x3 : Int) (x4 : Int) (x5 : Int) (yx6 : pV) (yx7 : pV) (M : pM) : xE D 15 19 [.inr 2, .inl x1, .inl x2, .inl x3, .inl x4, .inl x5, yx6, yx7] [] M =
 if le32 x1 x5 then
 (pbN (xF D 127 [.inr 7] M) fun M1 =>
 pbN (xF D 128 [.inr 7, .inl x3] M1) fun M2 =>
 pbI (xF D 91 [.inr 9, .inr 61] M2) fun v4 M3 =>
 if eq32 v4 0 then
 (pbN (xF D 128 [.inr 7, .inl 0] M3) fun M5 =>
 some (some (.inl x4), M5))
 else
 (pbN (xF D 128 [.inr 7, .inl 1] M3) fun M6 =>
 some (some (.inl x4), M6)))
 else
 (if ¬ eq32 x4 (-2) then
 (pbN (xF D 127 [.inr 7] M) fun M7 =>
 pbN (xF D 128 [.inr 7, .inl x3] M7) fun M8 =>
 pbI (xF D 91 [.inr 9, .inr 61] M8) fun v10 M9 =>
 if eq32 v10 0 then
 (pbN (xF D 128 [.inr 7, .inl 0] M9) fun M11 =>
 some (some (.inl x4), M11))
 else
 (pbN (xF D 128 [.inr 7, .inl 1] M9) fun M12 =>
 some (some (.inl x4), M12)))
 else
 (pbI (xF D 51 [.inr 2, .inl (jdiv (jand (jshr x2 (7 * x5)) 127) 10), .inl (jrem (jand (jshr x2 (7 * x5)) 127) 10), .inr 61, .inl ((M 0 16) + x3)] M) fun v14 M13 =>
 if le32 0 v14 then
 (if 0 ≤ jdiv (jand (jshr x2 (7 * x5)) 127) 10 ∧ jdiv (jand (jshr x2 (7 * x5)) 127) 10 < 10 then
 xE D 15 19 [.inr 2, .inl x1, .inl x2, .inl (x3 + v14), .inl x4, .inl (x5 + 1), .inl (jand (jshr x2 (7 * x5)) 127), .inl v14] [] (pset M13 59 ((jdiv (jand (jshr x2 (7 * x5)) 127) 10).toNat) (jrem (jand (jshr x2 (7 * x5)) 127) 10))
 else none)
 else
 xE D 15 19 [.inr 2, .inl x1, .inl x2, .inl x3, .inl x5, .inl (x5 + 1), .inl (jand (jshr x2 (7 * x5)) 127), .inl v14] [] M13)) :=
 (x_run D 15 (fun i => C_15.getD i s_none) rfl (fun i => Nat.beq i 19) 90 19 [.inr 2, .inl x1, .inl x2, .inl x3, .inl x4, .inl x5, yx6, yx7] [] M).trans rfl
set_option maxRecDepth 10000 in
theorem T_X_breaks (D : Nat) (b : Int) (M : pM) : xF (D + 1) 19 [.inr 2, .inl b] M =
 pbI (xF D 64 [.inr 9, .inl b] M) fun v2 M1 =>
 if ¬ eq32 v2 0 then
 (pbN (xF D 95 [.inr 9, .inl b] M1) fun M3 =>
 pbN (xF D 98 [.inr 9] M3) fun M4 =>
 some (some (.inl (M4 7 12)), M4))
 else
 some (some (.inl (-1)), M1) :=
 (show xF (D + 1) 19 [.inr 2, .inl b] M = xE D 19 0 [.inr 2, .inl b] [] M from rfl).trans ((x_run D 19 (fun i => C_19.getD i s_none) rfl (fun _ => false) 19 0 [.inr 2, .inl b] [] M).trans rfl)
set_option maxRecDepth 10000 in
theorem T_X_hinge (D : Nat) (b : Int) (M : pM) : xF (D + 1) 37 [.inr 2, .inl b] M =
 pbI (xF D 63 [.inr 9, .inl b] M) fun v2 M1 =>
 if ¬ eq32 v2 0 then
 xE D 37 15 [.inr 2, .inl b, .inl (-1), .inl (-1), .inl (-1), .inl 0, .inr 0, .inr 0] [] M1
 else
 some (some (.inl (-1)), M1) :=
 (show xF (D + 1) 37 [.inr 2, .inl b] M = xE D 37 0 [.inr 2, .inl b, .inr 0, .inr 0, .inr 0, .inr 0, .inr 0, .inr 0] [] M from rfl).trans ((x_run D 37 (fun i => C_37.getD i s_none) rfl (fun i => Nat.beq i 15 || Nat.beq i 24) 76 0 [.inr 2, .inl b, .inr 0, .inr 0, .inr 0, .inr 0, .inr 0, .inr 0] [] M).trans rfl)
set_option maxRecDepth 10000 in
theorem L_X_hinge_15 (D : Nat) (x1 : Int) (x2 : Int) (x3 : Int) (x4 : Int) (x5 : Int) (yx6 : pV) (yx7 : pV) (M : pM) : xE D 37 15 [.inr 2, .inl x1, .inl x2, .inl x3, .inl x4, .inl x5, yx6, yx7] [] M =
 if le32 (M 7 9) x5 then
 (if ¬ eq32 x2 (-1) then
 (pbN (xF D 127 [.inr 7] M) fun M1 =>
 pbN (xF D 128 [.inr 7, .inl x3] M1) fun M2 =>
 pbN (xF D 128 [.inr 7, .inl x4] M2) fun M3 =>
 some (some (.inl x2), M3))
 else
 some (some (.inl (-2)), M))
 else
 xE D 37 24 [.inr 2, .inl x1, .inl x2, .inl x3, .inl x4, .inl x5, .inl (x5 + 1), yx7] [] M :=
 (x_run D 37 (fun i => C_37.getD i s_none) rfl (fun i => Nat.beq i 15 || Nat.beq i 24) 76 15 [.inr 2, .inl x1, .inl x2, .inl x3, .inl x4, .inl x5, yx6, yx7] [] M).trans rfl
set_option maxRecDepth 10000 in
theorem L_X_hinge_24 (D : Nat) (x1 : Int) (x2 : Int) (x3 : Int) (x4 : Int) (x5 : Int) (x6 : Int) (yx7 : pV) (M : pM) : xE D 37 24 [.inr 2, .inl x1, .inl x2, .inl x3, .inl x4, .inl x5, .inl x6, yx7] [] M =
 if le32 (M 7 9) x6 then
 xE D 37 15 [.inr 2, .inl x1, .inl x2, .inl x3, .inl x4, .inl (x5 + 1), .inl x6, yx7] [] M
 else
 (pbI (xF D 74 [.inr 9, .inl x5, .inl x6] M) fun v2 M1 =>
 if ¬ eq32 v2 0 then
 (pbI (xF D 84 [.inr 9, .inl x5, .inl x6, .inl x1] M1) fun v4 M3 =>
 if le32 v4 x4 then
 xE D 37 24 [.inr 2, .inl x1, .inl x2, .inl x3, .inl x4, .inl x5, .inl (x6 + 1), .inl v4] [] M3
 else
 xE D 37 24 [.inr 2, .inl x1, .inl x5, .inl x6, .inl v4, .inl x5, .inl (x6 + 1), .inl v4] [] M3)
 else
 (if le32 (-1) x4 then
 xE D 37 24 [.inr 2, .inl x1, .inl x2, .inl x3, .inl x4, .inl x5, .inl (x6 + 1), .inl (-1)] [] M1
 else
 xE D 37 24 [.inr 2, .inl x1, .inl x5, .inl x6, .inl (-1), .inl x5, .inl (x6 + 1), .inl (-1)] [] M1)) :=
 (x_run D 37 (fun i => C_37.getD i s_none) rfl (fun i => Nat.beq i 15 || Nat.beq i 24) 76 24 [.inr 2, .inl x1, .inl x2, .inl x3, .inl x4, .inl x5, .inl x6, yx7] [] M).trans rfl
set_option maxRecDepth 10000 in
theorem T_X_aim (D : Nat)  (M : pM) : xF (D + 1) 38 [.inr 2] M =
 if ¬ eq32 (M 1 1) 0 then
 (pbI (xF D 56 [.inr 2] M) fun v2 M1 =>
 if ¬ eq32 v2 (-1) then
 (pbI (xF D 153 [.inr 3, .inl 0] M1) fun v4 M3 =>
 if ¬ eq32 v2 (-1) then
 some (some (.inl ((-1) - v2)), M3)
 else
 some (some (.inl (M 1 1)), M3))
 else
 xE D 38 16 [.inr 2, .inl (M 1 1), .inl v2, .inl 0] [] M1)
 else
 (if ¬ eq32 (-1) (-1) then
 (pbI (xF D 153 [.inr 3, .inl 0] M) fun v6 M5 =>
 if ¬ eq32 (-1) (-1) then
 some (some (.inl ((-1) - (-1))), M5)
 else
 some (some (.inl (M 1 1)), M5))
 else
 xE D 38 16 [.inr 2, .inl (M 1 1), .inl (-1), .inl 0] [] M) :=
 (show xF (D + 1) 38 [.inr 2] M = xE D 38 0 [.inr 2, .inr 0, .inr 0, .inr 0] [] M from rfl).trans ((x_run D 38 (fun i => C_38.getD i s_none) rfl (fun i => Nat.beq i 16) 52 0 [.inr 2, .inr 0, .inr 0, .inr 0] [] M).trans rfl)
set_option maxRecDepth 10000 in
theorem L_X_aim_16 (D : Nat) (x1 : Int) (x2 : Int) (x3 : Int) (M : pM) : xE D 38 16 [.inr 2, .inl x1, .inl x2, .inl x3] [] M =
 if le32 x1 x3 then
 (pbI (xF D 153 [.inr 3, .inl 0] (pset M 0 14 x1)) fun v2 M1 =>
 if ¬ eq32 x2 (-1) then
 some (some (.inl ((-1) - x2)), M1)
 else
 some (some (.inl x1), M1))
 else
 (if le32 10 x3 then
 (pbI (xF D 153 [.inr 3, .inl 0] (pset M 0 14 x1)) fun v4 M3 =>
 if ¬ eq32 x2 (-1) then
 some (some (.inl ((-1) - x2)), M3)
 else
 some (some (.inl x1), M3))
 else
 (pbI (xF D 154 [.inr 3, .inl x3] M) fun v6 M5 =>
 if 0 ≤ x3 ∧ x3 < 10 then
 xE D 38 16 [.inr 2, .inl x1, .inl x2, .inl (x3 + 1)] [] (pset M5 58 x3.toNat (v6 - 48))
 else none)) :=
 (x_run D 38 (fun i => C_38.getD i s_none) rfl (fun i => Nat.beq i 16) 52 16 [.inr 2, .inl x1, .inl x2, .inl x3] [] M).trans rfl
set_option maxRecDepth 10000 in
theorem T_X_keep (D : Nat) (b : Int) (M : pM) : xF (D + 1) 43 [.inr 2, .inl b] M =
 pbR (xF D 50 [.inr 2, .inl b] M) fun k2 M1 =>
 xE D 43 3 [.inr 2, .inl b, .inr 0] [.inr (k2 + 1)] M1 :=
 (show xF (D + 1) 43 [.inr 2, .inl b] M = xE D 43 0 [.inr 2, .inl b, .inr 0] [] M from rfl).trans ((x_run D 43 (fun i => C_43.getD i s_none) rfl (fun i => Nat.beq i 3) 19 0 [.inr 2, .inl b, .inr 0] [] M).trans rfl)
set_option maxRecDepth 10000 in
theorem L_X_keep_n_3 (D : Nat) (x1 : Int) (M : pM) : xE D 43 3 [.inr 2, .inl x1, .inr 0] [.inr 1] M =
 some (some (.inl 0), M) :=
 (x_run D 43 (fun i => C_43.getD i s_none) rfl (fun i => Nat.beq i 3) 19 3 [.inr 2, .inl x1, .inr 0] [.inr 1] M).trans rfl
set_option maxRecDepth 10000 in
theorem L_X_keep_44_3 (D : Nat) (x1 : Int) (M : pM) : xE D 43 3 [.inr 2, .inl x1, .inr 0] [.inr 46] M =
 pbN (xF D 125 [.inr 46, .inr 9, .inl (M 0 15), .inl (M 0 16)] M) fun M1 =>
 some (some (.inl 1), M1) :=
 (x_run D 43 (fun i => C_43.getD i s_none) rfl (fun i => Nat.beq i 3) 19 3 [.inr 2, .inl x1, .inr 0] [.inr 46] M).trans rfl
set_option maxRecDepth 10000 in
theorem L_X_keep_46_3 (D : Nat) (x1 : Int) (M : pM) : xE D 43 3 [.inr 2, .inl x1, .inr 0] [.inr 48] M =
 pbN (xF D 125 [.inr 48, .inr 9, .inl (M 0 15), .inl (M 0 16)] M) fun M1 =>
 some (some (.inl 1), M1) :=
 (x_run D 43 (fun i => C_43.getD i s_none) rfl (fun i => Nat.beq i 3) 19 3 [.inr 2, .inl x1, .inr 0] [.inr 48] M).trans rfl
set_option maxRecDepth 10000 in
theorem T_X_again (D : Nat) (b : Int) (M : pM) : xF (D + 1) 44 [.inr 2, .inl b] M =
 pbR (xF D 50 [.inr 2, .inl b] M) fun k2 M1 =>
 xE D 44 3 [.inr 2, .inl b, .inr 0] [.inr (k2 + 1)] M1 :=
 (show xF (D + 1) 44 [.inr 2, .inl b] M = xE D 44 0 [.inr 2, .inl b, .inr 0] [] M from rfl).trans ((x_run D 44 (fun i => C_44.getD i s_none) rfl (fun i => Nat.beq i 3) 33 0 [.inr 2, .inl b, .inr 0] [] M).trans rfl)
set_option maxRecDepth 10000 in
theorem L_X_again_n_3 (D : Nat) (x1 : Int) (M : pM) : xE D 44 3 [.inr 2, .inl x1, .inr 0] [.inr 1] M =
 some (some (.inl 0), M) :=
 (x_run D 44 (fun i => C_44.getD i s_none) rfl (fun i => Nat.beq i 3) 33 3 [.inr 2, .inl x1, .inr 0] [.inr 1] M).trans rfl
set_option maxRecDepth 10000 in
theorem L_X_again_44_3 (D : Nat) (x1 : Int) (M : pM) : xE D 44 3 [.inr 2, .inl x1, .inr 0] [.inr 46] M =
 pbI (xF D 126 [.inr 46, .inr 9] M) fun v2 M1 =>
 if ¬ eq32 v2 0 then
 (pbN (xF D 48 [.inr 47, .inr 15] M1) fun M3 =>
 pbN (xF D 129 [.inr 41] (pset (pset M3 0 15 (M3 44 4)) 0 16 ((pset M3 0 15 (M3 44 4)) 44 5))) fun M4 =>
 some (some (.inl 1), M4))
 else
 some (some (.inl 0), M1) :=
 (x_run D 44 (fun i => C_44.getD i s_none) rfl (fun i => Nat.beq i 3) 33 3 [.inr 2, .inl x1, .inr 0] [.inr 46] M).trans rfl
set_option maxRecDepth 10000 in
theorem L_X_again_46_3 (D : Nat) (x1 : Int) (M : pM) : xE D 44 3 [.inr 2, .inl x1, .inr 0] [.inr 48] M =
 pbI (xF D 126 [.inr 48, .inr 9] M) fun v2 M1 =>
 if ¬ eq32 v2 0 then
 (pbN (xF D 48 [.inr 49, .inr 15] M1) fun M3 =>
 pbN (xF D 129 [.inr 41] (pset (pset M3 0 15 (M3 46 4)) 0 16 ((pset M3 0 15 (M3 46 4)) 46 5))) fun M4 =>
 some (some (.inl 1), M4))
 else
 some (some (.inl 0), M1) :=
 (x_run D 44 (fun i => C_44.getD i s_none) rfl (fun i => Nat.beq i 3) 33 3 [.inr 2, .inl x1, .inr 0] [.inr 48] M).trans rfl
set_option maxRecDepth 10000 in
theorem T_X_row (D : Nat) (b : Int) (M : pM) : xF (D + 1) 46 [.inr 2, .inl b] M =
 if lt32 b 0 then
 none
 else
 (if lt32 b (M 5 1) then
 (pbI (xF D 47 [.inr 8, .inl b] M) fun v2 M1 =>
 some (some (.inl v2), M1))
 else
 none) :=
 (show xF (D + 1) 46 [.inr 2, .inl b] M = xE D 46 0 [.inr 2, .inl b] [] M from rfl).trans ((x_run D 46 (fun i => C_46.getD i s_none) rfl (fun _ => false) 19 0 [.inr 2, .inl b] [] M).trans rfl)
set_option maxRecDepth 10000 in
theorem T_X_numberAt_13 (D : Nat) (b : Int) (M : pM) : xF (D + 1) 47 [.inr 15, .inl b] M =
 if lt32 b 0 then
 some (some (.inl 0), M)
 else
 (if le32 10 b then
 some (some (.inl 0), M)
 else
 (if 0 ≤ b ∧ b < 10 then
 some (some (.inl (M 13 b.toNat)), M)
 else none)) :=
 (show xF (D + 1) 47 [.inr 15, .inl b] M = xE D 47 0 [.inr 15, .inl b] [] M from rfl).trans ((x_run D 47 (fun i => C_47.getD i s_none) rfl (fun _ => false) 13 0 [.inr 15, .inl b] [] M).trans rfl)
set_option maxRecDepth 10000 in
theorem T_X_numberAt_2 (D : Nat) (b : Int) (M : pM) : xF (D + 1) 47 [.inr 4, .inl b] M =
 if lt32 b 0 then
 some (some (.inl 0), M)
 else
 (if le32 80 b then
 some (some (.inl 0), M)
 else
 (if 0 ≤ b ∧ b < 80 then
 some (some (.inl (M 2 b.toNat)), M)
 else none)) :=
 (show xF (D + 1) 47 [.inr 4, .inl b] M = xE D 47 0 [.inr 4, .inl b] [] M from rfl).trans ((x_run D 47 (fun i => C_47.getD i s_none) rfl (fun _ => false) 13 0 [.inr 4, .inl b] [] M).trans rfl)
set_option maxRecDepth 10000 in
theorem T_X_numberAt_40 (D : Nat) (b : Int) (M : pM) : xF (D + 1) 47 [.inr 42, .inl b] M =
 if lt32 b 0 then
 some (some (.inl 0), M)
 else
 (if le32 20 b then
 some (some (.inl 0), M)
 else
 (if 0 ≤ b ∧ b < 20 then
 some (some (.inl (M 40 b.toNat)), M)
 else none)) :=
 (show xF (D + 1) 47 [.inr 42, .inl b] M = xE D 47 0 [.inr 42, .inl b] [] M from rfl).trans ((x_run D 47 (fun i => C_47.getD i s_none) rfl (fun _ => false) 13 0 [.inr 42, .inl b] [] M).trans rfl)
set_option maxRecDepth 10000 in
theorem T_X_numberAt_41 (D : Nat) (b : Int) (M : pM) : xF (D + 1) 47 [.inr 43, .inl b] M =
 if lt32 b 0 then
 some (some (.inl 0), M)
 else
 (if le32 20 b then
 some (some (.inl 0), M)
 else
 (if 0 ≤ b ∧ b < 20 then
 some (some (.inl (M 41 b.toNat)), M)
 else none)) :=
 (show xF (D + 1) 47 [.inr 43, .inl b] M = xE D 47 0 [.inr 43, .inl b] [] M from rfl).trans ((x_run D 47 (fun i => C_47.getD i s_none) rfl (fun _ => false) 13 0 [.inr 43, .inl b] [] M).trans rfl)
set_option maxRecDepth 10000 in
theorem T_X_numberAt_42 (D : Nat) (b : Int) (M : pM) : xF (D + 1) 47 [.inr 44, .inl b] M =
 if lt32 b 0 then
 some (some (.inl 0), M)
 else
 (if le32 20 b then
 some (some (.inl 0), M)
 else
 (if 0 ≤ b ∧ b < 20 then
 some (some (.inl (M 42 b.toNat)), M)
 else none)) :=
 (show xF (D + 1) 47 [.inr 44, .inl b] M = xE D 47 0 [.inr 44, .inl b] [] M from rfl).trans ((x_run D 47 (fun i => C_47.getD i s_none) rfl (fun _ => false) 13 0 [.inr 44, .inl b] [] M).trans rfl)
set_option maxRecDepth 10000 in
theorem T_X_numberAt_59 (D : Nat) (b : Int) (M : pM) : xF (D + 1) 47 [.inr 61, .inl b] M =
 if lt32 b 0 then
 some (some (.inl 0), M)
 else
 (if le32 10 b then
 some (some (.inl 0), M)
 else
 (if 0 ≤ b ∧ b < 10 then
 some (some (.inl (M 59 b.toNat)), M)
 else none)) :=
 (show xF (D + 1) 47 [.inr 61, .inl b] M = xE D 47 0 [.inr 61, .inl b] [] M from rfl).trans ((x_run D 47 (fun i => C_47.getD i s_none) rfl (fun _ => false) 13 0 [.inr 61, .inl b] [] M).trans rfl)
set_option maxRecDepth 10000 in
theorem T_X_numberAt_6 (D : Nat) (b : Int) (M : pM) : xF (D + 1) 47 [.inr 8, .inl b] M =
 if lt32 b 0 then
 some (some (.inl 0), M)
 else
 (if le32 12 b then
 some (some (.inl 0), M)
 else
 (if 0 ≤ b ∧ b < 12 then
 some (some (.inl (M 6 b.toNat)), M)
 else none)) :=
 (show xF (D + 1) 47 [.inr 8, .inl b] M = xE D 47 0 [.inr 8, .inl b] [] M from rfl).trans ((x_run D 47 (fun i => C_47.getD i s_none) rfl (fun _ => false) 13 0 [.inr 8, .inl b] [] M).trans rfl)
set_option maxRecDepth 10000 in
theorem T_X_copy_8_18 (D : Nat)  (M : pM) : xF (D + 1) 48 [.inr 10, .inr 20] M =
 xE D 48 2 [.inr 10, .inr 20, .inl 0] [] M :=
 (show xF (D + 1) 48 [.inr 10, .inr 20] M = xE D 48 0 [.inr 10, .inr 20, .inr 0] [] M from rfl).trans ((x_run D 48 (fun i => C_48.getD i s_none) rfl (fun i => Nat.beq i 2) 20 0 [.inr 10, .inr 20, .inr 0] [] M).trans rfl)
set_option maxRecDepth 10000 in
theorem L_X_copy_8_18_2 (D : Nat) (x2 : Int) (M : pM) : xE D 48 2 [.inr 10, .inr 20, .inl x2] [] M =
 if le32 6 x2 then
 some (none, M)
 else
 (if le32 6 x2 then
 some (none, M)
 else
 (if 0 ≤ x2 ∧ x2 < 6 then
 if 0 ≤ x2 ∧ x2 < 6 then
 xE D 48 2 [.inr 10, .inr 20, .inl (x2 + 1)] [] (pset M 18 x2.toNat (M 8 x2.toNat))
 else none
 else none)) :=
 (x_run D 48 (fun i => C_48.getD i s_none) rfl (fun i => Nat.beq i 2) 20 2 [.inr 10, .inr 20, .inl x2] [] M).trans rfl
set_option maxRecDepth 10000 in
theorem T_X_copy_9_19 (D : Nat)  (M : pM) : xF (D + 1) 48 [.inr 11, .inr 21] M =
 xE D 48 2 [.inr 11, .inr 21, .inl 0] [] M :=
 (show xF (D + 1) 48 [.inr 11, .inr 21] M = xE D 48 0 [.inr 11, .inr 21, .inr 0] [] M from rfl).trans ((x_run D 48 (fun i => C_48.getD i s_none) rfl (fun i => Nat.beq i 2) 20 0 [.inr 11, .inr 21, .inr 0] [] M).trans rfl)
set_option maxRecDepth 10000 in
theorem L_X_copy_9_19_2 (D : Nat) (x2 : Int) (M : pM) : xE D 48 2 [.inr 11, .inr 21, .inl x2] [] M =
 if le32 36 x2 then
 some (none, M)
 else
 (if le32 36 x2 then
 some (none, M)
 else
 (if 0 ≤ x2 ∧ x2 < 36 then
 if 0 ≤ x2 ∧ x2 < 36 then
 xE D 48 2 [.inr 11, .inr 21, .inl (x2 + 1)] [] (pset M 19 x2.toNat (M 9 x2.toNat))
 else none
 else none)) :=
 (x_run D 48 (fun i => C_48.getD i s_none) rfl (fun i => Nat.beq i 2) 20 2 [.inr 11, .inr 21, .inl x2] [] M).trans rfl
set_option maxRecDepth 10000 in
theorem T_X_copy_10_20 (D : Nat)  (M : pM) : xF (D + 1) 48 [.inr 12, .inr 22] M =
 xE D 48 2 [.inr 12, .inr 22, .inl 0] [] M :=
 (show xF (D + 1) 48 [.inr 12, .inr 22] M = xE D 48 0 [.inr 12, .inr 22, .inr 0] [] M from rfl).trans ((x_run D 48 (fun i => C_48.getD i s_none) rfl (fun i => Nat.beq i 2) 20 0 [.inr 12, .inr 22, .inr 0] [] M).trans rfl)
set_option maxRecDepth 10000 in
theorem L_X_copy_10_20_2 (D : Nat) (x2 : Int) (M : pM) : xE D 48 2 [.inr 12, .inr 22, .inl x2] [] M =
 if le32 10 x2 then
 some (none, M)
 else
 (if le32 10 x2 then
 some (none, M)
 else
 (if 0 ≤ x2 ∧ x2 < 10 then
 if 0 ≤ x2 ∧ x2 < 10 then
 xE D 48 2 [.inr 12, .inr 22, .inl (x2 + 1)] [] (pset M 20 x2.toNat (M 10 x2.toNat))
 else none
 else none)) :=
 (x_run D 48 (fun i => C_48.getD i s_none) rfl (fun i => Nat.beq i 2) 20 2 [.inr 12, .inr 22, .inl x2] [] M).trans rfl
set_option maxRecDepth 10000 in
theorem T_X_copy_11_21 (D : Nat)  (M : pM) : xF (D + 1) 48 [.inr 13, .inr 23] M =
 xE D 48 2 [.inr 13, .inr 23, .inl 0] [] M :=
 (show xF (D + 1) 48 [.inr 13, .inr 23] M = xE D 48 0 [.inr 13, .inr 23, .inr 0] [] M from rfl).trans ((x_run D 48 (fun i => C_48.getD i s_none) rfl (fun i => Nat.beq i 2) 20 0 [.inr 13, .inr 23, .inr 0] [] M).trans rfl)
set_option maxRecDepth 10000 in
theorem L_X_copy_11_21_2 (D : Nat) (x2 : Int) (M : pM) : xE D 48 2 [.inr 13, .inr 23, .inl x2] [] M =
 if le32 10 x2 then
 some (none, M)
 else
 (if le32 10 x2 then
 some (none, M)
 else
 (if 0 ≤ x2 ∧ x2 < 10 then
 if 0 ≤ x2 ∧ x2 < 10 then
 xE D 48 2 [.inr 13, .inr 23, .inl (x2 + 1)] [] (pset M 21 x2.toNat (M 11 x2.toNat))
 else none
 else none)) :=
 (x_run D 48 (fun i => C_48.getD i s_none) rfl (fun i => Nat.beq i 2) 20 2 [.inr 13, .inr 23, .inl x2] [] M).trans rfl
set_option maxRecDepth 10000 in
theorem T_X_copy_12_22 (D : Nat)  (M : pM) : xF (D + 1) 48 [.inr 14, .inr 24] M =
 xE D 48 2 [.inr 14, .inr 24, .inl 0] [] M :=
 (show xF (D + 1) 48 [.inr 14, .inr 24] M = xE D 48 0 [.inr 14, .inr 24, .inr 0] [] M from rfl).trans ((x_run D 48 (fun i => C_48.getD i s_none) rfl (fun i => Nat.beq i 2) 20 0 [.inr 14, .inr 24, .inr 0] [] M).trans rfl)
set_option maxRecDepth 10000 in
theorem L_X_copy_12_22_2 (D : Nat) (x2 : Int) (M : pM) : xE D 48 2 [.inr 14, .inr 24, .inl x2] [] M =
 if le32 10 x2 then
 some (none, M)
 else
 (if le32 10 x2 then
 some (none, M)
 else
 (if 0 ≤ x2 ∧ x2 < 10 then
 if 0 ≤ x2 ∧ x2 < 10 then
 xE D 48 2 [.inr 14, .inr 24, .inl (x2 + 1)] [] (pset M 22 x2.toNat (M 12 x2.toNat))
 else none
 else none)) :=
 (x_run D 48 (fun i => C_48.getD i s_none) rfl (fun i => Nat.beq i 2) 20 2 [.inr 14, .inr 24, .inl x2] [] M).trans rfl
set_option maxRecDepth 10000 in
theorem T_X_copy_13_23 (D : Nat)  (M : pM) : xF (D + 1) 48 [.inr 15, .inr 25] M =
 xE D 48 2 [.inr 15, .inr 25, .inl 0] [] M :=
 (show xF (D + 1) 48 [.inr 15, .inr 25] M = xE D 48 0 [.inr 15, .inr 25, .inr 0] [] M from rfl).trans ((x_run D 48 (fun i => C_48.getD i s_none) rfl (fun i => Nat.beq i 2) 20 0 [.inr 15, .inr 25, .inr 0] [] M).trans rfl)
set_option maxRecDepth 10000 in
theorem L_X_copy_13_23_2 (D : Nat) (x2 : Int) (M : pM) : xE D 48 2 [.inr 15, .inr 25, .inl x2] [] M =
 if le32 10 x2 then
 some (none, M)
 else
 (if le32 10 x2 then
 some (none, M)
 else
 (if 0 ≤ x2 ∧ x2 < 10 then
 if 0 ≤ x2 ∧ x2 < 10 then
 xE D 48 2 [.inr 15, .inr 25, .inl (x2 + 1)] [] (pset M 23 x2.toNat (M 13 x2.toNat))
 else none
 else none)) :=
 (x_run D 48 (fun i => C_48.getD i s_none) rfl (fun i => Nat.beq i 2) 20 2 [.inr 15, .inr 25, .inl x2] [] M).trans rfl
set_option maxRecDepth 10000 in
theorem T_X_copy_13_45 (D : Nat)  (M : pM) : xF (D + 1) 48 [.inr 15, .inr 47] M =
 xE D 48 2 [.inr 15, .inr 47, .inl 0] [] M :=
 (show xF (D + 1) 48 [.inr 15, .inr 47] M = xE D 48 0 [.inr 15, .inr 47, .inr 0] [] M from rfl).trans ((x_run D 48 (fun i => C_48.getD i s_none) rfl (fun i => Nat.beq i 2) 20 0 [.inr 15, .inr 47, .inr 0] [] M).trans rfl)
set_option maxRecDepth 10000 in
theorem L_X_copy_13_45_2 (D : Nat) (x2 : Int) (M : pM) : xE D 48 2 [.inr 15, .inr 47, .inl x2] [] M =
 if le32 10 x2 then
 some (none, M)
 else
 (if le32 10 x2 then
 some (none, M)
 else
 (if 0 ≤ x2 ∧ x2 < 10 then
 if 0 ≤ x2 ∧ x2 < 10 then
 xE D 48 2 [.inr 15, .inr 47, .inl (x2 + 1)] [] (pset M 45 x2.toNat (M 13 x2.toNat))
 else none
 else none)) :=
 (x_run D 48 (fun i => C_48.getD i s_none) rfl (fun i => Nat.beq i 2) 20 2 [.inr 15, .inr 47, .inl x2] [] M).trans rfl
set_option maxRecDepth 10000 in
theorem T_X_copy_13_47 (D : Nat)  (M : pM) : xF (D + 1) 48 [.inr 15, .inr 49] M =
 xE D 48 2 [.inr 15, .inr 49, .inl 0] [] M :=
 (show xF (D + 1) 48 [.inr 15, .inr 49] M = xE D 48 0 [.inr 15, .inr 49, .inr 0] [] M from rfl).trans ((x_run D 48 (fun i => C_48.getD i s_none) rfl (fun i => Nat.beq i 2) 20 0 [.inr 15, .inr 49, .inr 0] [] M).trans rfl)
set_option maxRecDepth 10000 in
theorem L_X_copy_13_47_2 (D : Nat) (x2 : Int) (M : pM) : xE D 48 2 [.inr 15, .inr 49, .inl x2] [] M =
 if le32 10 x2 then
 some (none, M)
 else
 (if le32 10 x2 then
 some (none, M)
 else
 (if 0 ≤ x2 ∧ x2 < 10 then
 if 0 ≤ x2 ∧ x2 < 10 then
 xE D 48 2 [.inr 15, .inr 49, .inl (x2 + 1)] [] (pset M 47 x2.toNat (M 13 x2.toNat))
 else none
 else none)) :=
 (x_run D 48 (fun i => C_48.getD i s_none) rfl (fun i => Nat.beq i 2) 20 2 [.inr 15, .inr 49, .inl x2] [] M).trans rfl
set_option maxRecDepth 10000 in
theorem T_X_copy_13_59 (D : Nat)  (M : pM) : xF (D + 1) 48 [.inr 15, .inr 61] M =
 xE D 48 2 [.inr 15, .inr 61, .inl 0] [] M :=
 (show xF (D + 1) 48 [.inr 15, .inr 61] M = xE D 48 0 [.inr 15, .inr 61, .inr 0] [] M from rfl).trans ((x_run D 48 (fun i => C_48.getD i s_none) rfl (fun i => Nat.beq i 2) 20 0 [.inr 15, .inr 61, .inr 0] [] M).trans rfl)
set_option maxRecDepth 10000 in
theorem L_X_copy_13_59_2 (D : Nat) (x2 : Int) (M : pM) : xE D 48 2 [.inr 15, .inr 61, .inl x2] [] M =
 if le32 10 x2 then
 some (none, M)
 else
 (if le32 10 x2 then
 some (none, M)
 else
 (if 0 ≤ x2 ∧ x2 < 10 then
 if 0 ≤ x2 ∧ x2 < 10 then
 xE D 48 2 [.inr 15, .inr 61, .inl (x2 + 1)] [] (pset M 59 x2.toNat (M 13 x2.toNat))
 else none
 else none)) :=
 (x_run D 48 (fun i => C_48.getD i s_none) rfl (fun i => Nat.beq i 2) 20 2 [.inr 15, .inr 61, .inl x2] [] M).trans rfl
set_option maxRecDepth 10000 in
theorem T_X_copy_14_24 (D : Nat)  (M : pM) : xF (D + 1) 48 [.inr 16, .inr 26] M =
 xE D 48 2 [.inr 16, .inr 26, .inl 0] [] M :=
 (show xF (D + 1) 48 [.inr 16, .inr 26] M = xE D 48 0 [.inr 16, .inr 26, .inr 0] [] M from rfl).trans ((x_run D 48 (fun i => C_48.getD i s_none) rfl (fun i => Nat.beq i 2) 20 0 [.inr 16, .inr 26, .inr 0] [] M).trans rfl)
set_option maxRecDepth 10000 in
theorem L_X_copy_14_24_2 (D : Nat) (x2 : Int) (M : pM) : xE D 48 2 [.inr 16, .inr 26, .inl x2] [] M =
 if le32 8 x2 then
 some (none, M)
 else
 (if le32 8 x2 then
 some (none, M)
 else
 (if 0 ≤ x2 ∧ x2 < 8 then
 if 0 ≤ x2 ∧ x2 < 8 then
 xE D 48 2 [.inr 16, .inr 26, .inl (x2 + 1)] [] (pset M 24 x2.toNat (M 14 x2.toNat))
 else none
 else none)) :=
 (x_run D 48 (fun i => C_48.getD i s_none) rfl (fun i => Nat.beq i 2) 20 2 [.inr 16, .inr 26, .inl x2] [] M).trans rfl
set_option maxRecDepth 10000 in
theorem T_X_copy_15_25 (D : Nat)  (M : pM) : xF (D + 1) 48 [.inr 17, .inr 27] M =
 xE D 48 2 [.inr 17, .inr 27, .inl 0] [] M :=
 (show xF (D + 1) 48 [.inr 17, .inr 27] M = xE D 48 0 [.inr 17, .inr 27, .inr 0] [] M from rfl).trans ((x_run D 48 (fun i => C_48.getD i s_none) rfl (fun i => Nat.beq i 2) 20 0 [.inr 17, .inr 27, .inr 0] [] M).trans rfl)
set_option maxRecDepth 10000 in
theorem L_X_copy_15_25_2 (D : Nat) (x2 : Int) (M : pM) : xE D 48 2 [.inr 17, .inr 27, .inl x2] [] M =
 if le32 10 x2 then
 some (none, M)
 else
 (if le32 10 x2 then
 some (none, M)
 else
 (if 0 ≤ x2 ∧ x2 < 10 then
 if 0 ≤ x2 ∧ x2 < 10 then
 xE D 48 2 [.inr 17, .inr 27, .inl (x2 + 1)] [] (pset M 25 x2.toNat (M 15 x2.toNat))
 else none
 else none)) :=
 (x_run D 48 (fun i => C_48.getD i s_none) rfl (fun i => Nat.beq i 2) 20 2 [.inr 17, .inr 27, .inl x2] [] M).trans rfl
set_option maxRecDepth 10000 in
theorem T_X_copy_16_26 (D : Nat)  (M : pM) : xF (D + 1) 48 [.inr 18, .inr 28] M =
 xE D 48 2 [.inr 18, .inr 28, .inl 0] [] M :=
 (show xF (D + 1) 48 [.inr 18, .inr 28] M = xE D 48 0 [.inr 18, .inr 28, .inr 0] [] M from rfl).trans ((x_run D 48 (fun i => C_48.getD i s_none) rfl (fun i => Nat.beq i 2) 20 0 [.inr 18, .inr 28, .inr 0] [] M).trans rfl)
set_option maxRecDepth 10000 in
theorem L_X_copy_16_26_2 (D : Nat) (x2 : Int) (M : pM) : xE D 48 2 [.inr 18, .inr 28, .inl x2] [] M =
 if le32 10 x2 then
 some (none, M)
 else
 (if le32 10 x2 then
 some (none, M)
 else
 (if 0 ≤ x2 ∧ x2 < 10 then
 if 0 ≤ x2 ∧ x2 < 10 then
 xE D 48 2 [.inr 18, .inr 28, .inl (x2 + 1)] [] (pset M 26 x2.toNat (M 16 x2.toNat))
 else none
 else none)) :=
 (x_run D 48 (fun i => C_48.getD i s_none) rfl (fun i => Nat.beq i 2) 20 2 [.inr 18, .inr 28, .inl x2] [] M).trans rfl
set_option maxRecDepth 10000 in
theorem T_X_copy_18_8 (D : Nat)  (M : pM) : xF (D + 1) 48 [.inr 20, .inr 10] M =
 xE D 48 2 [.inr 20, .inr 10, .inl 0] [] M :=
 (show xF (D + 1) 48 [.inr 20, .inr 10] M = xE D 48 0 [.inr 20, .inr 10, .inr 0] [] M from rfl).trans ((x_run D 48 (fun i => C_48.getD i s_none) rfl (fun i => Nat.beq i 2) 20 0 [.inr 20, .inr 10, .inr 0] [] M).trans rfl)
set_option maxRecDepth 10000 in
theorem L_X_copy_18_8_2 (D : Nat) (x2 : Int) (M : pM) : xE D 48 2 [.inr 20, .inr 10, .inl x2] [] M =
 if le32 6 x2 then
 some (none, M)
 else
 (if le32 6 x2 then
 some (none, M)
 else
 (if 0 ≤ x2 ∧ x2 < 6 then
 if 0 ≤ x2 ∧ x2 < 6 then
 xE D 48 2 [.inr 20, .inr 10, .inl (x2 + 1)] [] (pset M 8 x2.toNat (M 18 x2.toNat))
 else none
 else none)) :=
 (x_run D 48 (fun i => C_48.getD i s_none) rfl (fun i => Nat.beq i 2) 20 2 [.inr 20, .inr 10, .inl x2] [] M).trans rfl
set_option maxRecDepth 10000 in
theorem T_X_copy_19_9 (D : Nat)  (M : pM) : xF (D + 1) 48 [.inr 21, .inr 11] M =
 xE D 48 2 [.inr 21, .inr 11, .inl 0] [] M :=
 (show xF (D + 1) 48 [.inr 21, .inr 11] M = xE D 48 0 [.inr 21, .inr 11, .inr 0] [] M from rfl).trans ((x_run D 48 (fun i => C_48.getD i s_none) rfl (fun i => Nat.beq i 2) 20 0 [.inr 21, .inr 11, .inr 0] [] M).trans rfl)
set_option maxRecDepth 10000 in
theorem L_X_copy_19_9_2 (D : Nat) (x2 : Int) (M : pM) : xE D 48 2 [.inr 21, .inr 11, .inl x2] [] M =
 if le32 36 x2 then
 some (none, M)
 else
 (if le32 36 x2 then
 some (none, M)
 else
 (if 0 ≤ x2 ∧ x2 < 36 then
 if 0 ≤ x2 ∧ x2 < 36 then
 xE D 48 2 [.inr 21, .inr 11, .inl (x2 + 1)] [] (pset M 9 x2.toNat (M 19 x2.toNat))
 else none
 else none)) :=
 (x_run D 48 (fun i => C_48.getD i s_none) rfl (fun i => Nat.beq i 2) 20 2 [.inr 21, .inr 11, .inl x2] [] M).trans rfl
set_option maxRecDepth 10000 in
theorem T_X_copy_20_10 (D : Nat)  (M : pM) : xF (D + 1) 48 [.inr 22, .inr 12] M =
 xE D 48 2 [.inr 22, .inr 12, .inl 0] [] M :=
 (show xF (D + 1) 48 [.inr 22, .inr 12] M = xE D 48 0 [.inr 22, .inr 12, .inr 0] [] M from rfl).trans ((x_run D 48 (fun i => C_48.getD i s_none) rfl (fun i => Nat.beq i 2) 20 0 [.inr 22, .inr 12, .inr 0] [] M).trans rfl)
set_option maxRecDepth 10000 in
theorem L_X_copy_20_10_2 (D : Nat) (x2 : Int) (M : pM) : xE D 48 2 [.inr 22, .inr 12, .inl x2] [] M =
 if le32 10 x2 then
 some (none, M)
 else
 (if le32 10 x2 then
 some (none, M)
 else
 (if 0 ≤ x2 ∧ x2 < 10 then
 if 0 ≤ x2 ∧ x2 < 10 then
 xE D 48 2 [.inr 22, .inr 12, .inl (x2 + 1)] [] (pset M 10 x2.toNat (M 20 x2.toNat))
 else none
 else none)) :=
 (x_run D 48 (fun i => C_48.getD i s_none) rfl (fun i => Nat.beq i 2) 20 2 [.inr 22, .inr 12, .inl x2] [] M).trans rfl
set_option maxRecDepth 10000 in
theorem T_X_copy_21_11 (D : Nat)  (M : pM) : xF (D + 1) 48 [.inr 23, .inr 13] M =
 xE D 48 2 [.inr 23, .inr 13, .inl 0] [] M :=
 (show xF (D + 1) 48 [.inr 23, .inr 13] M = xE D 48 0 [.inr 23, .inr 13, .inr 0] [] M from rfl).trans ((x_run D 48 (fun i => C_48.getD i s_none) rfl (fun i => Nat.beq i 2) 20 0 [.inr 23, .inr 13, .inr 0] [] M).trans rfl)
set_option maxRecDepth 10000 in
theorem L_X_copy_21_11_2 (D : Nat) (x2 : Int) (M : pM) : xE D 48 2 [.inr 23, .inr 13, .inl x2] [] M =
 if le32 10 x2 then
 some (none, M)
 else
 (if le32 10 x2 then
 some (none, M)
 else
 (if 0 ≤ x2 ∧ x2 < 10 then
 if 0 ≤ x2 ∧ x2 < 10 then
 xE D 48 2 [.inr 23, .inr 13, .inl (x2 + 1)] [] (pset M 11 x2.toNat (M 21 x2.toNat))
 else none
 else none)) :=
 (x_run D 48 (fun i => C_48.getD i s_none) rfl (fun i => Nat.beq i 2) 20 2 [.inr 23, .inr 13, .inl x2] [] M).trans rfl
set_option maxRecDepth 10000 in
theorem T_X_copy_22_12 (D : Nat)  (M : pM) : xF (D + 1) 48 [.inr 24, .inr 14] M =
 xE D 48 2 [.inr 24, .inr 14, .inl 0] [] M :=
 (show xF (D + 1) 48 [.inr 24, .inr 14] M = xE D 48 0 [.inr 24, .inr 14, .inr 0] [] M from rfl).trans ((x_run D 48 (fun i => C_48.getD i s_none) rfl (fun i => Nat.beq i 2) 20 0 [.inr 24, .inr 14, .inr 0] [] M).trans rfl)
set_option maxRecDepth 10000 in
theorem L_X_copy_22_12_2 (D : Nat) (x2 : Int) (M : pM) : xE D 48 2 [.inr 24, .inr 14, .inl x2] [] M =
 if le32 10 x2 then
 some (none, M)
 else
 (if le32 10 x2 then
 some (none, M)
 else
 (if 0 ≤ x2 ∧ x2 < 10 then
 if 0 ≤ x2 ∧ x2 < 10 then
 xE D 48 2 [.inr 24, .inr 14, .inl (x2 + 1)] [] (pset M 12 x2.toNat (M 22 x2.toNat))
 else none
 else none)) :=
 (x_run D 48 (fun i => C_48.getD i s_none) rfl (fun i => Nat.beq i 2) 20 2 [.inr 24, .inr 14, .inl x2] [] M).trans rfl
set_option maxRecDepth 10000 in
theorem T_X_copy_23_13 (D : Nat)  (M : pM) : xF (D + 1) 48 [.inr 25, .inr 15] M =
 xE D 48 2 [.inr 25, .inr 15, .inl 0] [] M :=
 (show xF (D + 1) 48 [.inr 25, .inr 15] M = xE D 48 0 [.inr 25, .inr 15, .inr 0] [] M from rfl).trans ((x_run D 48 (fun i => C_48.getD i s_none) rfl (fun i => Nat.beq i 2) 20 0 [.inr 25, .inr 15, .inr 0] [] M).trans rfl)
set_option maxRecDepth 10000 in
theorem L_X_copy_23_13_2 (D : Nat) (x2 : Int) (M : pM) : xE D 48 2 [.inr 25, .inr 15, .inl x2] [] M =
 if le32 10 x2 then
 some (none, M)
 else
 (if le32 10 x2 then
 some (none, M)
 else
 (if 0 ≤ x2 ∧ x2 < 10 then
 if 0 ≤ x2 ∧ x2 < 10 then
 xE D 48 2 [.inr 25, .inr 15, .inl (x2 + 1)] [] (pset M 13 x2.toNat (M 23 x2.toNat))
 else none
 else none)) :=
 (x_run D 48 (fun i => C_48.getD i s_none) rfl (fun i => Nat.beq i 2) 20 2 [.inr 25, .inr 15, .inl x2] [] M).trans rfl
set_option maxRecDepth 10000 in
theorem T_X_copy_24_14 (D : Nat)  (M : pM) : xF (D + 1) 48 [.inr 26, .inr 16] M =
 xE D 48 2 [.inr 26, .inr 16, .inl 0] [] M :=
 (show xF (D + 1) 48 [.inr 26, .inr 16] M = xE D 48 0 [.inr 26, .inr 16, .inr 0] [] M from rfl).trans ((x_run D 48 (fun i => C_48.getD i s_none) rfl (fun i => Nat.beq i 2) 20 0 [.inr 26, .inr 16, .inr 0] [] M).trans rfl)
set_option maxRecDepth 10000 in
theorem L_X_copy_24_14_2 (D : Nat) (x2 : Int) (M : pM) : xE D 48 2 [.inr 26, .inr 16, .inl x2] [] M =
 if le32 8 x2 then
 some (none, M)
 else
 (if le32 8 x2 then
 some (none, M)
 else
 (if 0 ≤ x2 ∧ x2 < 8 then
 if 0 ≤ x2 ∧ x2 < 8 then
 xE D 48 2 [.inr 26, .inr 16, .inl (x2 + 1)] [] (pset M 14 x2.toNat (M 24 x2.toNat))
 else none
 else none)) :=
 (x_run D 48 (fun i => C_48.getD i s_none) rfl (fun i => Nat.beq i 2) 20 2 [.inr 26, .inr 16, .inl x2] [] M).trans rfl
set_option maxRecDepth 10000 in
theorem T_X_copy_25_15 (D : Nat)  (M : pM) : xF (D + 1) 48 [.inr 27, .inr 17] M =
 xE D 48 2 [.inr 27, .inr 17, .inl 0] [] M :=
 (show xF (D + 1) 48 [.inr 27, .inr 17] M = xE D 48 0 [.inr 27, .inr 17, .inr 0] [] M from rfl).trans ((x_run D 48 (fun i => C_48.getD i s_none) rfl (fun i => Nat.beq i 2) 20 0 [.inr 27, .inr 17, .inr 0] [] M).trans rfl)
set_option maxRecDepth 10000 in
theorem L_X_copy_25_15_2 (D : Nat) (x2 : Int) (M : pM) : xE D 48 2 [.inr 27, .inr 17, .inl x2] [] M =
 if le32 10 x2 then
 some (none, M)
 else
 (if le32 10 x2 then
 some (none, M)
 else
 (if 0 ≤ x2 ∧ x2 < 10 then
 if 0 ≤ x2 ∧ x2 < 10 then
 xE D 48 2 [.inr 27, .inr 17, .inl (x2 + 1)] [] (pset M 15 x2.toNat (M 25 x2.toNat))
 else none
 else none)) :=
 (x_run D 48 (fun i => C_48.getD i s_none) rfl (fun i => Nat.beq i 2) 20 2 [.inr 27, .inr 17, .inl x2] [] M).trans rfl
set_option maxRecDepth 10000 in
theorem T_X_copy_26_16 (D : Nat)  (M : pM) : xF (D + 1) 48 [.inr 28, .inr 18] M =
 xE D 48 2 [.inr 28, .inr 18, .inl 0] [] M :=
 (show xF (D + 1) 48 [.inr 28, .inr 18] M = xE D 48 0 [.inr 28, .inr 18, .inr 0] [] M from rfl).trans ((x_run D 48 (fun i => C_48.getD i s_none) rfl (fun i => Nat.beq i 2) 20 0 [.inr 28, .inr 18, .inr 0] [] M).trans rfl)
set_option maxRecDepth 10000 in
theorem L_X_copy_26_16_2 (D : Nat) (x2 : Int) (M : pM) : xE D 48 2 [.inr 28, .inr 18, .inl x2] [] M =
 if le32 10 x2 then
 some (none, M)
 else
 (if le32 10 x2 then
 some (none, M)
 else
 (if 0 ≤ x2 ∧ x2 < 10 then
 if 0 ≤ x2 ∧ x2 < 10 then
 xE D 48 2 [.inr 28, .inr 18, .inl (x2 + 1)] [] (pset M 16 x2.toNat (M 26 x2.toNat))
 else none
 else none)) :=
 (x_run D 48 (fun i => C_48.getD i s_none) rfl (fun i => Nat.beq i 2) 20 2 [.inr 28, .inr 18, .inl x2] [] M).trans rfl
set_option maxRecDepth 10000 in
theorem T_X_has (D : Nat) (a : Int) (b : Int) (M : pM) : xF (D + 1) 49 [.inl a, .inl b] M =
 if ¬ eq32 (jand (jshr a b) 1) 1 then
 some (some (.inl 0), M)
 else
 some (some (.inl 1), M) :=
 (show xF (D + 1) 49 [.inl a, .inl b] M = xE D 49 0 [.inl a, .inl b] [] M from rfl).trans ((x_run D 49 (fun i => C_49.getD i s_none) rfl (fun _ => false) 12 0 [.inl a, .inl b] [] M).trans rfl)
set_option maxRecDepth 10000 in
theorem T_X_keptAt (D : Nat) (b : Int) (M : pM) : xF (D + 1) 50 [.inr 2, .inl b] M =
 if lt32 b 0 then
 some (some (.inr 1), M)
 else
 (if le32 2 b then
 some (some (.inr 1), M)
 else
 (if 0 ≤ b ∧ b < 2 then
 some (some (.inr (pFr 43 b.toNat + 2)), M)
 else none)) :=
 (show xF (D + 1) 50 [.inr 2, .inl b] M = xE D 50 0 [.inr 2, .inl b] [] M from rfl).trans ((x_run D 50 (fun i => C_50.getD i s_none) rfl (fun _ => false) 15 0 [.inr 2, .inl b] [] M).trans rfl)
set_option maxRecDepth 10000 in
theorem T_X_attempt_13 (D : Nat) (b : Int) (c : Int) (e : Int) (M : pM) : xF (D + 1) 51 [.inr 2, .inl b, .inl c, .inr 15, .inl e] M =
 pbI (xF D 64 [.inr 9, .inl b] M) fun v2 M1 =>
 if eq32 v2 0 then
 some (some (.inl (-1)), M1)
 else
 (pbI (xF D 63 [.inr 9, .inl c] M1) fun v4 M3 =>
 if ¬ eq32 v4 0 then
 (pbI (xF D 47 [.inr 15, .inl b] M3) fun v6 M5 =>
 pbI (xF D 82 [.inr 9, .inl b, .inl v6, .inl c] M5) fun v8 M7 =>
 if le32 0 v8 then
 (if le32 (e + v8) (M7 0 17) then
 some (some (.inl v8), M7)
 else
 some (some (.inl (-3)), M7))
 else
 some (some (.inl (-2)), M7))
 else
 some (some (.inl (-1)), M3)) :=
 (show xF (D + 1) 51 [.inr 2, .inl b, .inl c, .inr 15, .inl e] M = xE D 51 0 [.inr 2, .inl b, .inl c, .inr 15, .inl e, .inr 0] [] M from rfl).trans ((x_run D 51 (fun i => C_51.getD i s_none) rfl (fun _ => false) 36 0 [.inr 2, .inl b, .inl c, .inr 15, .inl e, .inr 0] [] M).trans rfl)
set_option maxRecDepth 10000 in
theorem T_X_attempt_59 (D : Nat) (b : Int) (c : Int) (e : Int) (M : pM) : xF (D + 1) 51 [.inr 2, .inl b, .inl c, .inr 61, .inl e] M =
 pbI (xF D 64 [.inr 9, .inl b] M) fun v2 M1 =>
 if eq32 v2 0 then
 some (some (.inl (-1)), M1)
 else
 (pbI (xF D 63 [.inr 9, .inl c] M1) fun v4 M3 =>
 if ¬ eq32 v4 0 then
 (pbI (xF D 47 [.inr 61, .inl b] M3) fun v6 M5 =>
 pbI (xF D 82 [.inr 9, .inl b, .inl v6, .inl c] M5) fun v8 M7 =>
 if le32 0 v8 then
 (if le32 (e + v8) (M7 0 17) then
 some (some (.inl v8), M7)
 else
 some (some (.inl (-3)), M7))
 else
 some (some (.inl (-2)), M7))
 else
 some (some (.inl (-1)), M3)) :=
 (show xF (D + 1) 51 [.inr 2, .inl b, .inl c, .inr 61, .inl e] M = xE D 51 0 [.inr 2, .inl b, .inl c, .inr 61, .inl e, .inr 0] [] M from rfl).trans ((x_run D 51 (fun i => C_51.getD i s_none) rfl (fun _ => false) 36 0 [.inr 2, .inl b, .inl c, .inr 61, .inl e, .inr 0] [] M).trans rfl)
set_option maxRecDepth 10000 in
theorem T_X_bring (D : Nat) (b : Int) (c : Int) (d : Int) (M : pM) : xF (D + 1) 52 [.inr 2, .inl b, .inl c, .inl d] M =
 pbI (xF D 64 [.inr 9, .inl b] M) fun v2 M1 =>
 if eq32 v2 0 then
 some (none, M1)
 else
 (if 0 ≤ b ∧ b < 10 then
 pbN (xF D 130 [.inr 41, .inl b, .inl (M1 13 b.toNat), .inl (M1 0 16)] M1) fun M3 =>
 if 0 ≤ b ∧ b < 10 then
 some (none, pset (pset M3 13 b.toNat c) 0 16 (((pset M3 13 b.toNat c) 0 16) + d))
 else none
 else none) :=
 (show xF (D + 1) 52 [.inr 2, .inl b, .inl c, .inl d] M = xE D 52 0 [.inr 2, .inl b, .inl c, .inl d] [] M from rfl).trans ((x_run D 52 (fun i => C_52.getD i s_none) rfl (fun _ => false) 30 0 [.inr 2, .inl b, .inl c, .inl d] [] M).trans rfl)
set_option maxRecDepth 10000 in
theorem T_X_sleep (D : Nat)  (M : pM) : xF (D + 1) 53 [.inr 2] M =
 pbN (xF D 129 [.inr 41] (pset (pset M 0 15 ((M 0 15) + 1)) 0 16 0)) fun M1 =>
 some (some (.inl 1), M1) :=
 (show xF (D + 1) 53 [.inr 2] M = xE D 53 0 [.inr 2] [] M from rfl).trans ((x_run D 53 (fun i => C_53.getD i s_none) rfl (fun _ => false) 15 0 [.inr 2] [] M).trans rfl)
set_option maxRecDepth 10000 in
theorem T_X_dayFault (D : Nat)  (M : pM) : xF (D + 1) 54 [.inr 2] M =
 pbN (xF D 132 [.inr 5, .inl 40] M) fun M1 =>
 if ¬ eq32 (M1 1 1) 0 then
 (pbN (xF D 55 [.inr 2] M1) fun M2 =>
 xE D 54 14 [.inr 2, .inl 0] [] M2)
 else
 some (some (.inl (-1)), M1) :=
 (show xF (D + 1) 54 [.inr 2] M = xE D 54 0 [.inr 2, .inr 0] [] M from rfl).trans ((x_run D 54 (fun i => C_54.getD i s_none) rfl (fun i => Nat.beq i 14) 34 0 [.inr 2, .inr 0] [] M).trans rfl)
set_option maxRecDepth 10000 in
theorem L_X_dayFault_14 (D : Nat) (x1 : Int) (M : pM) : xE D 54 14 [.inr 2, .inl x1] [] M =
 if le32 40 x1 then
 (pbI (xF D 136 [.inr 5] M) fun v2 M1 =>
 some (some (.inl v2), M1))
 else
 (pbI (xF D 134 [.inr 5] M) fun v4 M3 =>
 if eq32 v4 0 then
 (pbI (xF D 136 [.inr 5] M3) fun v6 M5 =>
 some (some (.inl v6), M5))
 else
 (pbN (xF D 137 [.inr 5, .inl 59] M3) fun M7 =>
 pbN (xF D 55 [.inr 2] M7) fun M8 =>
 xE D 54 14 [.inr 2, .inl (x1 + 1)] [] M8)) :=
 (x_run D 54 (fun i => C_54.getD i s_none) rfl (fun i => Nat.beq i 14) 34 14 [.inr 2, .inl x1] [] M).trans rfl
set_option maxRecDepth 10000 in
theorem T_X_readCarrying (D : Nat)  (M : pM) : xF (D + 1) 55 [.inr 2] M =
 pbI (xF D 140 [.inr 5, .inl 0, .inl 10] M) fun v2 M1 =>
 pbN (xF D 137 [.inr 5, .inl 62] M1) fun M3 =>
 pbI (xF D 139 [.inr 5, .inl 0, .inl 10] M3) fun v5 M4 =>
 some (none, M4) :=
 (show xF (D + 1) 55 [.inr 2] M = xE D 55 0 [.inr 2] [] M from rfl).trans ((x_run D 55 (fun i => C_55.getD i s_none) rfl (fun _ => false) 18 0 [.inr 2] [] M).trans rfl)
set_option maxRecDepth 10000 in
theorem T_X_aimFault (D : Nat)  (M : pM) : xF (D + 1) 56 [.inr 2] M =
 pbN (xF D 132 [.inr 5, .inl (M 7 10)] M) fun M1 =>
 xE D 56 8 [.inr 2, .inl 0] [] M1 :=
 (show xF (D + 1) 56 [.inr 2] M = xE D 56 0 [.inr 2, .inr 0] [] M from rfl).trans ((x_run D 56 (fun i => C_56.getD i s_none) rfl (fun i => Nat.beq i 8) 28 0 [.inr 2, .inr 0] [] M).trans rfl)
set_option maxRecDepth 10000 in
theorem L_X_aimFault_8 (D : Nat) (x1 : Int) (M : pM) : xE D 56 8 [.inr 2, .inl x1] [] M =
 if le32 (M 7 10) x1 then
 (pbI (xF D 136 [.inr 5] M) fun v2 M1 =>
 some (some (.inl v2), M1))
 else
 (pbI (xF D 139 [.inr 5, .inl 0, .inl (M 7 9)] M) fun v4 M3 =>
 xE D 56 8 [.inr 2, .inl (x1 + 1)] [] M3) :=
 (x_run D 56 (fun i => C_56.getD i s_none) rfl (fun i => Nat.beq i 8) 28 8 [.inr 2, .inl x1] [] M).trans rfl
set_option maxRecDepth 10000 in
theorem T_House_become_17_7 (D : Nat)  (M : pM) : xF (D + 1) 62 [.inr 19, .inr 9] M =
 pbN (xF D 48 [.inr 10, .inr 20] M) fun M1 =>
 pbN (xF D 48 [.inr 11, .inr 21] M1) fun M2 =>
 pbN (xF D 48 [.inr 12, .inr 22] M2) fun M3 =>
 pbN (xF D 48 [.inr 13, .inr 23] M3) fun M4 =>
 pbN (xF D 48 [.inr 14, .inr 24] M4) fun M5 =>
 pbN (xF D 48 [.inr 15, .inr 25] M5) fun M6 =>
 pbN (xF D 48 [.inr 16, .inr 26] M6) fun M7 =>
 pbN (xF D 48 [.inr 17, .inr 27] M7) fun M8 =>
 pbN (xF D 48 [.inr 18, .inr 28] M8) fun M9 =>
 some (none, pset (pset (pset (pset M9 17 9 (M9 7 9)) 17 10 ((pset M9 17 9 (M9 7 9)) 7 10)) 17 11 ((pset (pset M9 17 9 (M9 7 9)) 17 10 ((pset M9 17 9 (M9 7 9)) 7 10)) 7 11)) 17 12 ((pset (pset (pset M9 17 9 (M9 7 9)) 17 10 ((pset M9 17 9 (M9 7 9)) 7 10)) 17 11 ((pset (pset M9 17 9 (M9 7 9)) 17 10 ((pset M9 17 9 (M9 7 9)) 7 10)) 7 11)) 7 12)) :=
 (show xF (D + 1) 62 [.inr 19, .inr 9] M = xE D 62 0 [.inr 19, .inr 9] [] M from rfl).trans ((x_run D 62 (fun i => C_62.getD i s_none) rfl (fun _ => false) 63 0 [.inr 19, .inr 9] [] M).trans rfl)
set_option maxRecDepth 10000 in
theorem T_House_become_7_17 (D : Nat)  (M : pM) : xF (D + 1) 62 [.inr 9, .inr 19] M =
 pbN (xF D 48 [.inr 20, .inr 10] M) fun M1 =>
 pbN (xF D 48 [.inr 21, .inr 11] M1) fun M2 =>
 pbN (xF D 48 [.inr 22, .inr 12] M2) fun M3 =>
 pbN (xF D 48 [.inr 23, .inr 13] M3) fun M4 =>
 pbN (xF D 48 [.inr 24, .inr 14] M4) fun M5 =>
 pbN (xF D 48 [.inr 25, .inr 15] M5) fun M6 =>
 pbN (xF D 48 [.inr 26, .inr 16] M6) fun M7 =>
 pbN (xF D 48 [.inr 27, .inr 17] M7) fun M8 =>
 pbN (xF D 48 [.inr 28, .inr 18] M8) fun M9 =>
 some (none, pset (pset (pset (pset M9 7 9 (M9 17 9)) 7 10 ((pset M9 7 9 (M9 17 9)) 17 10)) 7 11 ((pset (pset M9 7 9 (M9 17 9)) 7 10 ((pset M9 7 9 (M9 17 9)) 17 10)) 17 11)) 7 12 ((pset (pset (pset M9 7 9 (M9 17 9)) 7 10 ((pset M9 7 9 (M9 17 9)) 17 10)) 7 11 ((pset (pset M9 7 9 (M9 17 9)) 7 10 ((pset M9 7 9 (M9 17 9)) 17 10)) 17 11)) 17 12)) :=
 (show xF (D + 1) 62 [.inr 9, .inr 19] M = xE D 62 0 [.inr 9, .inr 19] [] M from rfl).trans ((x_run D 62 (fun i => C_62.getD i s_none) rfl (fun _ => false) 63 0 [.inr 9, .inr 19] [] M).trans rfl)
set_option maxRecDepth 10000 in
theorem T_House_isRoom_17 (D : Nat) (b : Int) (M : pM) : xF (D + 1) 63 [.inr 19, .inl b] M =
 if lt32 b 0 then
 some (some (.inl 0), M)
 else
 (if le32 (M 17 9) b then
 some (some (.inl 0), M)
 else
 some (some (.inl 1), M)) :=
 (show xF (D + 1) 63 [.inr 19, .inl b] M = xE D 63 0 [.inr 19, .inl b] [] M from rfl).trans ((x_run D 63 (fun i => C_63.getD i s_none) rfl (fun _ => false) 11 0 [.inr 19, .inl b] [] M).trans rfl)
set_option maxRecDepth 10000 in
theorem T_House_isRoom_7 (D : Nat) (b : Int) (M : pM) : xF (D + 1) 63 [.inr 9, .inl b] M =
 if lt32 b 0 then
 some (some (.inl 0), M)
 else
 (if le32 (M 7 9) b then
 some (some (.inl 0), M)
 else
 some (some (.inl 1), M)) :=
 (show xF (D + 1) 63 [.inr 9, .inl b] M = xE D 63 0 [.inr 9, .inl b] [] M from rfl).trans ((x_run D 63 (fun i => C_63.getD i s_none) rfl (fun _ => false) 11 0 [.inr 9, .inl b] [] M).trans rfl)
set_option maxRecDepth 10000 in
theorem T_House_isThing (D : Nat) (b : Int) (M : pM) : xF (D + 1) 64 [.inr 9, .inl b] M =
 if lt32 b 0 then
 some (some (.inl 0), M)
 else
 (if le32 (M 7 10) b then
 some (some (.inl 0), M)
 else
 some (some (.inl 1), M)) :=
 (show xF (D + 1) 64 [.inr 9, .inl b] M = xE D 64 0 [.inr 9, .inl b] [] M from rfl).trans ((x_run D 64 (fun i => C_64.getD i s_none) rfl (fun _ => false) 11 0 [.inr 9, .inl b] [] M).trans rfl)
set_option maxRecDepth 10000 in
theorem T_House_areUnlikeRooms_17 (D : Nat) (b : Int) (c : Int) (M : pM) : xF (D + 1) 65 [.inr 19, .inl b, .inl c] M =
 pbI (xF D 63 [.inr 19, .inl b] M) fun v2 M1 =>
 if eq32 v2 0 then
 some (some (.inl 0), M1)
 else
 (pbI (xF D 63 [.inr 19, .inl c] M1) fun v4 M3 =>
 if eq32 v4 0 then
 some (some (.inl 0), M3)
 else
 (if eq32 b c then
 some (some (.inl 0), M3)
 else
 some (some (.inl 1), M3))) :=
 (show xF (D + 1) 65 [.inr 19, .inl b, .inl c] M = xE D 65 0 [.inr 19, .inl b, .inl c] [] M from rfl).trans ((x_run D 65 (fun i => C_65.getD i s_none) rfl (fun _ => false) 16 0 [.inr 19, .inl b, .inl c] [] M).trans rfl)
set_option maxRecDepth 10000 in
theorem T_House_areUnlikeRooms_7 (D : Nat) (b : Int) (c : Int) (M : pM) : xF (D + 1) 65 [.inr 9, .inl b, .inl c] M =
 pbI (xF D 63 [.inr 9, .inl b] M) fun v2 M1 =>
 if eq32 v2 0 then
 some (some (.inl 0), M1)
 else
 (pbI (xF D 63 [.inr 9, .inl c] M1) fun v4 M3 =>
 if eq32 v4 0 then
 some (some (.inl 0), M3)
 else
 (if eq32 b c then
 some (some (.inl 0), M3)
 else
 some (some (.inl 1), M3))) :=
 (show xF (D + 1) 65 [.inr 9, .inl b, .inl c] M = xE D 65 0 [.inr 9, .inl b, .inl c] [] M from rfl).trans ((x_run D 65 (fun i => C_65.getD i s_none) rfl (fun _ => false) 16 0 [.inr 9, .inl b, .inl c] [] M).trans rfl)
set_option maxRecDepth 10000 in
theorem T_House_addRoom (D : Nat) (b : Int) (M : pM) : xF (D + 1) 70 [.inr 19, .inl b] M =
 if lt32 (M 17 9) 0 then
 some (none, M)
 else
 (if le32 6 (M 17 9) then
 some (none, M)
 else
 (if 0 ≤ M 17 9 ∧ M 17 9 < 6 then
 some (none, pset (pset M 18 ((M 17 9).toNat) b) 17 9 (((pset M 18 ((M 17 9).toNat) b) 17 9) + 1))
 else none)) :=
 (show xF (D + 1) 70 [.inr 19, .inl b] M = xE D 70 0 [.inr 19, .inl b] [] M from rfl).trans ((x_run D 70 (fun i => C_70.getD i s_none) rfl (fun _ => false) 21 0 [.inr 19, .inl b] [] M).trans rfl)
set_option maxRecDepth 10000 in
theorem T_House_addThing (D : Nat) (b : Int) (c : Int) (d : Int) (e : Int) (M : pM) : xF (D + 1) 71 [.inr 19, .inl b, .inl c, .inl d, .inl e] M =
 if lt32 (M 17 10) 0 then
 some (none, M)
 else
 (if le32 10 (M 17 10) then
 some (none, M)
 else
 (if 0 ≤ M 17 10 ∧ M 17 10 < 10 then
 if 0 ≤ (pset M 20 ((M 17 10).toNat) b) 17 10 ∧ (pset M 20 ((M 17 10).toNat) b) 17 10 < 10 then
 if 0 ≤ (pset (pset M 20 ((M 17 10).toNat) b) 21 (((pset M 20 ((M 17 10).toNat) b) 17 10).toNat) c) 17 10 ∧ (pset (pset M 20 ((M 17 10).toNat) b) 21 (((pset M 20 ((M 17 10).toNat) b) 17 10).toNat) c) 17 10 < 10 then
 if 0 ≤ (pset (pset (pset M 20 ((M 17 10).toNat) b) 21 (((pset M 20 ((M 17 10).toNat) b) 17 10).toNat) c) 22 (((pset (pset M 20 ((M 17 10).toNat) b) 21 (((pset M 20 ((M 17 10).toNat) b) 17 10).toNat) c) 17 10).toNat) d) 17 10 ∧ (pset (pset (pset M 20 ((M 17 10).toNat) b) 21 (((pset M 20 ((M 17 10).toNat) b) 17 10).toNat) c) 22 (((pset (pset M 20 ((M 17 10).toNat) b) 21 (((pset M 20 ((M 17 10).toNat) b) 17 10).toNat) c) 17 10).toNat) d) 17 10 < 10 then
 some (none, pset (pset (pset (pset (pset M 20 ((M 17 10).toNat) b) 21 (((pset M 20 ((M 17 10).toNat) b) 17 10).toNat) c) 22 (((pset (pset M 20 ((M 17 10).toNat) b) 21 (((pset M 20 ((M 17 10).toNat) b) 17 10).toNat) c) 17 10).toNat) d) 23 (((pset (pset (pset M 20 ((M 17 10).toNat) b) 21 (((pset M 20 ((M 17 10).toNat) b) 17 10).toNat) c) 22 (((pset (pset M 20 ((M 17 10).toNat) b) 21 (((pset M 20 ((M 17 10).toNat) b) 17 10).toNat) c) 17 10).toNat) d) 17 10).toNat) e) 17 10 (((pset (pset (pset (pset M 20 ((M 17 10).toNat) b) 21 (((pset M 20 ((M 17 10).toNat) b) 17 10).toNat) c) 22 (((pset (pset M 20 ((M 17 10).toNat) b) 21 (((pset M 20 ((M 17 10).toNat) b) 17 10).toNat) c) 17 10).toNat) d) 23 (((pset (pset (pset M 20 ((M 17 10).toNat) b) 21 (((pset M 20 ((M 17 10).toNat) b) 17 10).toNat) c) 22 (((pset (pset M 20 ((M 17 10).toNat) b) 21 (((pset M 20 ((M 17 10).toNat) b) 17 10).toNat) c) 17 10).toNat) d) 17 10).toNat) e) 17 10) + 1))
 else none
 else none
 else none
 else none)) :=
 (show xF (D + 1) 71 [.inr 19, .inl b, .inl c, .inl d, .inl e] M = xE D 71 0 [.inr 19, .inl b, .inl c, .inl d, .inl e] [] M from rfl).trans ((x_run D 71 (fun i => C_71.getD i s_none) rfl (fun _ => false) 39 0 [.inr 19, .inl b, .inl c, .inl d, .inl e] [] M).trans rfl)
set_option maxRecDepth 10000 in
theorem T_House_addSet (D : Nat) (b : Int) (M : pM) : xF (D + 1) 72 [.inr 19, .inl b] M =
 if lt32 (M 17 11) 0 then
 some (none, M)
 else
 (if le32 8 (M 17 11) then
 some (none, M)
 else
 (if 0 ≤ M 17 11 ∧ M 17 11 < 8 then
 some (none, pset (pset M 24 ((M 17 11).toNat) b) 17 11 (((pset M 24 ((M 17 11).toNat) b) 17 11) + 1))
 else none)) :=
 (show xF (D + 1) 72 [.inr 19, .inl b] M = xE D 72 0 [.inr 19, .inl b] [] M from rfl).trans ((x_run D 72 (fun i => C_72.getD i s_none) rfl (fun _ => false) 21 0 [.inr 19, .inl b] [] M).trans rfl)
set_option maxRecDepth 10000 in
theorem T_House_makeDoor_17 (D : Nat) (b : Int) (c : Int) (d : Int) (M : pM) : xF (D + 1) 73 [.inr 19, .inl b, .inl c, .inl d] M =
 pbI (xF D 65 [.inr 19, .inl b, .inl c] M) fun v2 M1 =>
 if eq32 v2 0 then
 some (none, M1)
 else
 (if 0 ≤ (b * 6) + c ∧ (b * 6) + c < 36 then
 if 0 ≤ (c * 6) + b ∧ (c * 6) + b < 36 then
 some (none, pset (pset M1 19 (((b * 6) + c).toNat) d) 19 (((c * 6) + b).toNat) d)
 else none
 else none) :=
 (show xF (D + 1) 73 [.inr 19, .inl b, .inl c, .inl d] M = xE D 73 0 [.inr 19, .inl b, .inl c, .inl d] [] M from rfl).trans ((x_run D 73 (fun i => C_73.getD i s_none) rfl (fun _ => false) 25 0 [.inr 19, .inl b, .inl c, .inl d] [] M).trans rfl)
set_option maxRecDepth 10000 in
theorem T_House_makeDoor_7 (D : Nat) (b : Int) (c : Int) (d : Int) (M : pM) : xF (D + 1) 73 [.inr 9, .inl b, .inl c, .inl d] M =
 pbI (xF D 65 [.inr 9, .inl b, .inl c] M) fun v2 M1 =>
 if eq32 v2 0 then
 some (none, M1)
 else
 (if 0 ≤ (b * 6) + c ∧ (b * 6) + c < 36 then
 if 0 ≤ (c * 6) + b ∧ (c * 6) + b < 36 then
 some (none, pset (pset M1 9 (((b * 6) + c).toNat) d) 9 (((c * 6) + b).toNat) d)
 else none
 else none) :=
 (show xF (D + 1) 73 [.inr 9, .inl b, .inl c, .inl d] M = xE D 73 0 [.inr 9, .inl b, .inl c, .inl d] [] M from rfl).trans ((x_run D 73 (fun i => C_73.getD i s_none) rfl (fun _ => false) 25 0 [.inr 9, .inl b, .inl c, .inl d] [] M).trans rfl)
set_option maxRecDepth 10000 in
theorem T_House_doorWidth (D : Nat) (b : Int) (c : Int) (M : pM) : xF (D + 1) 74 [.inr 9, .inl b, .inl c] M =
 pbI (xF D 65 [.inr 9, .inl b, .inl c] M) fun v2 M1 =>
 if eq32 v2 0 then
 some (some (.inl 0), M1)
 else
 (if 0 ≤ (b * 6) + c ∧ (b * 6) + c < 36 then
 some (some (.inl (M1 9 (((b * 6) + c).toNat))), M1)
 else none) :=
 (show xF (D + 1) 74 [.inr 9, .inl b, .inl c] M = xE D 74 0 [.inr 9, .inl b, .inl c] [] M from rfl).trans ((x_run D 74 (fun i => C_74.getD i s_none) rfl (fun _ => false) 17 0 [.inr 9, .inl b, .inl c] [] M).trans rfl)
set_option maxRecDepth 10000 in
theorem T_House_weigh (D : Nat) (b : Int) (c : Int) (d : Int) (e : Int) (M : pM) : xF (D + 1) 76 [.inr 9, .inl b, .inl c, .inl d, .inl e] M =
 xE D 76 4 [.inr 9, .inl b, .inl c, .inl d, .inl e, .inl 0, .inl 0, .inr 0, .inr 0] [] M :=
 (show xF (D + 1) 76 [.inr 9, .inl b, .inl c, .inl d, .inl e] M = xE D 76 0 [.inr 9, .inl b, .inl c, .inl d, .inl e, .inr 0, .inr 0, .inr 0, .inr 0] [] M from rfl).trans ((x_run D 76 (fun i => C_76.getD i s_none) rfl (fun i => Nat.beq i 4) 53 0 [.inr 9, .inl b, .inl c, .inl d, .inl e, .inr 0, .inr 0, .inr 0, .inr 0] [] M).trans rfl)
set_option maxRecDepth 10000 in
theorem L_House_weigh_4 (D : Nat) (x1 : Int) (x2 : Int) (x3 : Int) (x4 : Int) (x5 : Int) (x6 : Int) (yx7 : pV) (yx8 : pV) (M : pM) : xE D 76 4 [.inr 9, .inl x1, .inl x2, .inl x3, .inl x4, .inl x5, .inl x6, yx7, yx8] [] M =
 if le32 (M 7 10) x6 then
 some (some (.inl x5), M)
 else
 (if le32 x2 x6 then
 (if ¬ eq32 x1 0 then
 (if ¬ eq32 x1 1 then
 (if 0 ≤ x6 ∧ x6 < 10 then
 if 0 ≤ x6 ∧ x6 < 10 then
 xE D 76 4 [.inr 9, .inl x1, .inl x2, .inl x3, .inl x4, .inl (x5 + ((pset M 12 x6.toNat (jmax 1 (jmin 9 1))) 12 x6.toNat)), .inl (x6 + 1), .inl 1, .inl 1] [] (pset M 12 x6.toNat (jmax 1 (jmin 9 1)))
 else none
 else none)
 else
 (if 0 ≤ x6 ∧ x6 < 10 then
 if 0 ≤ x6 ∧ x6 < 10 then
 xE D 76 4 [.inr 9, .inl x1, .inl x2, .inl x3, .inl x4, .inl (x5 + ((pset M 12 x6.toNat (jmax 1 (jmin 9 (js 1)))) 12 x6.toNat)), .inl (x6 + 1), .inl 1, .inl (js 1)] [] (pset M 12 x6.toNat (jmax 1 (jmin 9 (js 1))))
 else none
 else none))
 else
 (if 0 ≤ x6 ∧ x6 < 10 then
 if 0 ≤ x6 ∧ x6 < 10 then
 xE D 76 4 [.inr 9, .inl x1, .inl x2, .inl x3, .inl x4, .inl (x5 + ((pset M 12 x6.toNat (jmax 1 (jmin 9 (jb 1)))) 12 x6.toNat)), .inl (x6 + 1), .inl 1, .inl (jb 1)] [] (pset M 12 x6.toNat (jmax 1 (jmin 9 (jb 1))))
 else none
 else none))
 else
 (if ¬ eq32 x1 0 then
 (if ¬ eq32 x1 1 then
 (if 0 ≤ x6 ∧ x6 < 10 then
 if 0 ≤ x6 ∧ x6 < 10 then
 xE D 76 4 [.inr 9, .inl x1, .inl x2, .inl x3, .inl x4, .inl (x5 + ((pset M 12 x6.toNat (jmax 1 (jmin 9 (x3 + (x6 * x4))))) 12 x6.toNat)), .inl (x6 + 1), .inl (x3 + (x6 * x4)), .inl (x3 + (x6 * x4))] [] (pset M 12 x6.toNat (jmax 1 (jmin 9 (x3 + (x6 * x4)))))
 else none
 else none)
 else
 (if 0 ≤ x6 ∧ x6 < 10 then
 if 0 ≤ x6 ∧ x6 < 10 then
 xE D 76 4 [.inr 9, .inl x1, .inl x2, .inl x3, .inl x4, .inl (x5 + ((pset M 12 x6.toNat (jmax 1 (jmin 9 (js (x3 + (x6 * x4)))))) 12 x6.toNat)), .inl (x6 + 1), .inl (x3 + (x6 * x4)), .inl (js (x3 + (x6 * x4)))] [] (pset M 12 x6.toNat (jmax 1 (jmin 9 (js (x3 + (x6 * x4))))))
 else none
 else none))
 else
 (if 0 ≤ x6 ∧ x6 < 10 then
 if 0 ≤ x6 ∧ x6 < 10 then
 xE D 76 4 [.inr 9, .inl x1, .inl x2, .inl x3, .inl x4, .inl (x5 + ((pset M 12 x6.toNat (jmax 1 (jmin 9 (jb (x3 + (x6 * x4)))))) 12 x6.toNat)), .inl (x6 + 1), .inl (x3 + (x6 * x4)), .inl (jb (x3 + (x6 * x4)))] [] (pset M 12 x6.toNat (jmax 1 (jmin 9 (jb (x3 + (x6 * x4))))))
 else none
 else none))) :=
 (x_run D 76 (fun i => C_76.getD i s_none) rfl (fun i => Nat.beq i 4) 53 4 [.inr 9, .inl x1, .inl x2, .inl x3, .inl x4, .inl x5, .inl x6, yx7, yx8] [] M).trans rfl
set_option maxRecDepth 10000 in
theorem T_House_oneStepFrom (D : Nat) (b : Int) (c : Int) (M : pM) : xF (D + 1) 78 [.inr 9, .inl b, .inl c] M =
 xE D 78 4 [.inr 9, .inl b, .inl c, .inl b, .inl 0] [] M :=
 (show xF (D + 1) 78 [.inr 9, .inl b, .inl c] M = xE D 78 0 [.inr 9, .inl b, .inl c, .inr 0, .inr 0] [] M from rfl).trans ((x_run D 78 (fun i => C_78.getD i s_none) rfl (fun i => Nat.beq i 4) 34 0 [.inr 9, .inl b, .inl c, .inr 0, .inr 0] [] M).trans rfl)
set_option maxRecDepth 10000 in
theorem L_House_oneStepFrom_4 (D : Nat) (x1 : Int) (x2 : Int) (x3 : Int) (x4 : Int) (M : pM) : xE D 78 4 [.inr 9, .inl x1, .inl x2, .inl x3, .inl x4] [] M =
 if le32 36 x4 then
 some (some (.inl x3), M)
 else
 (pbI (xF D 49 [.inl x1, .inl (jdiv x4 6)] M) fun v2 M1 =>
 if eq32 v2 0 then
 xE D 78 4 [.inr 9, .inl x1, .inl x2, .inl x3, .inl (x4 + 1)] [] M1
 else
 (if 0 ≤ x4 ∧ x4 < 36 then
 if lt32 (M1 9 x4.toNat) x2 then
 xE D 78 4 [.inr 9, .inl x1, .inl x2, .inl x3, .inl (x4 + 1)] [] M1
 else
 xE D 78 4 [.inr 9, .inl x1, .inl x2, .inl (jor x3 (jshl 1 (jrem x4 6))), .inl (x4 + 1)] [] M1
 else none)) :=
 (x_run D 78 (fun i => C_78.getD i s_none) rfl (fun i => Nat.beq i 4) 34 4 [.inr 9, .inl x1, .inl x2, .inl x3, .inl x4] [] M).trans rfl
set_option maxRecDepth 10000 in
theorem T_House_steps (D : Nat) (b : Int) (c : Int) (d : Int) (M : pM) : xF (D + 1) 80 [.inr 9, .inl b, .inl c, .inl d] M =
 pbI (xF D 63 [.inr 9, .inl c] M) fun v2 M1 =>
 if eq32 v2 0 then
 some (some (.inl (-1)), M1)
 else
 (pbI (xF D 63 [.inr 9, .inl d] M1) fun v4 M3 =>
 if ¬ eq32 v4 0 then
 xE D 80 16 [.inr 9, .inl b, .inl c, .inl d, .inl (jshl 1 c), .inl 0] [] M3
 else
 some (some (.inl (-1)), M3)) :=
 (show xF (D + 1) 80 [.inr 9, .inl b, .inl c, .inl d] M = xE D 80 0 [.inr 9, .inl b, .inl c, .inl d, .inr 0, .inr 0] [] M from rfl).trans ((x_run D 80 (fun i => C_80.getD i s_none) rfl (fun i => Nat.beq i 16) 36 0 [.inr 9, .inl b, .inl c, .inl d, .inr 0, .inr 0] [] M).trans rfl)
set_option maxRecDepth 10000 in
theorem L_House_steps_16 (D : Nat) (x1 : Int) (x2 : Int) (x3 : Int) (x4 : Int) (x5 : Int) (M : pM) : xE D 80 16 [.inr 9, .inl x1, .inl x2, .inl x3, .inl x4, .inl x5] [] M =
 if le32 (M 7 9) x5 then
 some (some (.inl (-1)), M)
 else
 (pbI (xF D 49 [.inl x4, .inl x3] M) fun v2 M1 =>
 if eq32 v2 0 then
 (pbI (xF D 78 [.inr 9, .inl x4, .inl x1] M1) fun v4 M3 =>
 xE D 80 16 [.inr 9, .inl x1, .inl x2, .inl x3, .inl v4, .inl (x5 + 1)] [] M3)
 else
 some (some (.inl x5), M1)) :=
 (x_run D 80 (fun i => C_80.getD i s_none) rfl (fun i => Nat.beq i 16) 36 16 [.inr 9, .inl x1, .inl x2, .inl x3, .inl x4, .inl x5] [] M).trans rfl
set_option maxRecDepth 10000 in
theorem T_House_cost (D : Nat) (b : Int) (c : Int) (d : Int) (M : pM) : xF (D + 1) 82 [.inr 9, .inl b, .inl c, .inl d] M =
 pbI (xF D 64 [.inr 9, .inl b] M) fun v2 M1 =>
 if ¬ eq32 v2 0 then
 (if 0 ≤ b ∧ b < 10 then
 pbI (xF D 80 [.inr 9, .inl (M1 11 b.toNat), .inl c, .inl d] M1) fun v4 M3 =>
 if le32 0 v4 then
 (if 0 ≤ b ∧ b < 10 then
 some (some (.inl (v4 * (M3 12 b.toNat))), M3)
 else none)
 else
 some (some (.inl (-1)), M3)
 else none)
 else
 some (some (.inl (-1)), M1) :=
 (show xF (D + 1) 82 [.inr 9, .inl b, .inl c, .inl d] M = xE D 82 0 [.inr 9, .inl b, .inl c, .inl d, .inr 0] [] M from rfl).trans ((x_run D 82 (fun i => C_82.getD i s_none) rfl (fun _ => false) 27 0 [.inr 9, .inl b, .inl c, .inl d, .inr 0] [] M).trans rfl)
set_option maxRecDepth 10000 in
theorem T_House_comersIfWide (D : Nat) (b : Int) (c : Int) (d : Int) (M : pM) : xF (D + 1) 84 [.inr 9, .inl b, .inl c, .inl d] M =
 pbI (xF D 74 [.inr 9, .inl b, .inl c] M) fun v2 M1 =>
 pbN (xF D 73 [.inr 9, .inl b, .inl c, .inl 9] M1) fun M3 =>
 xE D 84 14 [.inr 9, .inl b, .inl c, .inl d, .inl v2, .inl 0, .inl 0] [] M3 :=
 (show xF (D + 1) 84 [.inr 9, .inl b, .inl c, .inl d] M = xE D 84 0 [.inr 9, .inl b, .inl c, .inl d, .inr 0, .inr 0, .inr 0] [] M from rfl).trans ((x_run D 84 (fun i => C_84.getD i s_none) rfl (fun i => Nat.beq i 14) 46 0 [.inr 9, .inl b, .inl c, .inl d, .inr 0, .inr 0, .inr 0] [] M).trans rfl)
set_option maxRecDepth 10000 in
theorem L_House_comersIfWide_14 (D : Nat) (x1 : Int) (x2 : Int) (x3 : Int) (x4 : Int) (x5 : Int) (x6 : Int) (M : pM) : xE D 84 14 [.inr 9, .inl x1, .inl x2, .inl x3, .inl x4, .inl x5, .inl x6] [] M =
 if le32 (M 7 10) x6 then
 (pbN (xF D 73 [.inr 9, .inl x1, .inl x2, .inl x4] M) fun M1 =>
 some (some (.inl x5), M1))
 else
 (if 0 ≤ x6 ∧ x6 < 10 then
 if 0 ≤ x6 ∧ x6 < 10 then
 pbI (xF D 80 [.inr 9, .inl (M 11 x6.toNat), .inl (M 13 x6.toNat), .inl x3] M) fun v3 M2 =>
 if lt32 v3 0 then
 xE D 84 14 [.inr 9, .inl x1, .inl x2, .inl x3, .inl x4, .inl (x5 + 0), .inl (x6 + 1)] [] M2
 else
 xE D 84 14 [.inr 9, .inl x1, .inl x2, .inl x3, .inl x4, .inl (x5 + 1), .inl (x6 + 1)] [] M2
 else none
 else none) :=
 (x_run D 84 (fun i => C_84.getD i s_none) rfl (fun i => Nat.beq i 14) 46 14 [.inr 9, .inl x1, .inl x2, .inl x3, .inl x4, .inl x5, .inl x6] [] M).trans rfl
set_option maxRecDepth 10000 in
theorem T_House_thingsIn_13 (D : Nat) (b : Int) (M : pM) : xF (D + 1) 86 [.inr 9, .inl b, .inr 15] M =
 xE D 86 4 [.inr 9, .inl b, .inr 15, .inl 0, .inl 0] [] M :=
 (show xF (D + 1) 86 [.inr 9, .inl b, .inr 15] M = xE D 86 0 [.inr 9, .inl b, .inr 15, .inr 0, .inr 0] [] M from rfl).trans ((x_run D 86 (fun i => C_86.getD i s_none) rfl (fun i => Nat.beq i 4) 24 0 [.inr 9, .inl b, .inr 15, .inr 0, .inr 0] [] M).trans rfl)
set_option maxRecDepth 10000 in
theorem L_House_thingsIn_13_4 (D : Nat) (x1 : Int) (x3 : Int) (x4 : Int) (M : pM) : xE D 86 4 [.inr 9, .inl x1, .inr 15, .inl x3, .inl x4] [] M =
 if le32 (M 7 10) x4 then
 some (some (.inl x3), M)
 else
 (pbI (xF D 47 [.inr 15, .inl x4] M) fun v2 M1 =>
 if ¬ eq32 v2 x1 then
 xE D 86 4 [.inr 9, .inl x1, .inr 15, .inl x3, .inl (x4 + 1)] [] M1
 else
 xE D 86 4 [.inr 9, .inl x1, .inr 15, .inl (jor x3 (jshl 1 x4)), .inl (x4 + 1)] [] M1) :=
 (x_run D 86 (fun i => C_86.getD i s_none) rfl (fun i => Nat.beq i 4) 24 4 [.inr 9, .inl x1, .inr 15, .inl x3, .inl x4] [] M).trans rfl
set_option maxRecDepth 10000 in
theorem T_House_thingsIn_59 (D : Nat) (b : Int) (M : pM) : xF (D + 1) 86 [.inr 9, .inl b, .inr 61] M =
 xE D 86 4 [.inr 9, .inl b, .inr 61, .inl 0, .inl 0] [] M :=
 (show xF (D + 1) 86 [.inr 9, .inl b, .inr 61] M = xE D 86 0 [.inr 9, .inl b, .inr 61, .inr 0, .inr 0] [] M from rfl).trans ((x_run D 86 (fun i => C_86.getD i s_none) rfl (fun i => Nat.beq i 4) 24 0 [.inr 9, .inl b, .inr 61, .inr 0, .inr 0] [] M).trans rfl)
set_option maxRecDepth 10000 in
theorem L_House_thingsIn_59_4 (D : Nat) (x1 : Int) (x3 : Int) (x4 : Int) (M : pM) : xE D 86 4 [.inr 9, .inl x1, .inr 61, .inl x3, .inl x4] [] M =
 if le32 (M 7 10) x4 then
 some (some (.inl x3), M)
 else
 (pbI (xF D 47 [.inr 61, .inl x4] M) fun v2 M1 =>
 if ¬ eq32 v2 x1 then
 xE D 86 4 [.inr 9, .inl x1, .inr 61, .inl x3, .inl (x4 + 1)] [] M1
 else
 xE D 86 4 [.inr 9, .inl x1, .inr 61, .inl (jor x3 (jshl 1 x4)), .inl (x4 + 1)] [] M1) :=
 (x_run D 86 (fun i => C_86.getD i s_none) rfl (fun i => Nat.beq i 4) 24 4 [.inr 9, .inl x1, .inr 61, .inl x3, .inl x4] [] M).trans rfl
set_option maxRecDepth 10000 in
theorem T_House_load_13 (D : Nat) (b : Int) (M : pM) : xF (D + 1) 87 [.inr 9, .inl b, .inr 15] M =
 pbI (xF D 86 [.inr 9, .inl b, .inr 15] M) fun v2 M1 =>
 pbI (xF D 102 [.inr 9, .inl v2] M1) fun v4 M3 =>
 some (some (.inl v4), M3) :=
 (show xF (D + 1) 87 [.inr 9, .inl b, .inr 15] M = xE D 87 0 [.inr 9, .inl b, .inr 15] [] M from rfl).trans ((x_run D 87 (fun i => C_87.getD i s_none) rfl (fun _ => false) 8 0 [.inr 9, .inl b, .inr 15] [] M).trans rfl)
set_option maxRecDepth 10000 in
theorem T_House_load_59 (D : Nat) (b : Int) (M : pM) : xF (D + 1) 87 [.inr 9, .inl b, .inr 61] M =
 pbI (xF D 86 [.inr 9, .inl b, .inr 61] M) fun v2 M1 =>
 pbI (xF D 102 [.inr 9, .inl v2] M1) fun v4 M3 =>
 some (some (.inl v4), M3) :=
 (show xF (D + 1) 87 [.inr 9, .inl b, .inr 61] M = xE D 87 0 [.inr 9, .inl b, .inr 61] [] M from rfl).trans ((x_run D 87 (fun i => C_87.getD i s_none) rfl (fun _ => false) 8 0 [.inr 9, .inl b, .inr 61] [] M).trans rfl)
set_option maxRecDepth 10000 in
theorem T_House_overfull_13 (D : Nat)  (M : pM) : xF (D + 1) 88 [.inr 9, .inr 15] M =
 xE D 88 4 [.inr 9, .inr 15, .inl 0, .inl 0] [] M :=
 (show xF (D + 1) 88 [.inr 9, .inr 15] M = xE D 88 0 [.inr 9, .inr 15, .inr 0, .inr 0] [] M from rfl).trans ((x_run D 88 (fun i => C_88.getD i s_none) rfl (fun i => Nat.beq i 4) 28 0 [.inr 9, .inr 15, .inr 0, .inr 0] [] M).trans rfl)
set_option maxRecDepth 10000 in
theorem L_House_overfull_13_4 (D : Nat) (x2 : Int) (x3 : Int) (M : pM) : xE D 88 4 [.inr 9, .inr 15, .inl x2, .inl x3] [] M =
 if le32 (M 7 9) x3 then
 some (some (.inl x2), M)
 else
 (pbI (xF D 87 [.inr 9, .inl x3, .inr 15] M) fun v2 M1 =>
 if 0 ≤ x3 ∧ x3 < 6 then
 if le32 v2 (M1 8 x3.toNat) then
 xE D 88 4 [.inr 9, .inr 15, .inl x2, .inl (x3 + 1)] [] M1
 else
 xE D 88 4 [.inr 9, .inr 15, .inl (jor x2 (jshl 1 x3)), .inl (x3 + 1)] [] M1
 else none) :=
 (x_run D 88 (fun i => C_88.getD i s_none) rfl (fun i => Nat.beq i 4) 28 4 [.inr 9, .inr 15, .inl x2, .inl x3] [] M).trans rfl
set_option maxRecDepth 10000 in
theorem T_House_overfull_59 (D : Nat)  (M : pM) : xF (D + 1) 88 [.inr 9, .inr 61] M =
 xE D 88 4 [.inr 9, .inr 61, .inl 0, .inl 0] [] M :=
 (show xF (D + 1) 88 [.inr 9, .inr 61] M = xE D 88 0 [.inr 9, .inr 61, .inr 0, .inr 0] [] M from rfl).trans ((x_run D 88 (fun i => C_88.getD i s_none) rfl (fun i => Nat.beq i 4) 28 0 [.inr 9, .inr 61, .inr 0, .inr 0] [] M).trans rfl)
set_option maxRecDepth 10000 in
theorem L_House_overfull_59_4 (D : Nat) (x2 : Int) (x3 : Int) (M : pM) : xE D 88 4 [.inr 9, .inr 61, .inl x2, .inl x3] [] M =
 if le32 (M 7 9) x3 then
 some (some (.inl x2), M)
 else
 (pbI (xF D 87 [.inr 9, .inl x3, .inr 61] M) fun v2 M1 =>
 if 0 ≤ x3 ∧ x3 < 6 then
 if le32 v2 (M1 8 x3.toNat) then
 xE D 88 4 [.inr 9, .inr 61, .inl x2, .inl (x3 + 1)] [] M1
 else
 xE D 88 4 [.inr 9, .inr 61, .inl (jor x2 (jshl 1 x3)), .inl (x3 + 1)] [] M1
 else none) :=
 (x_run D 88 (fun i => C_88.getD i s_none) rfl (fun i => Nat.beq i 4) 28 4 [.inr 9, .inr 61, .inl x2, .inl x3] [] M).trans rfl
set_option maxRecDepth 10000 in
theorem T_House_parted_13 (D : Nat)  (M : pM) : xF (D + 1) 89 [.inr 9, .inr 15] M =
 xE D 89 4 [.inr 9, .inr 15, .inl 0, .inl 0] [] M :=
 (show xF (D + 1) 89 [.inr 9, .inr 15] M = xE D 89 0 [.inr 9, .inr 15, .inr 0, .inr 0] [] M from rfl).trans ((x_run D 89 (fun i => C_89.getD i s_none) rfl (fun i => Nat.beq i 4) 27 0 [.inr 9, .inr 15, .inr 0, .inr 0] [] M).trans rfl)
set_option maxRecDepth 10000 in
theorem L_House_parted_13_4 (D : Nat) (x2 : Int) (x3 : Int) (M : pM) : xE D 89 4 [.inr 9, .inr 15, .inl x2, .inl x3] [] M =
 if le32 (M 7 11) x3 then
 some (some (.inl x2), M)
 else
 (if 0 ≤ x3 ∧ x3 < 8 then
 pbI (xF D 90 [.inr 9, .inl (M 14 x3.toNat), .inr 15] M) fun v2 M1 =>
 if ¬ eq32 v2 0 then
 xE D 89 4 [.inr 9, .inr 15, .inl x2, .inl (x3 + 1)] [] M1
 else
 xE D 89 4 [.inr 9, .inr 15, .inl (jor x2 (jshl 1 x3)), .inl (x3 + 1)] [] M1
 else none) :=
 (x_run D 89 (fun i => C_89.getD i s_none) rfl (fun i => Nat.beq i 4) 27 4 [.inr 9, .inr 15, .inl x2, .inl x3] [] M).trans rfl
set_option maxRecDepth 10000 in
theorem T_House_parted_59 (D : Nat)  (M : pM) : xF (D + 1) 89 [.inr 9, .inr 61] M =
 xE D 89 4 [.inr 9, .inr 61, .inl 0, .inl 0] [] M :=
 (show xF (D + 1) 89 [.inr 9, .inr 61] M = xE D 89 0 [.inr 9, .inr 61, .inr 0, .inr 0] [] M from rfl).trans ((x_run D 89 (fun i => C_89.getD i s_none) rfl (fun i => Nat.beq i 4) 27 0 [.inr 9, .inr 61, .inr 0, .inr 0] [] M).trans rfl)
set_option maxRecDepth 10000 in
theorem L_House_parted_59_4 (D : Nat) (x2 : Int) (x3 : Int) (M : pM) : xE D 89 4 [.inr 9, .inr 61, .inl x2, .inl x3] [] M =
 if le32 (M 7 11) x3 then
 some (some (.inl x2), M)
 else
 (if 0 ≤ x3 ∧ x3 < 8 then
 pbI (xF D 90 [.inr 9, .inl (M 14 x3.toNat), .inr 61] M) fun v2 M1 =>
 if ¬ eq32 v2 0 then
 xE D 89 4 [.inr 9, .inr 61, .inl x2, .inl (x3 + 1)] [] M1
 else
 xE D 89 4 [.inr 9, .inr 61, .inl (jor x2 (jshl 1 x3)), .inl (x3 + 1)] [] M1
 else none) :=
 (x_run D 89 (fun i => C_89.getD i s_none) rfl (fun i => Nat.beq i 4) 27 4 [.inr 9, .inr 61, .inl x2, .inl x3] [] M).trans rfl
set_option maxRecDepth 10000 in
theorem T_House_areInOneRoom_13 (D : Nat) (b : Int) (M : pM) : xF (D + 1) 90 [.inr 9, .inl b, .inr 15] M =
 xE D 90 2 [.inr 9, .inl b, .inr 15, .inl 0, .inr 0] [] M :=
 (show xF (D + 1) 90 [.inr 9, .inl b, .inr 15] M = xE D 90 0 [.inr 9, .inl b, .inr 15, .inr 0, .inr 0] [] M from rfl).trans ((x_run D 90 (fun i => C_90.getD i s_none) rfl (fun i => Nat.beq i 2) 25 0 [.inr 9, .inl b, .inr 15, .inr 0, .inr 0] [] M).trans rfl)
set_option maxRecDepth 10000 in
theorem L_House_areInOneRoom_13_2 (D : Nat) (x1 : Int) (x3 : Int) (yx4 : pV) (M : pM) : xE D 90 2 [.inr 9, .inl x1, .inr 15, .inl x3, yx4] [] M =
 if le32 (M 7 9) x3 then
 some (some (.inl 1), M)
 else
 (pbI (xF D 86 [.inr 9, .inl x3, .inr 15] M) fun v2 M1 =>
 if eq32 (jand v2 x1) 0 then
 xE D 90 2 [.inr 9, .inl x1, .inr 15, .inl (x3 + 1), .inl (jand v2 x1)] [] M1
 else
 (if eq32 (jand v2 x1) x1 then
 xE D 90 2 [.inr 9, .inl x1, .inr 15, .inl (x3 + 1), .inl (jand v2 x1)] [] M1
 else
 some (some (.inl 0), M1))) :=
 (x_run D 90 (fun i => C_90.getD i s_none) rfl (fun i => Nat.beq i 2) 25 2 [.inr 9, .inl x1, .inr 15, .inl x3, yx4] [] M).trans rfl
set_option maxRecDepth 10000 in
theorem T_House_areInOneRoom_59 (D : Nat) (b : Int) (M : pM) : xF (D + 1) 90 [.inr 9, .inl b, .inr 61] M =
 xE D 90 2 [.inr 9, .inl b, .inr 61, .inl 0, .inr 0] [] M :=
 (show xF (D + 1) 90 [.inr 9, .inl b, .inr 61] M = xE D 90 0 [.inr 9, .inl b, .inr 61, .inr 0, .inr 0] [] M from rfl).trans ((x_run D 90 (fun i => C_90.getD i s_none) rfl (fun i => Nat.beq i 2) 25 0 [.inr 9, .inl b, .inr 61, .inr 0, .inr 0] [] M).trans rfl)
set_option maxRecDepth 10000 in
theorem L_House_areInOneRoom_59_2 (D : Nat) (x1 : Int) (x3 : Int) (yx4 : pV) (M : pM) : xE D 90 2 [.inr 9, .inl x1, .inr 61, .inl x3, yx4] [] M =
 if le32 (M 7 9) x3 then
 some (some (.inl 1), M)
 else
 (pbI (xF D 86 [.inr 9, .inl x3, .inr 61] M) fun v2 M1 =>
 if eq32 (jand v2 x1) 0 then
 xE D 90 2 [.inr 9, .inl x1, .inr 61, .inl (x3 + 1), .inl (jand v2 x1)] [] M1
 else
 (if eq32 (jand v2 x1) x1 then
 xE D 90 2 [.inr 9, .inl x1, .inr 61, .inl (x3 + 1), .inl (jand v2 x1)] [] M1
 else
 some (some (.inl 0), M1))) :=
 (x_run D 90 (fun i => C_90.getD i s_none) rfl (fun i => Nat.beq i 2) 25 2 [.inr 9, .inl x1, .inr 61, .inl x3, yx4] [] M).trans rfl
set_option maxRecDepth 10000 in
theorem T_House_lawful_13 (D : Nat)  (M : pM) : xF (D + 1) 91 [.inr 9, .inr 15] M =
 pbI (xF D 89 [.inr 9, .inr 15] M) fun v2 M1 =>
 pbI (xF D 88 [.inr 9, .inr 15] M1) fun v4 M3 =>
 if ¬ eq32 (jor v2 v4) 0 then
 some (some (.inl 0), M3)
 else
 some (some (.inl 1), M3) :=
 (show xF (D + 1) 91 [.inr 9, .inr 15] M = xE D 91 0 [.inr 9, .inr 15] [] M from rfl).trans ((x_run D 91 (fun i => C_91.getD i s_none) rfl (fun _ => false) 13 0 [.inr 9, .inr 15] [] M).trans rfl)
set_option maxRecDepth 10000 in
theorem T_House_lawful_59 (D : Nat)  (M : pM) : xF (D + 1) 91 [.inr 9, .inr 61] M =
 pbI (xF D 89 [.inr 9, .inr 61] M) fun v2 M1 =>
 pbI (xF D 88 [.inr 9, .inr 61] M1) fun v4 M3 =>
 if ¬ eq32 (jor v2 v4) 0 then
 some (some (.inl 0), M3)
 else
 some (some (.inl 1), M3) :=
 (show xF (D + 1) 91 [.inr 9, .inr 61] M = xE D 91 0 [.inr 9, .inr 61] [] M from rfl).trans ((x_run D 91 (fun i => C_91.getD i s_none) rfl (fun _ => false) 13 0 [.inr 9, .inr 61] [] M).trans rfl)
set_option maxRecDepth 10000 in
theorem T_House_leaveSets (D : Nat) (b : Int) (M : pM) : xF (D + 1) 95 [.inr 9, .inl b] M =
 xE D 95 2 [.inr 9, .inl b, .inl 0] [] M :=
 (show xF (D + 1) 95 [.inr 9, .inl b] M = xE D 95 0 [.inr 9, .inl b, .inr 0] [] M from rfl).trans ((x_run D 95 (fun i => C_95.getD i s_none) rfl (fun i => Nat.beq i 2) 22 0 [.inr 9, .inl b, .inr 0] [] M).trans rfl)
set_option maxRecDepth 10000 in
theorem L_House_leaveSets_2 (D : Nat) (x1 : Int) (x2 : Int) (M : pM) : xE D 95 2 [.inr 9, .inl x1, .inl x2] [] M =
 if le32 (M 7 11) x2 then
 some (none, M)
 else
 (if 0 ≤ x2 ∧ x2 < 8 then
 if 0 ≤ x2 ∧ x2 < 8 then
 xE D 95 2 [.inr 9, .inl x1, .inl (x2 + 1)] [] (pset M 14 x2.toNat (jand (M 14 x2.toNat) (jxor (jshl 1 x1) (-1))))
 else none
 else none) :=
 (x_run D 95 (fun i => C_95.getD i s_none) rfl (fun i => Nat.beq i 2) 22 2 [.inr 9, .inl x1, .inl x2] [] M).trans rfl
set_option maxRecDepth 10000 in
theorem T_House_bulkOf (D : Nat) (b : Int) (M : pM) : xF (D + 1) 102 [.inr 9, .inl b] M =
 xE D 102 4 [.inr 9, .inl b, .inl 0, .inl 0] [] M :=
 (show xF (D + 1) 102 [.inr 9, .inl b] M = xE D 102 0 [.inr 9, .inl b, .inr 0, .inr 0] [] M from rfl).trans ((x_run D 102 (fun i => C_102.getD i s_none) rfl (fun i => Nat.beq i 4) 26 0 [.inr 9, .inl b, .inr 0, .inr 0] [] M).trans rfl)
set_option maxRecDepth 10000 in
theorem L_House_bulkOf_4 (D : Nat) (x1 : Int) (x2 : Int) (x3 : Int) (M : pM) : xE D 102 4 [.inr 9, .inl x1, .inl x2, .inl x3] [] M =
 if le32 (M 7 10) x3 then
 some (some (.inl x2), M)
 else
 (pbI (xF D 49 [.inl x1, .inl x3] M) fun v2 M1 =>
 if eq32 v2 0 then
 xE D 102 4 [.inr 9, .inl x1, .inl (x2 + 0), .inl (x3 + 1)] [] M1
 else
 (if 0 ≤ x3 ∧ x3 < 10 then
 xE D 102 4 [.inr 9, .inl x1, .inl (x2 + (M1 10 x3.toNat)), .inl (x3 + 1)] [] M1
 else none)) :=
 (x_run D 102 (fun i => C_102.getD i s_none) rfl (fun i => Nat.beq i 4) 26 4 [.inr 9, .inl x1, .inl x2, .inl x3] [] M).trans rfl
set_option maxRecDepth 10000 in
theorem T_HouseReader_read (D : Nat)  (M : pM) : xF (D + 1) 107 [.inr 6, .inr 19] M =
 pbN (xF D 132 [.inr 5, .inl 76] M) fun M1 =>
 pbN (xF D 108 [.inr 6, .inr 19] M1) fun M2 =>
 xE D 107 11 [.inr 6, .inr 19, .inl 1, .inl 0] [] M2 :=
 (show xF (D + 1) 107 [.inr 6, .inr 19] M = xE D 107 0 [.inr 6, .inr 19, .inr 0, .inr 0] [] M from rfl).trans ((x_run D 107 (fun i => C_107.getD i s_none) rfl (fun i => Nat.beq i 11) 42 0 [.inr 6, .inr 19, .inr 0, .inr 0] [] M).trans rfl)
set_option maxRecDepth 10000 in
theorem L_HouseReader_read_11 (D : Nat) (x2 : Int) (x3 : Int) (M : pM) : xE D 107 11 [.inr 6, .inr 19, .inl x2, .inl x3] [] M =
 if le32 76 x3 then
 (pbI (xF D 136 [.inr 5] M) fun v2 M1 =>
 if ¬ eq32 v2 (-1) then
 some (some (.inl ((-1) - v2)), M1)
 else
 some (some (.inl x2), M1))
 else
 (pbI (xF D 134 [.inr 5] M) fun v4 M3 =>
 if eq32 v4 0 then
 (pbI (xF D 136 [.inr 5] M3) fun v6 M5 =>
 if ¬ eq32 v6 (-1) then
 some (some (.inl ((-1) - v6)), M5)
 else
 some (some (.inl x2), M5))
 else
 (pbN (xF D 137 [.inr 5, .inl 59] M3) fun M7 =>
 pbN (xF D 108 [.inr 6, .inr 19] M7) fun M8 =>
 xE D 107 11 [.inr 6, .inr 19, .inl (x2 + 1), .inl (x3 + 1)] [] M8)) :=
 (x_run D 107 (fun i => C_107.getD i s_none) rfl (fun i => Nat.beq i 11) 42 11 [.inr 6, .inr 19, .inl x2, .inl x3] [] M).trans rfl
set_option maxRecDepth 10000 in
theorem T_HouseReader_line (D : Nat)  (M : pM) : xF (D + 1) 108 [.inr 6, .inr 19] M =
 pbI (xF D 133 [.inr 5] M) fun v2 M1 =>
 if ¬ eq32 v2 114 then
 (if ¬ eq32 v2 100 then
 (if ¬ eq32 v2 115 then
 (pbI (xF D 138 [.inr 5] M1) fun v4 M3 =>
 if eq32 v4 0 then
 (pbN (xF D 135 [.inr 5, .inl (M3 3 1)] M3) fun M5 =>
 some (none, M5))
 else
 (if le32 10 (M3 17 10) then
 (pbN (xF D 135 [.inr 5, .inl (M3 3 1)] M3) fun M6 =>
 some (none, M6))
 else
 (pbN (xF D 110 [.inr 6, .inr 19] M3) fun M7 =>
 some (none, M7))))
 else
 (if le32 8 (M1 17 11) then
 (pbI (xF D 138 [.inr 5] M1) fun v9 M8 =>
 if eq32 v9 0 then
 (pbN (xF D 135 [.inr 5, .inl (M8 3 1)] M8) fun M10 =>
 some (none, M10))
 else
 (if le32 10 (M8 17 10) then
 (pbN (xF D 135 [.inr 5, .inl (M8 3 1)] M8) fun M11 =>
 some (none, M11))
 else
 (pbN (xF D 110 [.inr 6, .inr 19] M8) fun M12 =>
 some (none, M12))))
 else
 (pbI (xF D 111 [.inr 6, .inl ((pset M1 3 1 ((M1 3 1) + 1)) 17 10)] (pset M1 3 1 ((M1 3 1) + 1))) fun v14 M13 =>
 pbN (xF D 72 [.inr 19, .inl v14] M13) fun M15 =>
 some (none, M15))))
 else
 (pbN (xF D 109 [.inr 6, .inr 19] (pset M1 3 1 ((M1 3 1) + 1))) fun M16 =>
 some (none, M16)))
 else
 (if le32 6 (M1 17 9) then
 (if ¬ eq32 v2 100 then
 (if ¬ eq32 v2 115 then
 (pbI (xF D 138 [.inr 5] M1) fun v18 M17 =>
 if eq32 v18 0 then
 (pbN (xF D 135 [.inr 5, .inl (M17 3 1)] M17) fun M19 =>
 some (none, M19))
 else
 (if le32 10 (M17 17 10) then
 (pbN (xF D 135 [.inr 5, .inl (M17 3 1)] M17) fun M20 =>
 some (none, M20))
 else
 (pbN (xF D 110 [.inr 6, .inr 19] M17) fun M21 =>
 some (none, M21))))
 else
 (if le32 8 (M1 17 11) then
 (pbI (xF D 138 [.inr 5] M1) fun v23 M22 =>
 if eq32 v23 0 then
 (pbN (xF D 135 [.inr 5, .inl (M22 3 1)] M22) fun M24 =>
 some (none, M24))
 else
 (if le32 10 (M22 17 10) then
 (pbN (xF D 135 [.inr 5, .inl (M22 3 1)] M22) fun M25 =>
 some (none, M25))
 else
 (pbN (xF D 110 [.inr 6, .inr 19] M22) fun M26 =>
 some (none, M26))))
 else
 (pbI (xF D 111 [.inr 6, .inl ((pset M1 3 1 ((M1 3 1) + 1)) 17 10)] (pset M1 3 1 ((M1 3 1) + 1))) fun v28 M27 =>
 pbN (xF D 72 [.inr 19, .inl v28] M27) fun M29 =>
 some (none, M29))))
 else
 (pbN (xF D 109 [.inr 6, .inr 19] (pset M1 3 1 ((M1 3 1) + 1))) fun M30 =>
 some (none, M30)))
 else
 (pbI (xF D 142 [.inr 5] (pset M1 3 1 ((M1 3 1) + 1))) fun v32 M31 =>
 pbN (xF D 70 [.inr 19, .inl v32] M31) fun M33 =>
 some (none, M33))) :=
 (show xF (D + 1) 108 [.inr 6, .inr 19] M = xE D 108 0 [.inr 6, .inr 19, .inr 0] [] M from rfl).trans ((x_run D 108 (fun i => C_108.getD i s_none) rfl (fun _ => false) 79 0 [.inr 6, .inr 19, .inr 0] [] M).trans rfl)
set_option maxRecDepth 10000 in
theorem T_HouseReader_doorLine (D : Nat)  (M : pM) : xF (D + 1) 109 [.inr 6, .inr 19] M =
 pbI (xF D 139 [.inr 5, .inl 0, .inl (M 17 9)] M) fun v2 M1 =>
 pbN (xF D 137 [.inr 5, .inl 45] M1) fun M3 =>
 pbI (xF D 139 [.inr 5, .inl 0, .inl (M3 17 9)] M3) fun v5 M4 =>
 if ¬ eq32 v2 v5 then
 (pbN (xF D 137 [.inr 5, .inl 61] M4) fun M6 =>
 pbI (xF D 139 [.inr 5, .inl 1, .inl 10] M6) fun v8 M7 =>
 if ¬ eq32 (M7 3 3) (-1) then
 some (none, M7)
 else
 (pbN (xF D 73 [.inr 19, .inl v2, .inl v5, .inl v8] M7) fun M9 =>
 some (none, M9)))
 else
 (pbN (xF D 135 [.inr 5, .inl (M3 3 1)] M4) fun M10 =>
 pbN (xF D 137 [.inr 5, .inl 61] M10) fun M11 =>
 pbI (xF D 139 [.inr 5, .inl 1, .inl 10] M11) fun v13 M12 =>
 if ¬ eq32 (M12 3 3) (-1) then
 some (none, M12)
 else
 (pbN (xF D 73 [.inr 19, .inl v2, .inl v5, .inl v13] M12) fun M14 =>
 some (none, M14))) :=
 (show xF (D + 1) 109 [.inr 6, .inr 19] M = xE D 109 0 [.inr 6, .inr 19, .inr 0, .inr 0, .inr 0, .inr 0] [] M from rfl).trans ((x_run D 109 (fun i => C_109.getD i s_none) rfl (fun _ => false) 51 0 [.inr 6, .inr 19, .inr 0, .inr 0, .inr 0, .inr 0] [] M).trans rfl)
set_option maxRecDepth 10000 in
theorem T_HouseReader_thingLine (D : Nat)  (M : pM) : xF (D + 1) 110 [.inr 6, .inr 19] M =
 pbI (xF D 142 [.inr 5] M) fun v2 M1 =>
 pbN (xF D 137 [.inr 5, .inl 44] M1) fun M3 =>
 pbI (xF D 139 [.inr 5, .inl 1, .inl 10] M3) fun v5 M4 =>
 pbN (xF D 137 [.inr 5, .inl 44] M4) fun M6 =>
 pbI (xF D 139 [.inr 5, .inl 1, .inl 10] M6) fun v8 M7 =>
 pbN (xF D 137 [.inr 5, .inl 64] M7) fun M9 =>
 pbI (xF D 139 [.inr 5, .inl 0, .inl (M9 17 9)] M9) fun v11 M10 =>
 if ¬ eq32 (M10 3 3) (-1) then
 some (none, M10)
 else
 (pbN (xF D 71 [.inr 19, .inl v2, .inl v5, .inl v8, .inl v11] M10) fun M12 =>
 some (none, M12)) :=
 (show xF (D + 1) 110 [.inr 6, .inr 19] M = xE D 110 0 [.inr 6, .inr 19, .inr 0, .inr 0, .inr 0, .inr 0] [] M from rfl).trans ((x_run D 110 (fun i => C_110.getD i s_none) rfl (fun _ => false) 48 0 [.inr 6, .inr 19, .inr 0, .inr 0, .inr 0, .inr 0] [] M).trans rfl)
set_option maxRecDepth 10000 in
theorem T_HouseReader_letters (D : Nat) (b : Int) (M : pM) : xF (D + 1) 111 [.inr 6, .inl b] M =
 pbI (xF D 140 [.inr 5, .inl 0, .inl b] M) fun v2 M1 =>
 if le32 0 v2 then
 xE D 111 16 [.inr 6, .inl b, .inl v2, .inl (jshl 1 v2), .inl 0] [] M1
 else
 xE D 111 16 [.inr 6, .inl b, .inl v2, .inl 0, .inl 0] [] M1 :=
 (show xF (D + 1) 111 [.inr 6, .inl b] M = xE D 111 0 [.inr 6, .inl b, .inr 0, .inr 0, .inr 0] [] M from rfl).trans ((x_run D 111 (fun i => C_111.getD i s_none) rfl (fun i => Nat.beq i 16) 51 0 [.inr 6, .inl b, .inr 0, .inr 0, .inr 0] [] M).trans rfl)
set_option maxRecDepth 10000 in
theorem L_HouseReader_letters_16 (D : Nat) (x1 : Int) (x2 : Int) (x3 : Int) (x4 : Int) (M : pM) : xE D 111 16 [.inr 6, .inl x1, .inl x2, .inl x3, .inl x4] [] M =
 if le32 10 x4 then
 some (some (.inl x3), M)
 else
 (pbI (xF D 134 [.inr 5] M) fun v2 M1 =>
 if eq32 v2 0 then
 some (some (.inl x3), M1)
 else
 (pbI (xF D 133 [.inr 5] M1) fun v4 M3 =>
 if eq32 v4 59 then
 some (some (.inl x3), M3)
 else
 (pbI (xF D 140 [.inr 5, .inl (x2 + 1), .inl x1] M3) fun v6 M5 =>
 if le32 0 v6 then
 xE D 111 16 [.inr 6, .inl x1, .inl v6, .inl (jor x3 (jshl 1 v6)), .inl (x4 + 1)] [] M5
 else
 xE D 111 16 [.inr 6, .inl x1, .inl v6, .inl (jor x3 0), .inl (x4 + 1)] [] M5))) :=
 (x_run D 111 (fun i => C_111.getD i s_none) rfl (fun i => Nat.beq i 16) 51 16 [.inr 6, .inl x1, .inl x2, .inl x3, .inl x4] [] M).trans rfl
set_option maxRecDepth 10000 in
theorem T_Kept_store_44 (D : Nat) (c : Int) (d : Int) (M : pM) : xF (D + 1) 125 [.inr 46, .inr 9, .inl c, .inl d] M =
 pbN (xF D 48 [.inr 15, .inr 47] M) fun M1 =>
 some (none, pset (pset (pset (pset (pset M1 44 1 1) 44 2 ((pset M1 44 1 1) 7 9)) 44 3 ((pset (pset M1 44 1 1) 44 2 ((pset M1 44 1 1) 7 9)) 7 10)) 44 4 c) 44 5 d) :=
 (show xF (D + 1) 125 [.inr 46, .inr 9, .inl c, .inl d] M = xE D 125 0 [.inr 46, .inr 9, .inl c, .inl d] [] M from rfl).trans ((x_run D 125 (fun i => C_125.getD i s_none) rfl (fun _ => false) 24 0 [.inr 46, .inr 9, .inl c, .inl d] [] M).trans rfl)
set_option maxRecDepth 10000 in
theorem T_Kept_store_46 (D : Nat) (c : Int) (d : Int) (M : pM) : xF (D + 1) 125 [.inr 48, .inr 9, .inl c, .inl d] M =
 pbN (xF D 48 [.inr 15, .inr 49] M) fun M1 =>
 some (none, pset (pset (pset (pset (pset M1 46 1 1) 46 2 ((pset M1 46 1 1) 7 9)) 46 3 ((pset (pset M1 46 1 1) 46 2 ((pset M1 46 1 1) 7 9)) 7 10)) 46 4 c) 46 5 d) :=
 (show xF (D + 1) 125 [.inr 48, .inr 9, .inl c, .inl d] M = xE D 125 0 [.inr 48, .inr 9, .inl c, .inl d] [] M from rfl).trans ((x_run D 125 (fun i => C_125.getD i s_none) rfl (fun _ => false) 24 0 [.inr 48, .inr 9, .inl c, .inl d] [] M).trans rfl)
set_option maxRecDepth 10000 in
theorem T_Kept_suits_44 (D : Nat)  (M : pM) : xF (D + 1) 126 [.inr 46, .inr 9] M =
 if eq32 (M 44 1) 0 then
 some (some (.inl 0), M)
 else
 (if ¬ eq32 (M 44 2) (M 7 9) then
 some (some (.inl 0), M)
 else
 (if ¬ eq32 (M 44 3) (M 7 10) then
 some (some (.inl 0), M)
 else
 some (some (.inl 1), M))) :=
 (show xF (D + 1) 126 [.inr 46, .inr 9] M = xE D 126 0 [.inr 46, .inr 9] [] M from rfl).trans ((x_run D 126 (fun i => C_126.getD i s_none) rfl (fun _ => false) 18 0 [.inr 46, .inr 9] [] M).trans rfl)
set_option maxRecDepth 10000 in
theorem T_Kept_suits_46 (D : Nat)  (M : pM) : xF (D + 1) 126 [.inr 48, .inr 9] M =
 if eq32 (M 46 1) 0 then
 some (some (.inl 0), M)
 else
 (if ¬ eq32 (M 46 2) (M 7 9) then
 some (some (.inl 0), M)
 else
 (if ¬ eq32 (M 46 3) (M 7 10) then
 some (some (.inl 0), M)
 else
 some (some (.inl 1), M))) :=
 (show xF (D + 1) 126 [.inr 48, .inr 9] M = xE D 126 0 [.inr 48, .inr 9] [] M from rfl).trans ((x_run D 126 (fun i => C_126.getD i s_none) rfl (fun _ => false) 18 0 [.inr 48, .inr 9] [] M).trans rfl)
set_option maxRecDepth 10000 in
theorem T_Numbers_start (D : Nat)  (M : pM) : xF (D + 1) 127 [.inr 7] M =
 some (none, pset M 5 1 0) :=
 (show xF (D + 1) 127 [.inr 7] M = xE D 127 0 [.inr 7] [] M from rfl).trans ((x_run D 127 (fun i => C_127.getD i s_none) rfl (fun _ => false) 5 0 [.inr 7] [] M).trans rfl)
set_option maxRecDepth 10000 in
theorem T_Numbers_tell (D : Nat) (b : Int) (M : pM) : xF (D + 1) 128 [.inr 7, .inl b] M =
 if lt32 (M 5 1) 0 then
 some (none, M)
 else
 (if le32 12 (M 5 1) then
 some (none, M)
 else
 (if 0 ≤ M 5 1 ∧ M 5 1 < 12 then
 some (none, pset (pset M 6 ((M 5 1).toNat) b) 5 1 (((pset M 6 ((M 5 1).toNat) b) 5 1) + 1))
 else none)) :=
 (show xF (D + 1) 128 [.inr 7, .inl b] M = xE D 128 0 [.inr 7, .inl b] [] M from rfl).trans ((x_run D 128 (fun i => C_128.getD i s_none) rfl (fun _ => false) 23 0 [.inr 7, .inl b] [] M).trans rfl)
set_option maxRecDepth 10000 in
theorem T_Past_forget (D : Nat)  (M : pM) : xF (D + 1) 129 [.inr 41] M =
 some (none, pset M 39 3 0) :=
 (show xF (D + 1) 129 [.inr 41] M = xE D 129 0 [.inr 41] [] M from rfl).trans ((x_run D 129 (fun i => C_129.getD i s_none) rfl (fun _ => false) 5 0 [.inr 41] [] M).trans rfl)
set_option maxRecDepth 10000 in
theorem T_Past_add (D : Nat) (b : Int) (c : Int) (d : Int) (M : pM) : xF (D + 1) 130 [.inr 41, .inl b, .inl c, .inl d] M =
 if lt32 (M 39 3) 20 then
 (if lt32 (M 39 3) 0 then
 some (none, M)
 else
 (if le32 20 (M 39 3) then
 some (none, M)
 else
 (if 0 ≤ M 39 3 ∧ M 39 3 < 20 then
 if 0 ≤ (pset M 40 ((M 39 3).toNat) b) 39 3 ∧ (pset M 40 ((M 39 3).toNat) b) 39 3 < 20 then
 if 0 ≤ (pset (pset M 40 ((M 39 3).toNat) b) 41 (((pset M 40 ((M 39 3).toNat) b) 39 3).toNat) c) 39 3 ∧ (pset (pset M 40 ((M 39 3).toNat) b) 41 (((pset M 40 ((M 39 3).toNat) b) 39 3).toNat) c) 39 3 < 20 then
 some (none, pset (pset (pset (pset M 40 ((M 39 3).toNat) b) 41 (((pset M 40 ((M 39 3).toNat) b) 39 3).toNat) c) 42 (((pset (pset M 40 ((M 39 3).toNat) b) 41 (((pset M 40 ((M 39 3).toNat) b) 39 3).toNat) c) 39 3).toNat) d) 39 3 (((pset (pset (pset M 40 ((M 39 3).toNat) b) 41 (((pset M 40 ((M 39 3).toNat) b) 39 3).toNat) c) 42 (((pset (pset M 40 ((M 39 3).toNat) b) 41 (((pset M 40 ((M 39 3).toNat) b) 39 3).toNat) c) 39 3).toNat) d) 39 3) + 1))
 else none
 else none
 else none)))
 else
 (pbN (xF D 131 [.inr 41] M) fun M1 =>
 if lt32 (M1 39 3) 0 then
 some (none, M1)
 else
 (if le32 20 (M1 39 3) then
 some (none, M1)
 else
 (if 0 ≤ M1 39 3 ∧ M1 39 3 < 20 then
 if 0 ≤ (pset M1 40 ((M1 39 3).toNat) b) 39 3 ∧ (pset M1 40 ((M1 39 3).toNat) b) 39 3 < 20 then
 if 0 ≤ (pset (pset M1 40 ((M1 39 3).toNat) b) 41 (((pset M1 40 ((M1 39 3).toNat) b) 39 3).toNat) c) 39 3 ∧ (pset (pset M1 40 ((M1 39 3).toNat) b) 41 (((pset M1 40 ((M1 39 3).toNat) b) 39 3).toNat) c) 39 3 < 20 then
 some (none, pset (pset (pset (pset M1 40 ((M1 39 3).toNat) b) 41 (((pset M1 40 ((M1 39 3).toNat) b) 39 3).toNat) c) 42 (((pset (pset M1 40 ((M1 39 3).toNat) b) 41 (((pset M1 40 ((M1 39 3).toNat) b) 39 3).toNat) c) 39 3).toNat) d) 39 3 (((pset (pset (pset M1 40 ((M1 39 3).toNat) b) 41 (((pset M1 40 ((M1 39 3).toNat) b) 39 3).toNat) c) 42 (((pset (pset M1 40 ((M1 39 3).toNat) b) 41 (((pset M1 40 ((M1 39 3).toNat) b) 39 3).toNat) c) 39 3).toNat) d) 39 3) + 1))
 else none
 else none
 else none))) :=
 (show xF (D + 1) 130 [.inr 41, .inl b, .inl c, .inl d] M = xE D 130 0 [.inr 41, .inl b, .inl c, .inl d] [] M from rfl).trans ((x_run D 130 (fun i => C_130.getD i s_none) rfl (fun _ => false) 39 0 [.inr 41, .inl b, .inl c, .inl d] [] M).trans rfl)
set_option maxRecDepth 10000 in
theorem T_Past_dropFirst (D : Nat)  (M : pM) : xF (D + 1) 131 [.inr 41] M =
 xE D 131 2 [.inr 41, .inl 1] [] M :=
 (show xF (D + 1) 131 [.inr 41] M = xE D 131 0 [.inr 41, .inr 0] [] M from rfl).trans ((x_run D 131 (fun i => C_131.getD i s_none) rfl (fun i => Nat.beq i 2) 42 0 [.inr 41, .inr 0] [] M).trans rfl)
set_option maxRecDepth 10000 in
theorem L_Past_dropFirst_2 (D : Nat) (x1 : Int) (M : pM) : xE D 131 2 [.inr 41, .inl x1] [] M =
 if le32 20 x1 then
 some (none, pset M 39 3 19)
 else
 (if 0 ≤ x1 ∧ x1 < 20 then
 if 0 ≤ x1 - 1 ∧ x1 - 1 < 20 then
 if 0 ≤ x1 ∧ x1 < 20 then
 if 0 ≤ x1 - 1 ∧ x1 - 1 < 20 then
 if 0 ≤ x1 ∧ x1 < 20 then
 if 0 ≤ x1 - 1 ∧ x1 - 1 < 20 then
 xE D 131 2 [.inr 41, .inl (x1 + 1)] [] (pset (pset (pset M 40 ((x1 - 1).toNat) (M 40 x1.toNat)) 41 ((x1 - 1).toNat) ((pset M 40 ((x1 - 1).toNat) (M 40 x1.toNat)) 41 x1.toNat)) 42 ((x1 - 1).toNat) ((pset (pset M 40 ((x1 - 1).toNat) (M 40 x1.toNat)) 41 ((x1 - 1).toNat) ((pset M 40 ((x1 - 1).toNat) (M 40 x1.toNat)) 41 x1.toNat)) 42 x1.toNat))
 else none
 else none
 else none
 else none
 else none
 else none) :=
 (x_run D 131 (fun i => C_131.getD i s_none) rfl (fun i => Nat.beq i 2) 42 2 [.inr 41, .inl x1] [] M).trans rfl
set_option maxRecDepth 10000 in
theorem T_Reader_start_3 (D : Nat) (b : Int) (M : pM) : xF (D + 1) 132 [.inr 5, .inl b] M =
 some (none, pset (pset (pset M 3 1 0) 3 3 (-1)) 3 2 (jmin ((pset (pset M 3 1 0) 3 3 (-1)) 1 1) b)) :=
 (show xF (D + 1) 132 [.inr 5, .inl b] M = xE D 132 0 [.inr 5, .inl b] [] M from rfl).trans ((x_run D 132 (fun i => C_132.getD i s_none) rfl (fun _ => false) 15 0 [.inr 5, .inl b] [] M).trans rfl)
set_option maxRecDepth 10000 in
theorem T_Reader_peek_3 (D : Nat)  (M : pM) : xF (D + 1) 133 [.inr 5] M =
 if ¬ eq32 (M 3 3) (-1) then
 some (some (.inl (-1)), M)
 else
 (if lt32 (M 3 1) 0 then
 some (some (.inl (-1)), M)
 else
 (if le32 (M 3 2) (M 3 1) then
 some (some (.inl (-1)), M)
 else
 (if le32 80 (M 3 1) then
 some (some (.inl (-1)), M)
 else
 (if 0 ≤ M 3 1 ∧ M 3 1 < 80 then
 some (some (.inl (M 2 ((M 3 1).toNat))), M)
 else none)))) :=
 (show xF (D + 1) 133 [.inr 5] M = xE D 133 0 [.inr 5] [] M from rfl).trans ((x_run D 133 (fun i => C_133.getD i s_none) rfl (fun _ => false) 29 0 [.inr 5] [] M).trans rfl)
set_option maxRecDepth 10000 in
theorem T_Reader_goesOn_3 (D : Nat)  (M : pM) : xF (D + 1) 134 [.inr 5] M =
 if ¬ eq32 (M 3 3) (-1) then
 some (some (.inl 0), M)
 else
 (if le32 (M 3 2) (M 3 1) then
 some (some (.inl 0), M)
 else
 some (some (.inl 1), M)) :=
 (show xF (D + 1) 134 [.inr 5] M = xE D 134 0 [.inr 5] [] M from rfl).trans ((x_run D 134 (fun i => C_134.getD i s_none) rfl (fun _ => false) 14 0 [.inr 5] [] M).trans rfl)
set_option maxRecDepth 10000 in
theorem T_Reader_fail_3 (D : Nat) (b : Int) (M : pM) : xF (D + 1) 135 [.inr 5, .inl b] M =
 if ¬ eq32 (M 3 3) (-1) then
 some (none, M)
 else
 some (none, pset M 3 3 b) :=
 (show xF (D + 1) 135 [.inr 5, .inl b] M = xE D 135 0 [.inr 5, .inl b] [] M from rfl).trans ((x_run D 135 (fun i => C_135.getD i s_none) rfl (fun _ => false) 9 0 [.inr 5, .inl b] [] M).trans rfl)
set_option maxRecDepth 10000 in
theorem T_Reader_fault (D : Nat)  (M : pM) : xF (D + 1) 136 [.inr 5] M =
 if ¬ eq32 (M 3 3) (-1) then
 some (some (.inl (M 3 3)), M)
 else
 (if le32 (M 1 1) (M 3 2) then
 some (some (.inl (M 3 3)), M)
 else
 some (some (.inl (M 3 2)), M)) :=
 (show xF (D + 1) 136 [.inr 5] M = xE D 136 0 [.inr 5] [] M from rfl).trans ((x_run D 136 (fun i => C_136.getD i s_none) rfl (fun _ => false) 17 0 [.inr 5] [] M).trans rfl)
set_option maxRecDepth 10000 in
theorem T_Reader_take_3 (D : Nat) (b : Int) (M : pM) : xF (D + 1) 137 [.inr 5, .inl b] M =
 if ¬ eq32 (M 3 3) (-1) then
 (pbN (xF D 135 [.inr 5, .inl (M 3 1)] M) fun M1 =>
 some (none, M1))
 else
 (pbI (xF D 133 [.inr 5] M) fun v3 M2 =>
 if ¬ eq32 v3 b then
 (pbN (xF D 135 [.inr 5, .inl (M2 3 1)] M2) fun M4 =>
 some (none, M4))
 else
 some (none, pset M2 3 1 ((M2 3 1) + 1))) :=
 (show xF (D + 1) 137 [.inr 5, .inl b] M = xE D 137 0 [.inr 5, .inl b] [] M from rfl).trans ((x_run D 137 (fun i => C_137.getD i s_none) rfl (fun _ => false) 21 0 [.inr 5, .inl b] [] M).trans rfl)
set_option maxRecDepth 10000 in
theorem T_Reader_seesDigit_3 (D : Nat)  (M : pM) : xF (D + 1) 138 [.inr 5] M =
 pbI (xF D 133 [.inr 5] M) fun v2 M1 =>
 if lt32 v2 48 then
 some (some (.inl 0), M1)
 else
 (if lt32 57 v2 then
 some (some (.inl 0), M1)
 else
 some (some (.inl 1), M1)) :=
 (show xF (D + 1) 138 [.inr 5] M = xE D 138 0 [.inr 5, .inr 0] [] M from rfl).trans ((x_run D 138 (fun i => C_138.getD i s_none) rfl (fun _ => false) 14 0 [.inr 5, .inr 0] [] M).trans rfl)
set_option maxRecDepth 10000 in
theorem T_Reader_digit_3 (D : Nat) (b : Int) (c : Int) (M : pM) : xF (D + 1) 139 [.inr 5, .inl b, .inl c] M =
 pbI (xF D 133 [.inr 5] M) fun v2 M1 =>
 pbI (xF D 141 [.inr 5, .inl (v2 - 48), .inl b, .inl c] M1) fun v4 M3 =>
 some (some (.inl v4), M3) :=
 (show xF (D + 1) 139 [.inr 5, .inl b, .inl c] M = xE D 139 0 [.inr 5, .inl b, .inl c] [] M from rfl).trans ((x_run D 139 (fun i => C_139.getD i s_none) rfl (fun _ => false) 10 0 [.inr 5, .inl b, .inl c] [] M).trans rfl)
set_option maxRecDepth 10000 in
theorem T_Reader_letter (D : Nat) (b : Int) (c : Int) (M : pM) : xF (D + 1) 140 [.inr 5, .inl b, .inl c] M =
 pbI (xF D 133 [.inr 5] M) fun v2 M1 =>
 pbI (xF D 141 [.inr 5, .inl (v2 - 97), .inl b, .inl c] M1) fun v4 M3 =>
 some (some (.inl v4), M3) :=
 (show xF (D + 1) 140 [.inr 5, .inl b, .inl c] M = xE D 140 0 [.inr 5, .inl b, .inl c] [] M from rfl).trans ((x_run D 140 (fun i => C_140.getD i s_none) rfl (fun _ => false) 10 0 [.inr 5, .inl b, .inl c] [] M).trans rfl)
set_option maxRecDepth 10000 in
theorem T_Reader_counted_3 (D : Nat) (b : Int) (c : Int) (d : Int) (M : pM) : xF (D + 1) 141 [.inr 5, .inl b, .inl c, .inl d] M =
 if lt32 b c then
 (pbN (xF D 135 [.inr 5, .inl (M 3 1)] M) fun M1 =>
 some (some (.inl (-1)), M1))
 else
 (if lt32 b d then
 some (some (.inl b), pset M 3 1 ((M 3 1) + 1))
 else
 (pbN (xF D 135 [.inr 5, .inl (M 3 1)] M) fun M2 =>
 some (some (.inl (-1)), M2))) :=
 (show xF (D + 1) 141 [.inr 5, .inl b, .inl c, .inl d] M = xE D 141 0 [.inr 5, .inl b, .inl c, .inl d] [] M from rfl).trans ((x_run D 141 (fun i => C_141.getD i s_none) rfl (fun _ => false) 21 0 [.inr 5, .inl b, .inl c, .inl d] [] M).trans rfl)
set_option maxRecDepth 10000 in
theorem T_Reader_inches (D : Nat)  (M : pM) : xF (D + 1) 142 [.inr 5] M =
 pbI (xF D 139 [.inr 5, .inl 0, .inl 10] M) fun v2 M1 =>
 pbI (xF D 138 [.inr 5] M1) fun v4 M3 =>
 if eq32 v4 0 then
 (if ¬ eq32 v2 0 then
 some (some (.inl v2), M3)
 else
 (pbN (xF D 135 [.inr 5, .inl ((M3 3 1) - 1)] M3) fun M5 =>
 some (some (.inl v2), M5)))
 else
 (pbI (xF D 139 [.inr 5, .inl 0, .inl 10] M3) fun v7 M6 =>
 if ¬ eq32 ((v2 * 10) + v7) 0 then
 some (some (.inl ((v2 * 10) + v7)), M6)
 else
 (pbN (xF D 135 [.inr 5, .inl ((M6 3 1) - 1)] M6) fun M8 =>
 some (some (.inl ((v2 * 10) + v7)), M8))) :=
 (show xF (D + 1) 142 [.inr 5] M = xE D 142 0 [.inr 5, .inr 0] [] M from rfl).trans ((x_run D 142 (fun i => C_142.getD i s_none) rfl (fun _ => false) 28 0 [.inr 5, .inr 0] [] M).trans rfl)
