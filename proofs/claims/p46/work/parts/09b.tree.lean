/-! the equations of the methods (by program) -/
set_option maxRecDepth 10000 in
theorem T_Text_append (D : Nat) (b : Int) (M : pM) : xF (D + 1) 152 [.inr 3, .inl b] M =
 if lt32 (M 1 1) 0 then
 some (some (.inl 0), M)
 else
 (if le32 ((M 1 1) + 4) 80 then
 xE D 152 13 [.inr 3, .inl b, .inl 24] [] M
 else
 some (some (.inl 0), M)) :=
 (show xF (D + 1) 152 [.inr 3, .inl b] M = xE D 152 0 [.inr 3, .inl b, .inr 0] [] M from rfl).trans ((x_run D 152 (fun i => C_152.getD i s_none) rfl (fun i => Nat.beq i 13) 36 0 [.inr 3, .inl b, .inr 0] [] M).trans rfl)
set_option maxRecDepth 10000 in
theorem L_Text_append_13 (D : Nat) (x1 : Int) (x2 : Int) (M : pM) : xE D 152 13 [.inr 3, .inl x1, .inl x2] [] M =
 if lt32 x2 0 then
 some (some (.inl 1), M)
 else
 (if 0 ≤ M 1 1 ∧ M 1 1 < 80 then
 xE D 152 13 [.inr 3, .inl x1, .inl (x2 + (-8))] [] (pset (pset M 2 ((M 1 1).toNat) (jand (jushr x1 x2) 255)) 1 1 (((pset M 2 ((M 1 1).toNat) (jand (jushr x1 x2) 255)) 1 1) + 1))
 else none) :=
 (x_run D 152 (fun i => C_152.getD i s_none) rfl (fun i => Nat.beq i 13) 36 13 [.inr 3, .inl x1, .inl x2] [] M).trans rfl
set_option maxRecDepth 10000 in
theorem T_Text_cut (D : Nat) (b : Int) (M : pM) : xF (D + 1) 153 [.inr 3, .inl b] M =
 if lt32 b 0 then
 some (some (.inl 0), M)
 else
 (if le32 b (M 1 1) then
 some (some (.inl 1), pset M 1 1 b)
 else
 some (some (.inl 0), M)) :=
 (show xF (D + 1) 153 [.inr 3, .inl b] M = xE D 153 0 [.inr 3, .inl b] [] M from rfl).trans ((x_run D 153 (fun i => C_153.getD i s_none) rfl (fun _ => false) 14 0 [.inr 3, .inl b] [] M).trans rfl)
set_option maxRecDepth 10000 in
theorem T_Text_at (D : Nat) (b : Int) (M : pM) : xF (D + 1) 154 [.inr 3, .inl b] M =
 if lt32 b 0 then
 some (some (.inl (-1)), M)
 else
 (if le32 (M 1 1) b then
 some (some (.inl (-1)), M)
 else
 (pbI (xF D 47 [.inr 4, .inl b] M) fun v2 M1 =>
 some (some (.inl v2), M1))) :=
 (show xF (D + 1) 154 [.inr 3, .inl b] M = xE D 154 0 [.inr 3, .inl b] [] M from rfl).trans ((x_run D 154 (fun i => C_154.getD i s_none) rfl (fun _ => false) 14 0 [.inr 3, .inl b] [] M).trans rfl)
set_option maxRecDepth 10000 in
theorem T_M_in (D : Nat) (a : Int) (b : Int) (c : Int) (M : pM) : xF (D + 1) 169 [.inl a, .inl b, .inl c] M =
 if lt32 a b then
 some (some (.inl 0), M)
 else
 (if lt32 c a then
 some (some (.inl 0), M)
 else
 some (some (.inl 1), M)) :=
 (show xF (D + 1) 169 [.inl a, .inl b, .inl c] M = xE D 169 0 [.inl a, .inl b, .inl c] [] M from rfl).trans ((x_run D 169 (fun i => C_169.getD i s_none) rfl (fun _ => false) 11 0 [.inl a, .inl b, .inl c] [] M).trans rfl)
set_option maxRecDepth 10000 in
theorem T_M_has (D : Nat) (a : Int) (b : Int) (M : pM) : xF (D + 1) 170 [.inl a, .inl b] M =
 if ¬ eq32 (jand (jshr a b) 1) 1 then
 some (some (.inl 0), M)
 else
 some (some (.inl 1), M) :=
 (show xF (D + 1) 170 [.inl a, .inl b] M = xE D 170 0 [.inl a, .inl b] [] M from rfl).trans ((x_run D 170 (fun i => C_170.getD i s_none) rfl (fun _ => false) 12 0 [.inl a, .inl b] [] M).trans rfl)
set_option maxRecDepth 10000 in
theorem T_M_tell (D : Nat) (b : Int) (M : pM) : xF (D + 1) 172 [.inr 62, .inl b] M =
 if 0 ≤ M 60 16 ∧ M 60 16 < 16 then
 some (none, pset (pset M 69 ((M 60 16).toNat) b) 60 16 (((pset M 69 ((M 60 16).toNat) b) 60 16) + 1))
 else none :=
 (show xF (D + 1) 172 [.inr 62, .inl b] M = xE D 172 0 [.inr 62, .inl b] [] M from rfl).trans ((x_run D 172 (fun i => C_172.getD i s_none) rfl (fun _ => false) 14 0 [.inr 62, .inl b] [] M).trans rfl)
set_option maxRecDepth 10000 in
theorem T_M_isRoom (D : Nat) (b : Int) (M : pM) : xF (D + 1) 173 [.inr 62, .inl b] M =
 pbI (xF D 169 [.inl b, .inl 0, .inl ((M 60 0) - 1)] M) fun v2 M1 =>
 if v2 = 0 ∨ v2 = 1 then some (some (.inl v2), M1) else none :=
 (show xF (D + 1) 173 [.inr 62, .inl b] M = xE D 173 0 [.inr 62, .inl b] [] M from rfl).trans ((x_run D 173 (fun i => C_173.getD i s_none) rfl (fun _ => false) 9 0 [.inr 62, .inl b] [] M).trans rfl)
set_option maxRecDepth 10000 in
theorem T_M_isThing (D : Nat) (b : Int) (M : pM) : xF (D + 1) 174 [.inr 62, .inl b] M =
 pbI (xF D 169 [.inl b, .inl 0, .inl ((M 60 3) - 1)] M) fun v2 M1 =>
 if v2 = 0 ∨ v2 = 1 then some (some (.inl v2), M1) else none :=
 (show xF (D + 1) 174 [.inr 62, .inl b] M = xE D 174 0 [.inr 62, .inl b] [] M from rfl).trans ((x_run D 174 (fun i => C_174.getD i s_none) rfl (fun _ => false) 9 0 [.inr 62, .inl b] [] M).trans rfl)
set_option maxRecDepth 10000 in
theorem T_M_sign (D : Nat) (b : Int) (M : pM) : xF (D + 1) 175 [.inr 62, .inl b] M =
 if le32 (((pset M 60 17 0) 60 14) + 4) 80 then
 xE D 175 13 [.inr 62, .inl b, .inl 3] [] (pset M 60 17 0)
 else
 some (some (.inl (-1)), pset M 60 17 0) :=
 (show xF (D + 1) 175 [.inr 62, .inl b] M = xE D 175 0 [.inr 62, .inl b, .inr 0] [] M from rfl).trans ((x_run D 175 (fun i => C_175.getD i s_none) rfl (fun i => Nat.beq i 13) 37 0 [.inr 62, .inl b, .inr 0] [] M).trans rfl)
set_option maxRecDepth 10000 in
theorem L_M_sign_13 (D : Nat) (x1 : Int) (x2 : Int) (M : pM) : xE D 175 13 [.inr 62, .inl x1, .inl x2] [] M =
 if lt32 x2 0 then
 some (some (.inl (M 60 14)), M)
 else
 (if 0 ≤ M 60 14 ∧ M 60 14 < 80 then
 xE D 175 13 [.inr 62, .inl x1, .inl (x2 + (-1))] [] (pset (pset M 60 14 ((M 60 14) + 1)) 68 ((M 60 14).toNat) (jb (jb (jshr x1 (8 * x2)))))
 else none) :=
 (x_run D 175 (fun i => C_175.getD i s_none) rfl (fun i => Nat.beq i 13) 37 13 [.inr 62, .inl x1, .inl x2] [] M).trans rfl
set_option maxRecDepth 10000 in
theorem T_M_end (D : Nat) (b : Int) (M : pM) : xF (D + 1) 176 [.inr 62, .inl b] M =
 pbI (xF D 169 [.inl b, .inl 0, .inl ((pset M 60 17 0) 60 14)] (pset M 60 17 0)) fun v2 M1 =>
 if ¬ eq32 v2 0 then
 some (some (.inl 1), pset M1 60 14 b)
 else
 some (some (.inl 0), M1) :=
 (show xF (D + 1) 176 [.inr 62, .inl b] M = xE D 176 0 [.inr 62, .inl b] [] M from rfl).trans ((x_run D 176 (fun i => C_176.getD i s_none) rfl (fun _ => false) 17 0 [.inr 62, .inl b] [] M).trans rfl)
set_option maxRecDepth 10000 in
theorem T_M_begin_68 (D : Nat) (c : Int) (d : Int) (M : pM) : xF (D + 1) 177 [.inr 62, .inr 70, .inl c, .inl d] M =
 some (none, pset (pset (pset (pset (pset M 60 18 70) 60 19 c) 60 20 d) 60 21 0) 60 22 (-1)) :=
 (show xF (D + 1) 177 [.inr 62, .inr 70, .inl c, .inl d] M = xE D 177 0 [.inr 62, .inr 70, .inl c, .inl d] [] M from rfl).trans ((x_run D 177 (fun i => C_177.getD i s_none) rfl (fun _ => false) 17 0 [.inr 62, .inr 70, .inl c, .inl d] [] M).trans rfl)
set_option maxRecDepth 10000 in
theorem T_M_here (D : Nat)  (M : pM) : xF (D + 1) 178 [.inr 62] M =
 if le32 (M 60 19) (M 60 21) then
 some (some (.inl (-1)), M)
 else
 (if le32 (M 60 20) (M 60 21) then
 some (some (.inl (-1)), M)
 else
 xE D 178 12 [.inr 62] [.inr ((M 60 18).toNat)] M) :=
 (show xF (D + 1) 178 [.inr 62] M = xE D 178 0 [.inr 62] [] M from rfl).trans ((x_run D 178 (fun i => C_178.getD i s_none) rfl (fun i => Nat.beq i 12) 19 0 [.inr 62] [] M).trans rfl)
set_option maxRecDepth 10000 in
theorem T_M_fine (D : Nat)  (M : pM) : xF (D + 1) 179 [.inr 62] M =
 if ¬ eq32 (M 60 22) (-1) then
 some (some (.inl 0), M)
 else
 some (some (.inl 1), M) :=
 (show xF (D + 1) 179 [.inr 62] M = xE D 179 0 [.inr 62] [] M from rfl).trans ((x_run D 179 (fun i => C_179.getD i s_none) rfl (fun _ => false) 9 0 [.inr 62] [] M).trans rfl)
set_option maxRecDepth 10000 in
theorem T_M_fault (D : Nat) (b : Int) (M : pM) : xF (D + 1) 180 [.inr 62, .inl b] M =
 pbI (xF D 179 [.inr 62] M) fun v2 M1 =>
 if eq32 v2 0 then
 some (none, M1)
 else
 some (none, pset M1 60 22 b) :=
 (show xF (D + 1) 180 [.inr 62, .inl b] M = xE D 180 0 [.inr 62, .inl b] [] M from rfl).trans ((x_run D 180 (fun i => C_180.getD i s_none) rfl (fun _ => false) 8 0 [.inr 62, .inl b] [] M).trans rfl)
set_option maxRecDepth 10000 in
theorem T_M_passes (D : Nat) (b : Int) (M : pM) : xF (D + 1) 181 [.inr 62, .inl b] M =
 pbI (xF D 179 [.inr 62] M) fun v2 M1 =>
 if eq32 v2 0 then
 some (some (.inl 0), M1)
 else
 (pbI (xF D 178 [.inr 62] M1) fun v4 M3 =>
 if eq32 v4 b then
 some (some (.inl 1), pset M3 60 21 ((M3 60 21) + 1))
 else
 some (some (.inl 0), M3)) :=
 (show xF (D + 1) 181 [.inr 62, .inl b] M = xE D 181 0 [.inr 62, .inl b] [] M from rfl).trans ((x_run D 181 (fun i => C_181.getD i s_none) rfl (fun _ => false) 18 0 [.inr 62, .inl b] [] M).trans rfl)
set_option maxRecDepth 10000 in
theorem T_M_need (D : Nat) (b : Int) (M : pM) : xF (D + 1) 182 [.inr 62, .inl b] M =
 pbI (xF D 181 [.inr 62, .inl b] M) fun v2 M1 =>
 if ¬ eq32 v2 0 then
 some (none, M1)
 else
 (pbN (xF D 180 [.inr 62, .inl (M1 60 21)] M1) fun M3 =>
 some (none, M3)) :=
 (show xF (D + 1) 182 [.inr 62, .inl b] M = xE D 182 0 [.inr 62, .inl b] [] M from rfl).trans ((x_run D 182 (fun i => C_182.getD i s_none) rfl (fun _ => false) 10 0 [.inr 62, .inl b] [] M).trans rfl)
set_option maxRecDepth 10000 in
theorem T_M_number (D : Nat) (b : Int) (c : Int) (d : Int) (M : pM) : xF (D + 1) 183 [.inr 62, .inl b, .inl c, .inl d] M =
 pbI (xF D 179 [.inr 62] M) fun v2 M1 =>
 if ¬ eq32 v2 0 then
 xE D 183 10 [.inr 62, .inl b, .inl c, .inl d, .inl (M1 60 21), .inl 0] [] M1
 else
 some (some (.inl 0), M1) :=
 (show xF (D + 1) 183 [.inr 62, .inl b, .inl c, .inl d] M = xE D 183 0 [.inr 62, .inl b, .inl c, .inl d, .inr 0, .inr 0] [] M from rfl).trans ((x_run D 183 (fun i => C_183.getD i s_none) rfl (fun i => Nat.beq i 10) 66 0 [.inr 62, .inl b, .inl c, .inl d, .inr 0, .inr 0] [] M).trans rfl)
set_option maxRecDepth 10000 in
theorem L_M_number_10 (D : Nat) (x1 : Int) (x2 : Int) (x3 : Int) (x4 : Int) (x5 : Int) (M : pM) : xE D 183 10 [.inr 62, .inl x1, .inl x2, .inl x3, .inl x4, .inl x5] [] M =
 if le32 (x4 + x1) (M 60 21) then
 (if ¬ eq32 (M 60 21) x4 then
 (pbI (xF D 169 [.inl x5, .inl x2, .inl x3] M) fun v2 M1 =>
 if ¬ eq32 v2 0 then
 (pbI (xF D 179 [.inr 62] M1) fun v4 M3 =>
 if eq32 v4 0 then
 some (some (.inl 0), M3)
 else
 some (some (.inl x5), M3))
 else
 (pbN (xF D 180 [.inr 62, .inl ((M1 60 21) - 1)] M1) fun M5 =>
 pbI (xF D 179 [.inr 62] M5) fun v7 M6 =>
 if eq32 v7 0 then
 some (some (.inl 0), M6)
 else
 some (some (.inl x5), M6)))
 else
 (pbN (xF D 180 [.inr 62, .inl (M 60 21)] M) fun M8 =>
 pbI (xF D 179 [.inr 62] M8) fun v10 M9 =>
 if eq32 v10 0 then
 some (some (.inl 0), M9)
 else
 some (some (.inl x5), M9)))
 else
 (pbI (xF D 178 [.inr 62] M) fun v12 M11 =>
 pbI (xF D 169 [.inl v12, .inl 48, .inl 57] M11) fun v14 M13 =>
 if eq32 v14 0 then
 (if ¬ eq32 (M13 60 21) x4 then
 (pbI (xF D 169 [.inl x5, .inl x2, .inl x3] M13) fun v16 M15 =>
 if ¬ eq32 v16 0 then
 (pbI (xF D 179 [.inr 62] M15) fun v18 M17 =>
 if eq32 v18 0 then
 some (some (.inl 0), M17)
 else
 some (some (.inl x5), M17))
 else
 (pbN (xF D 180 [.inr 62, .inl ((M15 60 21) - 1)] M15) fun M19 =>
 pbI (xF D 179 [.inr 62] M19) fun v21 M20 =>
 if eq32 v21 0 then
 some (some (.inl 0), M20)
 else
 some (some (.inl x5), M20)))
 else
 (pbN (xF D 180 [.inr 62, .inl (M13 60 21)] M13) fun M22 =>
 pbI (xF D 179 [.inr 62] M22) fun v24 M23 =>
 if eq32 v24 0 then
 some (some (.inl 0), M23)
 else
 some (some (.inl x5), M23)))
 else
 (pbI (xF D 178 [.inr 62] M13) fun v26 M25 =>
 xE D 183 10 [.inr 62, .inl x1, .inl x2, .inl x3, .inl x4, .inl (((10 * x5) + v26) - 48)] [] (pset M25 60 21 ((M25 60 21) + 1)))) :=
 (x_run D 183 (fun i => C_183.getD i s_none) rfl (fun i => Nat.beq i 10) 66 10 [.inr 62, .inl x1, .inl x2, .inl x3, .inl x4, .inl x5] [] M).trans rfl
set_option maxRecDepth 10000 in
theorem T_M_house (D : Nat)  (M : pM) : xF (D + 1) 184 [.inr 62] M =
 pbN (xF D 177 [.inr 62, .inr 70, .inl ((pset M 60 17 0) 60 14), .inl 76] (pset M 60 17 0)) fun M1 =>
 if ¬ eq32 ((pset M1 60 14 0) 60 19) 0 then
 xE D 184 33 [.inr 62, .inl ((pset M1 60 14 0) 60 0), .inl ((pset M1 60 14 0) 60 3), .inl ((pset M1 60 14 0) 60 8), .inl 0, .inl 0, .inl 1, .inr 0, .inr 0] [] (pset M1 60 14 0)
 else
 some (some (.inl 0), pset M1 60 14 0) :=
 (show xF (D + 1) 184 [.inr 62] M = xE D 184 0 [.inr 62, .inr 0, .inr 0, .inr 0, .inr 0, .inr 0, .inr 0, .inr 0, .inr 0] [] M from rfl).trans ((x_run D 184 (fun i => C_184.getD i s_none) rfl (fun i => Nat.beq i 33 || Nat.beq i 199 || Nat.beq i 204 || Nat.beq i 231) 289 0 [.inr 62, .inr 0, .inr 0, .inr 0, .inr 0, .inr 0, .inr 0, .inr 0, .inr 0] [] M).trans rfl)
set_option maxRecDepth 10000 in
theorem L_M_house_33 (D : Nat) (x1 : Int) (x2 : Int) (x3 : Int) (x4 : Int) (x5 : Int) (x6 : Int) (yx7 : pV) (yx8 : pV) (M : pM) : xE D 184 33 [.inr 62, .inl x1, .inl x2, .inl x3, .inl x4, .inl x5, .inl x6, yx7, yx8] [] M =
 if eq32 x6 0 then
 (if le32 (M 60 19) (M 60 21) then
 (pbI (xF D 179 [.inr 62] M) fun v2 M1 =>
 if ¬ eq32 v2 0 then
 xE D 184 199 [.inr 62, .inl x1, .inl x2, .inl x3, .inl x4, .inl x5, .inl x6, .inl (M1 60 0), yx8] [] M1
 else
 some (some (.inl ((-1) - (M1 60 22))), M1))
 else
 (pbN (xF D 180 [.inr 62, .inl (M 60 21)] M) fun M3 =>
 pbI (xF D 179 [.inr 62] M3) fun v5 M4 =>
 if ¬ eq32 v5 0 then
 xE D 184 199 [.inr 62, .inl x1, .inl x2, .inl x3, .inl x4, .inl x5, .inl x6, .inl (M4 60 0), yx8] [] M4
 else
 some (some (.inl ((-1) - (M4 60 22))), M4)))
 else
 (pbI (xF D 179 [.inr 62] M) fun v7 M6 =>
 if eq32 v7 0 then
 (if le32 (M6 60 19) (M6 60 21) then
 (pbI (xF D 179 [.inr 62] M6) fun v9 M8 =>
 if ¬ eq32 v9 0 then
 xE D 184 199 [.inr 62, .inl x1, .inl x2, .inl x3, .inl x4, .inl x5, .inl x6, .inl (M8 60 0), yx8] [] M8
 else
 some (some (.inl ((-1) - (M8 60 22))), M8))
 else
 (pbN (xF D 180 [.inr 62, .inl (M6 60 21)] M6) fun M10 =>
 pbI (xF D 179 [.inr 62] M10) fun v12 M11 =>
 if ¬ eq32 v12 0 then
 xE D 184 199 [.inr 62, .inl x1, .inl x2, .inl x3, .inl x4, .inl x5, .inl x6, .inl (M11 60 0), yx8] [] M11
 else
 some (some (.inl ((-1) - (M11 60 22))), M11)))
 else
 (pbI (xF D 178 [.inr 62] M6) fun v14 M13 =>
 if ¬ eq32 v14 114 then
 (pbI (xF D 178 [.inr 62] M13) fun v16 M15 =>
 if ¬ eq32 v16 100 then
 (pbI (xF D 178 [.inr 62] M15) fun v18 M17 =>
 if ¬ eq32 v18 115 then
 (if ¬ eq32 x2 10 then
 (pbN (xF D 186 [.inr 62, .inl x2, .inl x1] M17) fun M19 =>
 pbI (xF D 181 [.inr 62, .inl 59] M19) fun v21 M20 =>
 xE D 184 33 [.inr 62, .inl x1, .inl (x2 + 1), .inl x3, .inl x4, .inl (x5 + 1), .inl v21, yx7, yx8] [] M20)
 else
 (pbN (xF D 180 [.inr 62, .inl (M17 60 21)] M17) fun M22 =>
 pbI (xF D 181 [.inr 62, .inl 59] M22) fun v24 M23 =>
 xE D 184 33 [.inr 62, .inl x1, .inl x2, .inl x3, .inl x4, .inl (x5 + 1), .inl v24, yx7, yx8] [] M23))
 else
 (if ¬ eq32 x3 8 then
 (pbN (xF D 187 [.inr 62, .inl x3, .inl x2] M17) fun M25 =>
 pbI (xF D 181 [.inr 62, .inl 59] M25) fun v27 M26 =>
 xE D 184 33 [.inr 62, .inl x1, .inl x2, .inl (x3 + 1), .inl x4, .inl (x5 + 1), .inl v27, yx7, yx8] [] M26)
 else
 (pbN (xF D 180 [.inr 62, .inl (M17 60 21)] M17) fun M28 =>
 pbI (xF D 181 [.inr 62, .inl 59] M28) fun v30 M29 =>
 xE D 184 33 [.inr 62, .inl x1, .inl x2, .inl (x3 + 1), .inl x4, .inl (x5 + 1), .inl v30, yx7, yx8] [] M29)))
 else
 (pbI (xF D 183 [.inr 62, .inl 1, .inl 0, .inl (x1 - 1)] (pset M15 60 21 ((M15 60 21) + 1))) fun v32 M31 =>
 pbN (xF D 182 [.inr 62, .inl 45] M31) fun M33 =>
 pbI (xF D 183 [.inr 62, .inl 1, .inl 0, .inl (x1 - 1)] M33) fun v35 M34 =>
 pbI (xF D 179 [.inr 62] M34) fun v37 M36 =>
 if eq32 v37 0 then
 (pbN (xF D 182 [.inr 62, .inl 61] M36) fun M38 =>
 if 0 ≤ 3 * x4 ∧ 3 * x4 < 240 then
 if 0 ≤ (3 * x4) + 1 ∧ (3 * x4) + 1 < 240 then
 pbI (xF D 183 [.inr 62, .inl 1, .inl 1, .inl 9] (pset (pset M38 70 ((3 * x4).toNat) v32) 70 (((3 * x4) + 1).toNat) v35)) fun v40 M39 =>
 if 0 ≤ (3 * x4) + 2 ∧ (3 * x4) + 2 < 240 then
 pbI (xF D 181 [.inr 62, .inl 59] (pset M39 70 (((3 * x4) + 2).toNat) v40)) fun v42 M41 =>
 xE D 184 33 [.inr 62, .inl x1, .inl x2, .inl x3, .inl (x4 + 1), .inl (x5 + 1), .inl v42, .inl v32, .inl v35] [] M41
 else none
 else none
 else none)
 else
 (if ¬ eq32 v32 v35 then
 (pbN (xF D 182 [.inr 62, .inl 61] M36) fun M43 =>
 if 0 ≤ 3 * x4 ∧ 3 * x4 < 240 then
 if 0 ≤ (3 * x4) + 1 ∧ (3 * x4) + 1 < 240 then
 pbI (xF D 183 [.inr 62, .inl 1, .inl 1, .inl 9] (pset (pset M43 70 ((3 * x4).toNat) v32) 70 (((3 * x4) + 1).toNat) v35)) fun v45 M44 =>
 if 0 ≤ (3 * x4) + 2 ∧ (3 * x4) + 2 < 240 then
 pbI (xF D 181 [.inr 62, .inl 59] (pset M44 70 (((3 * x4) + 2).toNat) v45)) fun v47 M46 =>
 xE D 184 33 [.inr 62, .inl x1, .inl x2, .inl x3, .inl (x4 + 1), .inl (x5 + 1), .inl v47, .inl v32, .inl v35] [] M46
 else none
 else none
 else none)
 else
 (pbN (xF D 180 [.inr 62, .inl ((M36 60 21) - 1)] M36) fun M48 =>
 pbN (xF D 182 [.inr 62, .inl 61] M48) fun M49 =>
 if 0 ≤ 3 * x4 ∧ 3 * x4 < 240 then
 if 0 ≤ (3 * x4) + 1 ∧ (3 * x4) + 1 < 240 then
 pbI (xF D 183 [.inr 62, .inl 1, .inl 1, .inl 9] (pset (pset M49 70 ((3 * x4).toNat) v32) 70 (((3 * x4) + 1).toNat) v35)) fun v51 M50 =>
 if 0 ≤ (3 * x4) + 2 ∧ (3 * x4) + 2 < 240 then
 pbI (xF D 181 [.inr 62, .inl 59] (pset M50 70 (((3 * x4) + 2).toNat) v51)) fun v53 M52 =>
 xE D 184 33 [.inr 62, .inl x1, .inl x2, .inl x3, .inl (x4 + 1), .inl (x5 + 1), .inl v53, .inl v32, .inl v35] [] M52
 else none
 else none
 else none))))
 else
 (if ¬ eq32 x1 6 then
 (pbI (xF D 183 [.inr 62, .inl 2, .inl 1, .inl 99] (pset M13 60 21 ((M13 60 21) + 1))) fun v55 M54 =>
 if 0 ≤ x1 ∧ x1 < 6 then
 pbI (xF D 181 [.inr 62, .inl 59] (pset M54 61 x1.toNat v55)) fun v57 M56 =>
 xE D 184 33 [.inr 62, .inl (x1 + 1), .inl x2, .inl x3, .inl x4, .inl (x5 + 1), .inl v57, yx7, yx8] [] M56
 else none)
 else
 (pbN (xF D 180 [.inr 62, .inl (M13 60 21)] M13) fun M58 =>
 pbI (xF D 181 [.inr 62, .inl 59] M58) fun v60 M59 =>
 xE D 184 33 [.inr 62, .inl (x1 + 1), .inl x2, .inl x3, .inl x4, .inl (x5 + 1), .inl v60, yx7, yx8] [] M59)))) :=
 (x_run D 184 (fun i => C_184.getD i s_none) rfl (fun i => Nat.beq i 33 || Nat.beq i 199 || Nat.beq i 204 || Nat.beq i 231) 289 33 [.inr 62, .inl x1, .inl x2, .inl x3, .inl x4, .inl x5, .inl x6, yx7, yx8] [] M).trans rfl
set_option maxRecDepth 10000 in
theorem L_M_house_199 (D : Nat) (x1 : Int) (x2 : Int) (x3 : Int) (x4 : Int) (x5 : Int) (x6 : Int) (x7 : Int) (yx8 : pV) (M : pM) : xE D 184 199 [.inr 62, .inl x1, .inl x2, .inl x3, .inl x4, .inl x5, .inl x6, .inl x7, yx8] [] M =
 if le32 x1 x7 then
 xE D 184 231 [.inr 62, .inl x1, .inl x2, .inl x3, .inl x4, .inl x5, .inl x6, .inl 0, yx8] [] M
 else
 xE D 184 204 [.inr 62, .inl x1, .inl x2, .inl x3, .inl x4, .inl x5, .inl x6, .inl x7, .inl 0] [] M :=
 (x_run D 184 (fun i => C_184.getD i s_none) rfl (fun i => Nat.beq i 33 || Nat.beq i 199 || Nat.beq i 204 || Nat.beq i 231) 289 199 [.inr 62, .inl x1, .inl x2, .inl x3, .inl x4, .inl x5, .inl x6, .inl x7, yx8] [] M).trans rfl
set_option maxRecDepth 10000 in
theorem L_M_house_204 (D : Nat) (x1 : Int) (x2 : Int) (x3 : Int) (x4 : Int) (x5 : Int) (x6 : Int) (x7 : Int) (x8 : Int) (M : pM) : xE D 184 204 [.inr 62, .inl x1, .inl x2, .inl x3, .inl x4, .inl x5, .inl x6, .inl x7, .inl x8] [] M =
 if le32 6 x8 then
 xE D 184 199 [.inr 62, .inl x1, .inl x2, .inl x3, .inl x4, .inl x5, .inl x6, .inl (x7 + 1), .inl x8] [] M
 else
 (if 0 ≤ (6 * x7) + x8 ∧ (6 * x7) + x8 < 36 then
 if 0 ≤ (6 * x8) + x7 ∧ (6 * x8) + x7 < 36 then
 xE D 184 204 [.inr 62, .inl x1, .inl x2, .inl x3, .inl x4, .inl x5, .inl x6, .inl x7, .inl (x8 + 1)] [] (pset (pset M 62 (((6 * x7) + x8).toNat) 0) 62 (((6 * x8) + x7).toNat) 0)
 else none
 else none) :=
 (x_run D 184 (fun i => C_184.getD i s_none) rfl (fun i => Nat.beq i 33 || Nat.beq i 199 || Nat.beq i 204 || Nat.beq i 231) 289 204 [.inr 62, .inl x1, .inl x2, .inl x3, .inl x4, .inl x5, .inl x6, .inl x7, .inl x8] [] M).trans rfl
set_option maxRecDepth 10000 in
theorem L_M_house_231 (D : Nat) (x1 : Int) (x2 : Int) (x3 : Int) (x4 : Int) (x5 : Int) (x6 : Int) (x7 : Int) (yx8 : pV) (M : pM) : xE D 184 231 [.inr 62, .inl x1, .inl x2, .inl x3, .inl x4, .inl x5, .inl x6, .inl x7, yx8] [] M =
 if le32 x4 x7 then
 (if lt32 (M 60 0) x1 then
 some (some (.inl x5), pset (pset (pset (pset (pset M 60 52 ((M 60 52) + 1)) 60 0 x1) 60 3 x2) 60 8 x3) 60 33 0)
 else
 (if le32 x2 (M 60 3) then
 some (some (.inl x5), pset (pset (pset (pset M 60 0 x1) 60 3 x2) 60 8 x3) 60 33 0)
 else
 some (some (.inl x5), pset (pset (pset (pset (pset M 60 52 ((M 60 52) + 1)) 60 0 x1) 60 3 x2) 60 8 x3) 60 33 0)))
 else
 (if 0 ≤ 3 * x7 ∧ 3 * x7 < 240 then
 if 0 ≤ (3 * x7) + 1 ∧ (3 * x7) + 1 < 240 then
 if 0 ≤ (3 * x7) + 2 ∧ (3 * x7) + 2 < 240 then
 pbN (xF D 185 [.inr 62, .inl (M 70 ((3 * x7).toNat)), .inl (M 70 (((3 * x7) + 1).toNat)), .inl (M 70 (((3 * x7) + 2).toNat))] M) fun M1 =>
 xE D 184 231 [.inr 62, .inl x1, .inl x2, .inl x3, .inl x4, .inl x5, .inl x6, .inl (x7 + 1), yx8] [] M1
 else none
 else none
 else none) :=
 (x_run D 184 (fun i => C_184.getD i s_none) rfl (fun i => Nat.beq i 33 || Nat.beq i 199 || Nat.beq i 204 || Nat.beq i 231) 289 231 [.inr 62, .inl x1, .inl x2, .inl x3, .inl x4, .inl x5, .inl x6, .inl x7, yx8] [] M).trans rfl
set_option maxRecDepth 10000 in
theorem T_M_put (D : Nat) (b : Int) (c : Int) (d : Int) (M : pM) : xF (D + 1) 185 [.inr 62, .inl b, .inl c, .inl d] M =
 if 0 ≤ (6 * b) + c ∧ (6 * b) + c < 36 then
 if 0 ≤ (6 * c) + b ∧ (6 * c) + b < 36 then
 some (none, pset (pset M 62 (((6 * b) + c).toNat) d) 62 (((6 * c) + b).toNat) d)
 else none
 else none :=
 (show xF (D + 1) 185 [.inr 62, .inl b, .inl c, .inl d] M = xE D 185 0 [.inr 62, .inl b, .inl c, .inl d] [] M from rfl).trans ((x_run D 185 (fun i => C_185.getD i s_none) rfl (fun _ => false) 20 0 [.inr 62, .inl b, .inl c, .inl d] [] M).trans rfl)
set_option maxRecDepth 10000 in
theorem T_M_readThing (D : Nat) (b : Int) (c : Int) (M : pM) : xF (D + 1) 186 [.inr 62, .inl b, .inl c] M =
 pbI (xF D 183 [.inr 62, .inl 2, .inl 1, .inl 99] M) fun v2 M1 =>
 if 0 ≤ b ∧ b < 10 then
 pbN (xF D 182 [.inr 62, .inl 44] (pset M1 63 b.toNat v2)) fun M3 =>
 pbI (xF D 183 [.inr 62, .inl 1, .inl 1, .inl 9] M3) fun v5 M4 =>
 if 0 ≤ b ∧ b < 10 then
 pbN (xF D 182 [.inr 62, .inl 44] (pset M4 64 b.toNat v5)) fun M6 =>
 pbI (xF D 183 [.inr 62, .inl 1, .inl 1, .inl 9] M6) fun v8 M7 =>
 if 0 ≤ b ∧ b < 10 then
 pbN (xF D 182 [.inr 62, .inl 64] (pset M7 65 b.toNat v8)) fun M9 =>
 pbI (xF D 183 [.inr 62, .inl 1, .inl 0, .inl (c - 1)] M9) fun v11 M10 =>
 if 0 ≤ b ∧ b < 10 then
 some (none, pset M10 66 b.toNat v11)
 else none
 else none
 else none
 else none :=
 (show xF (D + 1) 186 [.inr 62, .inl b, .inl c] M = xE D 186 0 [.inr 62, .inl b, .inl c] [] M from rfl).trans ((x_run D 186 (fun i => C_186.getD i s_none) rfl (fun _ => false) 49 0 [.inr 62, .inl b, .inl c] [] M).trans rfl)
set_option maxRecDepth 10000 in
theorem T_M_readSet (D : Nat) (b : Int) (c : Int) (M : pM) : xF (D + 1) 187 [.inr 62, .inl b, .inl c] M =
 xE D 187 10 [.inr 62, .inl b, .inl c, .inl 0, .inl (-1), .inr 0] [] (pset M 60 21 ((M 60 21) + 1)) :=
 (show xF (D + 1) 187 [.inr 62, .inl b, .inl c] M = xE D 187 0 [.inr 62, .inl b, .inl c, .inr 0, .inr 0, .inr 0] [] M from rfl).trans ((x_run D 187 (fun i => C_187.getD i s_none) rfl (fun i => Nat.beq i 10) 63 0 [.inr 62, .inl b, .inl c, .inr 0, .inr 0, .inr 0] [] M).trans rfl)
set_option maxRecDepth 10000 in
theorem L_M_readSet_10 (D : Nat) (x1 : Int) (x2 : Int) (x3 : Int) (x4 : Int) (yx5 : pV) (M : pM) : xE D 187 10 [.inr 62, .inl x1, .inl x2, .inl x3, .inl x4, yx5] [] M =
 pbI (xF D 179 [.inr 62] M) fun v2 M1 =>
 if eq32 v2 0 then
 (if ¬ eq32 x3 0 then
 (if 0 ≤ x1 ∧ x1 < 8 then
 some (none, pset M1 67 x1.toNat x3)
 else none)
 else
 (pbN (xF D 180 [.inr 62, .inl (M1 60 21)] M1) fun M3 =>
 if 0 ≤ x1 ∧ x1 < 8 then
 some (none, pset M3 67 x1.toNat x3)
 else none))
 else
 (pbI (xF D 178 [.inr 62] M1) fun v5 M4 =>
 pbI (xF D 169 [.inl v5, .inl 97, .inl 106] M4) fun v7 M6 =>
 if eq32 v7 0 then
 (if ¬ eq32 x3 0 then
 (if 0 ≤ x1 ∧ x1 < 8 then
 some (none, pset M6 67 x1.toNat x3)
 else none)
 else
 (pbN (xF D 180 [.inr 62, .inl (M6 60 21)] M6) fun M8 =>
 if 0 ≤ x1 ∧ x1 < 8 then
 some (none, pset M8 67 x1.toNat x3)
 else none))
 else
 (pbI (xF D 178 [.inr 62] M6) fun v10 M9 =>
 if le32 (v10 - 97) x4 then
 (pbN (xF D 180 [.inr 62, .inl (M9 60 21)] M9) fun M11 =>
 some (none, M11))
 else
 (if lt32 (v10 - 97) x2 then
 xE D 187 10 [.inr 62, .inl x1, .inl x2, .inl (jor x3 (jshl 1 (v10 - 97))), .inl (v10 - 97), .inl (v10 - 97)] [] (pset M9 60 21 ((M9 60 21) + 1))
 else
 (pbN (xF D 180 [.inr 62, .inl (M9 60 21)] M9) fun M12 =>
 some (none, M12))))) :=
 (x_run D 187 (fun i => C_187.getD i s_none) rfl (fun i => Nat.beq i 10) 63 10 [.inr 62, .inl x1, .inl x2, .inl x3, .inl x4, yx5] [] M).trans rfl
set_option maxRecDepth 10000 in
theorem T_M_held (D : Nat) (b : Int) (M : pM) : xF (D + 1) 188 [.inr 62, .inl b] M =
 pbI (xF D 189 [.inr 62, .inl b] M) fun v2 M1 =>
 pbI (xF D 181 [.inr 62, .inl 60] M1) fun v4 M3 =>
 if eq32 v4 0 then
 (pbI (xF D 181 [.inr 62, .inl 62] M3) fun v6 M5 =>
 if eq32 v6 0 then
 (pbI (xF D 181 [.inr 62, .inl 61] M5) fun v8 M7 =>
 if eq32 v8 0 then
 some (some (.inl v2), M7)
 else
 (pbI (xF D 189 [.inr 62, .inl b] M7) fun v10 M9 =>
 if ¬ eq32 v2 v10 then
 some (some (.inl 0), M9)
 else
 some (some (.inl 1), M9)))
 else
 (pbI (xF D 189 [.inr 62, .inl b] M5) fun v12 M11 =>
 if le32 v2 v12 then
 some (some (.inl 0), M11)
 else
 some (some (.inl 1), M11)))
 else
 (pbI (xF D 189 [.inr 62, .inl b] M3) fun v14 M13 =>
 if le32 v14 v2 then
 some (some (.inl 0), M13)
 else
 some (some (.inl 1), M13)) :=
 (show xF (D + 1) 188 [.inr 62, .inl b] M = xE D 188 0 [.inr 62, .inl b, .inr 0] [] M from rfl).trans ((x_run D 188 (fun i => C_188.getD i s_none) rfl (fun _ => false) 46 0 [.inr 62, .inl b, .inr 0] [] M).trans rfl)
set_option maxRecDepth 10000 in
theorem T_M_sum (D : Nat) (b : Int) (M : pM) : xF (D + 1) 189 [.inr 62, .inl b] M =
 pbI (xF D 190 [.inr 62, .inl b] M) fun v2 M1 =>
 xE D 189 4 [.inr 62, .inl b, .inl v2, .inr 0, .inr 0] [] M1 :=
 (show xF (D + 1) 189 [.inr 62, .inl b] M = xE D 189 0 [.inr 62, .inl b, .inr 0, .inr 0, .inr 0] [] M from rfl).trans ((x_run D 189 (fun i => C_189.getD i s_none) rfl (fun i => Nat.beq i 4) 47 0 [.inr 62, .inl b, .inr 0, .inr 0, .inr 0] [] M).trans rfl)
set_option maxRecDepth 10000 in
theorem L_M_sum_4 (D : Nat) (x1 : Int) (x2 : Int) (yx3 : pV) (yx4 : pV) (M : pM) : xE D 189 4 [.inr 62, .inl x1, .inl x2, yx3, yx4] [] M =
 pbI (xF D 179 [.inr 62] M) fun v2 M1 =>
 if eq32 v2 0 then
 some (some (.inl x2), M1)
 else
 (pbI (xF D 178 [.inr 62] M1) fun v4 M3 =>
 if eq32 v4 43 then
 (pbI (xF D 178 [.inr 62] M3) fun v6 M5 =>
 if ¬ eq32 v6 43 then
 (pbI (xF D 190 [.inr 62, .inl x1] (pset M5 60 21 ((M5 60 21) + 1))) fun v8 M7 =>
 if eq32 0 0 then
 xE D 189 4 [.inr 62, .inl x1, .inl (x2 - v8), .inl 0, .inl v8] [] M7
 else
 xE D 189 4 [.inr 62, .inl x1, .inl (x2 + v8), .inl 0, .inl v8] [] M7)
 else
 (pbI (xF D 190 [.inr 62, .inl x1] (pset M5 60 21 ((M5 60 21) + 1))) fun v10 M9 =>
 if eq32 1 0 then
 xE D 189 4 [.inr 62, .inl x1, .inl (x2 - v10), .inl 1, .inl v10] [] M9
 else
 xE D 189 4 [.inr 62, .inl x1, .inl (x2 + v10), .inl 1, .inl v10] [] M9))
 else
 (pbI (xF D 178 [.inr 62] M3) fun v12 M11 =>
 if ¬ eq32 v12 45 then
 some (some (.inl x2), M11)
 else
 (pbI (xF D 178 [.inr 62] M11) fun v14 M13 =>
 if ¬ eq32 v14 43 then
 (pbI (xF D 190 [.inr 62, .inl x1] (pset M13 60 21 ((M13 60 21) + 1))) fun v16 M15 =>
 if eq32 0 0 then
 xE D 189 4 [.inr 62, .inl x1, .inl (x2 - v16), .inl 0, .inl v16] [] M15
 else
 xE D 189 4 [.inr 62, .inl x1, .inl (x2 + v16), .inl 0, .inl v16] [] M15)
 else
 (pbI (xF D 190 [.inr 62, .inl x1] (pset M13 60 21 ((M13 60 21) + 1))) fun v18 M17 =>
 if eq32 1 0 then
 xE D 189 4 [.inr 62, .inl x1, .inl (x2 - v18), .inl 1, .inl v18] [] M17
 else
 xE D 189 4 [.inr 62, .inl x1, .inl (x2 + v18), .inl 1, .inl v18] [] M17)))) :=
 (x_run D 189 (fun i => C_189.getD i s_none) rfl (fun i => Nat.beq i 4) 47 4 [.inr 62, .inl x1, .inl x2, yx3, yx4] [] M).trans rfl
set_option maxRecDepth 10000 in
theorem T_M_product (D : Nat) (b : Int) (M : pM) : xF (D + 1) 190 [.inr 62, .inl b] M =
 pbI (xF D 191 [.inr 62, .inl b] M) fun v2 M1 =>
 xE D 190 4 [.inr 62, .inl b, .inl v2, .inr 0, .inr 0] [] M1 :=
 (show xF (D + 1) 190 [.inr 62, .inl b] M = xE D 190 0 [.inr 62, .inl b, .inr 0, .inr 0, .inr 0] [] M from rfl).trans ((x_run D 190 (fun i => C_190.getD i s_none) rfl (fun i => Nat.beq i 4) 51 0 [.inr 62, .inl b, .inr 0, .inr 0, .inr 0] [] M).trans rfl)
set_option maxRecDepth 10000 in
theorem L_M_product_4 (D : Nat) (x1 : Int) (x2 : Int) (yx3 : pV) (yx4 : pV) (M : pM) : xE D 190 4 [.inr 62, .inl x1, .inl x2, yx3, yx4] [] M =
 pbI (xF D 179 [.inr 62] M) fun v2 M1 =>
 if eq32 v2 0 then
 some (some (.inl x2), M1)
 else
 (pbI (xF D 178 [.inr 62] M1) fun v4 M3 =>
 if eq32 v4 42 then
 (pbI (xF D 178 [.inr 62] M3) fun v6 M5 =>
 if ¬ eq32 v6 42 then
 (pbI (xF D 191 [.inr 62, .inl x1] (pset M5 60 21 ((M5 60 21) + 1))) fun v8 M7 =>
 if eq32 0 0 then
 (if ¬ eq32 v8 0 then
 (if eq32 v8 0 then none else
 xE D 190 4 [.inr 62, .inl x1, .inl (jdiv x2 v8), .inl 0, .inl v8] [] M7)
 else
 xE D 190 4 [.inr 62, .inl x1, .inl 0, .inl 0, .inl v8] [] M7)
 else
 xE D 190 4 [.inr 62, .inl x1, .inl (x2 * v8), .inl 0, .inl v8] [] M7)
 else
 (pbI (xF D 191 [.inr 62, .inl x1] (pset M5 60 21 ((M5 60 21) + 1))) fun v10 M9 =>
 if eq32 1 0 then
 (if ¬ eq32 v10 0 then
 (if eq32 v10 0 then none else
 xE D 190 4 [.inr 62, .inl x1, .inl (jdiv x2 v10), .inl 1, .inl v10] [] M9)
 else
 xE D 190 4 [.inr 62, .inl x1, .inl 0, .inl 1, .inl v10] [] M9)
 else
 xE D 190 4 [.inr 62, .inl x1, .inl (x2 * v10), .inl 1, .inl v10] [] M9))
 else
 (pbI (xF D 178 [.inr 62] M3) fun v12 M11 =>
 if ¬ eq32 v12 47 then
 some (some (.inl x2), M11)
 else
 (pbI (xF D 178 [.inr 62] M11) fun v14 M13 =>
 if ¬ eq32 v14 42 then
 (pbI (xF D 191 [.inr 62, .inl x1] (pset M13 60 21 ((M13 60 21) + 1))) fun v16 M15 =>
 if eq32 0 0 then
 (if ¬ eq32 v16 0 then
 (if eq32 v16 0 then none else
 xE D 190 4 [.inr 62, .inl x1, .inl (jdiv x2 v16), .inl 0, .inl v16] [] M15)
 else
 xE D 190 4 [.inr 62, .inl x1, .inl 0, .inl 0, .inl v16] [] M15)
 else
 xE D 190 4 [.inr 62, .inl x1, .inl (x2 * v16), .inl 0, .inl v16] [] M15)
 else
 (pbI (xF D 191 [.inr 62, .inl x1] (pset M13 60 21 ((M13 60 21) + 1))) fun v18 M17 =>
 if eq32 1 0 then
 (if ¬ eq32 v18 0 then
 (if eq32 v18 0 then none else
 xE D 190 4 [.inr 62, .inl x1, .inl (jdiv x2 v18), .inl 1, .inl v18] [] M17)
 else
 xE D 190 4 [.inr 62, .inl x1, .inl 0, .inl 1, .inl v18] [] M17)
 else
 xE D 190 4 [.inr 62, .inl x1, .inl (x2 * v18), .inl 1, .inl v18] [] M17)))) :=
 (x_run D 190 (fun i => C_190.getD i s_none) rfl (fun i => Nat.beq i 4) 51 4 [.inr 62, .inl x1, .inl x2, yx3, yx4] [] M).trans rfl
set_option maxRecDepth 10000 in
theorem T_M_factor (D : Nat) (b : Int) (M : pM) : xF (D + 1) 191 [.inr 62, .inl b] M =
 pbI (xF D 181 [.inr 62, .inl 45] M) fun v2 M1 =>
 if eq32 v2 0 then
 (pbI (xF D 179 [.inr 62] M1) fun v4 M3 =>
 if ¬ eq32 v4 0 then
 (pbI (xF D 178 [.inr 62] M3) fun v6 M5 =>
 if ¬ eq32 v6 40 then
 (pbI (xF D 169 [.inl v6, .inl 48, .inl 57] M5) fun v8 M7 =>
 if eq32 v8 0 then
 (if eq32 v6 105 then
 (if ¬ eq32 ((pset M7 60 21 ((M7 60 21) + 1)) 60 26) (-1) then
 (pbI (xF D 192 [.inr 62, .inl v6, .inl ((pset M7 60 21 ((M7 60 21) + 1)) 60 26), .inl ((pset M7 60 21 ((M7 60 21) + 1)) 60 27)] (pset M7 60 21 ((M7 60 21) + 1))) fun v10 M9 =>
 some (some (.inl v10), M9))
 else
 some (some (.inl 0), pset M7 60 21 ((M7 60 21) + 1)))
 else
 (if eq32 v6 98 then
 (if ¬ eq32 ((pset M7 60 21 ((M7 60 21) + 1)) 60 26) (-1) then
 (pbI (xF D 192 [.inr 62, .inl v6, .inl ((pset M7 60 21 ((M7 60 21) + 1)) 60 26), .inl ((pset M7 60 21 ((M7 60 21) + 1)) 60 27)] (pset M7 60 21 ((M7 60 21) + 1))) fun v12 M11 =>
 some (some (.inl v12), M11))
 else
 some (some (.inl 0), pset M7 60 21 ((M7 60 21) + 1)))
 else
 (if eq32 v6 119 then
 (if ¬ eq32 ((pset M7 60 21 ((M7 60 21) + 1)) 60 26) (-1) then
 (pbI (xF D 192 [.inr 62, .inl v6, .inl ((pset M7 60 21 ((M7 60 21) + 1)) 60 26), .inl ((pset M7 60 21 ((M7 60 21) + 1)) 60 27)] (pset M7 60 21 ((M7 60 21) + 1))) fun v14 M13 =>
 some (some (.inl v14), M13))
 else
 some (some (.inl 0), pset M7 60 21 ((M7 60 21) + 1)))
 else
 (if eq32 v6 103 then
 (if ¬ eq32 ((pset M7 60 21 ((M7 60 21) + 1)) 60 26) (-1) then
 (pbI (xF D 192 [.inr 62, .inl v6, .inl ((pset M7 60 21 ((M7 60 21) + 1)) 60 26), .inl ((pset M7 60 21 ((M7 60 21) + 1)) 60 27)] (pset M7 60 21 ((M7 60 21) + 1))) fun v16 M15 =>
 some (some (.inl v16), M15))
 else
 some (some (.inl 0), pset M7 60 21 ((M7 60 21) + 1)))
 else
 (if eq32 v6 107 then
 (if ¬ eq32 ((pset M7 60 21 ((M7 60 21) + 1)) 60 26) (-1) then
 (pbI (xF D 192 [.inr 62, .inl v6, .inl ((pset M7 60 21 ((M7 60 21) + 1)) 60 26), .inl ((pset M7 60 21 ((M7 60 21) + 1)) 60 27)] (pset M7 60 21 ((M7 60 21) + 1))) fun v18 M17 =>
 some (some (.inl v18), M17))
 else
 some (some (.inl 0), pset M7 60 21 ((M7 60 21) + 1)))
 else
 (if eq32 v6 114 then
 (if ¬ eq32 ((pset M7 60 21 ((M7 60 21) + 1)) 60 26) (-1) then
 (pbI (xF D 192 [.inr 62, .inl v6, .inl ((pset M7 60 21 ((M7 60 21) + 1)) 60 26), .inl ((pset M7 60 21 ((M7 60 21) + 1)) 60 27)] (pset M7 60 21 ((M7 60 21) + 1))) fun v20 M19 =>
 some (some (.inl v20), M19))
 else
 some (some (.inl 0), pset M7 60 21 ((M7 60 21) + 1)))
 else
 (if eq32 v6 122 then
 (if ¬ eq32 ((pset M7 60 21 ((M7 60 21) + 1)) 60 26) (-1) then
 (pbI (xF D 192 [.inr 62, .inl v6, .inl ((pset M7 60 21 ((M7 60 21) + 1)) 60 26), .inl ((pset M7 60 21 ((M7 60 21) + 1)) 60 27)] (pset M7 60 21 ((M7 60 21) + 1))) fun v22 M21 =>
 some (some (.inl v22), M21))
 else
 some (some (.inl 0), pset M7 60 21 ((M7 60 21) + 1)))
 else
 (if eq32 v6 100 then
 (if ¬ eq32 ((pset M7 60 21 ((M7 60 21) + 1)) 60 26) (-1) then
 (pbI (xF D 192 [.inr 62, .inl v6, .inl ((pset M7 60 21 ((M7 60 21) + 1)) 60 26), .inl ((pset M7 60 21 ((M7 60 21) + 1)) 60 27)] (pset M7 60 21 ((M7 60 21) + 1))) fun v24 M23 =>
 some (some (.inl v24), M23))
 else
 some (some (.inl 0), pset M7 60 21 ((M7 60 21) + 1)))
 else
 (if eq32 v6 104 then
 (if ¬ eq32 ((pset M7 60 21 ((M7 60 21) + 1)) 60 26) (-1) then
 (pbI (xF D 192 [.inr 62, .inl v6, .inl ((pset M7 60 21 ((M7 60 21) + 1)) 60 26), .inl ((pset M7 60 21 ((M7 60 21) + 1)) 60 27)] (pset M7 60 21 ((M7 60 21) + 1))) fun v26 M25 =>
 some (some (.inl v26), M25))
 else
 some (some (.inl 0), pset M7 60 21 ((M7 60 21) + 1)))
 else
 (pbN (xF D 180 [.inr 62, .inl (M7 60 21)] M7) fun M27 =>
 some (some (.inl 0), M27)))))))))))
 else
 (pbI (xF D 183 [.inr 62, .inl 3, .inl 0, .inl 999] M7) fun v29 M28 =>
 some (some (.inl v29), M28)))
 else
 (if le32 4 b then
 (pbI (xF D 169 [.inl v6, .inl 48, .inl 57] M5) fun v31 M30 =>
 if eq32 v31 0 then
 (if eq32 v6 105 then
 (if ¬ eq32 ((pset M30 60 21 ((M30 60 21) + 1)) 60 26) (-1) then
 (pbI (xF D 192 [.inr 62, .inl v6, .inl ((pset M30 60 21 ((M30 60 21) + 1)) 60 26), .inl ((pset M30 60 21 ((M30 60 21) + 1)) 60 27)] (pset M30 60 21 ((M30 60 21) + 1))) fun v33 M32 =>
 some (some (.inl v33), M32))
 else
 some (some (.inl 0), pset M30 60 21 ((M30 60 21) + 1)))
 else
 (if eq32 v6 98 then
 (if ¬ eq32 ((pset M30 60 21 ((M30 60 21) + 1)) 60 26) (-1) then
 (pbI (xF D 192 [.inr 62, .inl v6, .inl ((pset M30 60 21 ((M30 60 21) + 1)) 60 26), .inl ((pset M30 60 21 ((M30 60 21) + 1)) 60 27)] (pset M30 60 21 ((M30 60 21) + 1))) fun v35 M34 =>
 some (some (.inl v35), M34))
 else
 some (some (.inl 0), pset M30 60 21 ((M30 60 21) + 1)))
 else
 (if eq32 v6 119 then
 (if ¬ eq32 ((pset M30 60 21 ((M30 60 21) + 1)) 60 26) (-1) then
 (pbI (xF D 192 [.inr 62, .inl v6, .inl ((pset M30 60 21 ((M30 60 21) + 1)) 60 26), .inl ((pset M30 60 21 ((M30 60 21) + 1)) 60 27)] (pset M30 60 21 ((M30 60 21) + 1))) fun v37 M36 =>
 some (some (.inl v37), M36))
 else
 some (some (.inl 0), pset M30 60 21 ((M30 60 21) + 1)))
 else
 (if eq32 v6 103 then
 (if ¬ eq32 ((pset M30 60 21 ((M30 60 21) + 1)) 60 26) (-1) then
 (pbI (xF D 192 [.inr 62, .inl v6, .inl ((pset M30 60 21 ((M30 60 21) + 1)) 60 26), .inl ((pset M30 60 21 ((M30 60 21) + 1)) 60 27)] (pset M30 60 21 ((M30 60 21) + 1))) fun v39 M38 =>
 some (some (.inl v39), M38))
 else
 some (some (.inl 0), pset M30 60 21 ((M30 60 21) + 1)))
 else
 (if eq32 v6 107 then
 (if ¬ eq32 ((pset M30 60 21 ((M30 60 21) + 1)) 60 26) (-1) then
 (pbI (xF D 192 [.inr 62, .inl v6, .inl ((pset M30 60 21 ((M30 60 21) + 1)) 60 26), .inl ((pset M30 60 21 ((M30 60 21) + 1)) 60 27)] (pset M30 60 21 ((M30 60 21) + 1))) fun v41 M40 =>
 some (some (.inl v41), M40))
 else
 some (some (.inl 0), pset M30 60 21 ((M30 60 21) + 1)))
 else
 (if eq32 v6 114 then
 (if ¬ eq32 ((pset M30 60 21 ((M30 60 21) + 1)) 60 26) (-1) then
 (pbI (xF D 192 [.inr 62, .inl v6, .inl ((pset M30 60 21 ((M30 60 21) + 1)) 60 26), .inl ((pset M30 60 21 ((M30 60 21) + 1)) 60 27)] (pset M30 60 21 ((M30 60 21) + 1))) fun v43 M42 =>
 some (some (.inl v43), M42))
 else
 some (some (.inl 0), pset M30 60 21 ((M30 60 21) + 1)))
 else
 (if eq32 v6 122 then
 (if ¬ eq32 ((pset M30 60 21 ((M30 60 21) + 1)) 60 26) (-1) then
 (pbI (xF D 192 [.inr 62, .inl v6, .inl ((pset M30 60 21 ((M30 60 21) + 1)) 60 26), .inl ((pset M30 60 21 ((M30 60 21) + 1)) 60 27)] (pset M30 60 21 ((M30 60 21) + 1))) fun v45 M44 =>
 some (some (.inl v45), M44))
 else
 some (some (.inl 0), pset M30 60 21 ((M30 60 21) + 1)))
 else
 (if eq32 v6 100 then
 (if ¬ eq32 ((pset M30 60 21 ((M30 60 21) + 1)) 60 26) (-1) then
 (pbI (xF D 192 [.inr 62, .inl v6, .inl ((pset M30 60 21 ((M30 60 21) + 1)) 60 26), .inl ((pset M30 60 21 ((M30 60 21) + 1)) 60 27)] (pset M30 60 21 ((M30 60 21) + 1))) fun v47 M46 =>
 some (some (.inl v47), M46))
 else
 some (some (.inl 0), pset M30 60 21 ((M30 60 21) + 1)))
 else
 (if eq32 v6 104 then
 (if ¬ eq32 ((pset M30 60 21 ((M30 60 21) + 1)) 60 26) (-1) then
 (pbI (xF D 192 [.inr 62, .inl v6, .inl ((pset M30 60 21 ((M30 60 21) + 1)) 60 26), .inl ((pset M30 60 21 ((M30 60 21) + 1)) 60 27)] (pset M30 60 21 ((M30 60 21) + 1))) fun v49 M48 =>
 some (some (.inl v49), M48))
 else
 some (some (.inl 0), pset M30 60 21 ((M30 60 21) + 1)))
 else
 (pbN (xF D 180 [.inr 62, .inl (M30 60 21)] M30) fun M50 =>
 some (some (.inl 0), M50)))))))))))
 else
 (pbI (xF D 183 [.inr 62, .inl 3, .inl 0, .inl 999] M30) fun v52 M51 =>
 some (some (.inl v52), M51)))
 else
 (pbI (xF D 188 [.inr 62, .inl (b + 1)] (pset M5 60 21 ((M5 60 21) + 1))) fun v54 M53 =>
 pbN (xF D 182 [.inr 62, .inl 41] M53) fun M55 =>
 some (some (.inl v54), M55))))
 else
 some (some (.inl 0), M3))
 else
 (pbI (xF D 191 [.inr 62, .inl b] M1) fun v57 M56 =>
 some (some (.inl (-v57)), M56)) :=
 (show xF (D + 1) 191 [.inr 62, .inl b] M = xE D 191 0 [.inr 62, .inl b, .inr 0, .inr 0] [] M from rfl).trans ((x_run D 191 (fun i => C_191.getD i s_none) rfl (fun _ => false) 105 0 [.inr 62, .inl b, .inr 0, .inr 0] [] M).trans rfl)
set_option maxRecDepth 10000 in
theorem T_M_letter (D : Nat) (b : Int) (c : Int) (d : Int) (M : pM) : xF (D + 1) 192 [.inr 62, .inl b, .inl c, .inl d] M =
 if eq32 b 98 then
 (if 0 ≤ c ∧ c < 10 then
 some (some (.inl (M 63 c.toNat)), M)
 else none)
 else
 if eq32 b 99 then
 (if 0 ≤ c ∧ c < 10 then
 if ¬ eq32 (M 66 c.toNat) d then
 some (some (.inl 0), M)
 else
 some (some (.inl 1), M)
 else none)
 else
 if eq32 b 100 then
 (pbI (xF D 197 [.inr 62, .inl d] M) fun v6 M5 =>
 pbI (xF D 270 [.inl v6] M5) fun v8 M7 =>
 some (some (.inl v8), M7))
 else
 if eq32 b 101 then
 (if 0 ≤ c ∧ c < 10 then
 if ¬ eq32 (M 66 c.toNat) d then
 some (some (.inl 0), M)
 else
 some (some (.inl 1), M)
 else none)
 else
 if eq32 b 102 then
 (if 0 ≤ c ∧ c < 10 then
 if ¬ eq32 (M 66 c.toNat) d then
 some (some (.inl 0), M)
 else
 some (some (.inl 1), M)
 else none)
 else
 if eq32 b 103 then
 (if 0 ≤ c ∧ c < 10 then
 some (some (.inl (M 65 c.toNat)), M)
 else none)
 else
 if eq32 b 104 then
 (if 0 ≤ c ∧ c < 10 then
 if ¬ eq32 (M 66 c.toNat) d then
 some (some (.inl 0), M)
 else
 some (some (.inl 1), M)
 else none)
 else
 if eq32 b 105 then
 some (some (.inl c), M)
 else
 if eq32 b 106 then
 (if 0 ≤ c ∧ c < 10 then
 if ¬ eq32 (M 66 c.toNat) d then
 some (some (.inl 0), M)
 else
 some (some (.inl 1), M)
 else none)
 else
 if eq32 b 107 then
 (pbI (xF D 196 [.inr 62, .inl c] M) fun v2 M1 =>
 pbI (xF D 270 [.inl v2] M1) fun v4 M3 =>
 some (some (.inl v4), M3))
 else
 if eq32 b 108 then
 (if 0 ≤ c ∧ c < 10 then
 if ¬ eq32 (M 66 c.toNat) d then
 some (some (.inl 0), M)
 else
 some (some (.inl 1), M)
 else none)
 else
 if eq32 b 109 then
 (if 0 ≤ c ∧ c < 10 then
 if ¬ eq32 (M 66 c.toNat) d then
 some (some (.inl 0), M)
 else
 some (some (.inl 1), M)
 else none)
 else
 if eq32 b 110 then
 (if 0 ≤ c ∧ c < 10 then
 if ¬ eq32 (M 66 c.toNat) d then
 some (some (.inl 0), M)
 else
 some (some (.inl 1), M)
 else none)
 else
 if eq32 b 111 then
 (if 0 ≤ c ∧ c < 10 then
 if ¬ eq32 (M 66 c.toNat) d then
 some (some (.inl 0), M)
 else
 some (some (.inl 1), M)
 else none)
 else
 if eq32 b 112 then
 (if 0 ≤ c ∧ c < 10 then
 if ¬ eq32 (M 66 c.toNat) d then
 some (some (.inl 0), M)
 else
 some (some (.inl 1), M)
 else none)
 else
 if eq32 b 113 then
 (if 0 ≤ c ∧ c < 10 then
 if ¬ eq32 (M 66 c.toNat) d then
 some (some (.inl 0), M)
 else
 some (some (.inl 1), M)
 else none)
 else
 if eq32 b 114 then
 some (some (.inl d), M)
 else
 if eq32 b 115 then
 (if 0 ≤ c ∧ c < 10 then
 if ¬ eq32 (M 66 c.toNat) d then
 some (some (.inl 0), M)
 else
 some (some (.inl 1), M)
 else none)
 else
 if eq32 b 116 then
 (if 0 ≤ c ∧ c < 10 then
 if ¬ eq32 (M 66 c.toNat) d then
 some (some (.inl 0), M)
 else
 some (some (.inl 1), M)
 else none)
 else
 if eq32 b 117 then
 (if 0 ≤ c ∧ c < 10 then
 if ¬ eq32 (M 66 c.toNat) d then
 some (some (.inl 0), M)
 else
 some (some (.inl 1), M)
 else none)
 else
 if eq32 b 118 then
 (if 0 ≤ c ∧ c < 10 then
 if ¬ eq32 (M 66 c.toNat) d then
 some (some (.inl 0), M)
 else
 some (some (.inl 1), M)
 else none)
 else
 if eq32 b 119 then
 (if 0 ≤ c ∧ c < 10 then
 some (some (.inl (M 64 c.toNat)), M)
 else none)
 else
 if eq32 b 120 then
 (if 0 ≤ c ∧ c < 10 then
 if ¬ eq32 (M 66 c.toNat) d then
 some (some (.inl 0), M)
 else
 some (some (.inl 1), M)
 else none)
 else
 if eq32 b 121 then
 (if 0 ≤ c ∧ c < 10 then
 if ¬ eq32 (M 66 c.toNat) d then
 some (some (.inl 0), M)
 else
 some (some (.inl 1), M)
 else none)
 else
 if eq32 b 122 then
 (if 0 ≤ d ∧ d < 6 then
 some (some (.inl (M 61 d.toNat)), M)
 else none)
 else
 (if 0 ≤ c ∧ c < 10 then
 if ¬ eq32 (M 66 c.toNat) d then
 some (some (.inl 0), M)
 else
 some (some (.inl 1), M)
 else none) :=
 (show xF (D + 1) 192 [.inr 62, .inl b, .inl c, .inl d] M = xE D 192 0 [.inr 62, .inl b, .inl c, .inl d] [] M from rfl).trans ((x_run D 192 (fun i => C_192.getD i s_none) rfl (fun _ => false) 47 0 [.inr 62, .inl b, .inl c, .inl d] [] M).trans rfl)
set_option maxRecDepth 10000 in
theorem T_M_rule (D : Nat)  (M : pM) : xF (D + 1) 193 [.inr 62] M =
 pbN (xF D 177 [.inr 62, .inr 70, .inl ((pset M 60 17 0) 60 14), .inl 40] (pset M 60 17 0)) fun M1 =>
 if le32 ((pset M 60 17 0) 60 14) 0 then
 xE D 193 42 [.inr 62, .inl ((pset M 60 17 0) 60 14), .inl 0] [] (pset (pset M1 60 14 0) 60 26 (-1))
 else
 (pbI (xF D 188 [.inr 62, .inl 0] (pset (pset M1 60 14 0) 60 26 (-1))) fun v3 M2 =>
 if le32 ((pset M 60 17 0) 60 14) (M2 60 21) then
 (pbI (xF D 179 [.inr 62] M2) fun v5 M4 =>
 if ¬ eq32 v5 0 then
 xE D 193 42 [.inr 62, .inl ((pset M 60 17 0) 60 14), .inl 0] [] M4
 else
 some (some (.inl ((-1) - (M4 60 22))), M4))
 else
 (pbN (xF D 180 [.inr 62, .inl (M2 60 21)] M2) fun M6 =>
 pbI (xF D 179 [.inr 62] M6) fun v8 M7 =>
 if ¬ eq32 v8 0 then
 xE D 193 42 [.inr 62, .inl ((pset M 60 17 0) 60 14), .inl 0] [] M7
 else
 some (some (.inl ((-1) - (M7 60 22))), M7))) :=
 (show xF (D + 1) 193 [.inr 62] M = xE D 193 0 [.inr 62, .inr 0, .inr 0] [] M from rfl).trans ((x_run D 193 (fun i => C_193.getD i s_none) rfl (fun i => Nat.beq i 42) 61 0 [.inr 62, .inr 0, .inr 0] [] M).trans rfl)
set_option maxRecDepth 10000 in
theorem L_M_rule_42 (D : Nat) (x1 : Int) (x2 : Int) (M : pM) : xE D 193 42 [.inr 62, .inl x1, .inl x2] [] M =
 if le32 x1 x2 then
 some (some (.inl 0), pset M 60 25 x1)
 else
 (if 0 ≤ x2 ∧ x2 < 80 then
 if 0 ≤ x2 ∧ x2 < 40 then
 xE D 193 42 [.inr 62, .inl x1, .inl (x2 + 1)] [] (pset M 71 x2.toNat (jb (M 68 x2.toNat)))
 else none
 else none) :=
 (x_run D 193 (fun i => C_193.getD i s_none) rfl (fun i => Nat.beq i 42) 61 42 [.inr 62, .inl x1, .inl x2] [] M).trans rfl
set_option maxRecDepth 10000 in
theorem T_M_worthAll_78 (D : Nat)  (M : pM) : xF (D + 1) 195 [.inr 62, .inr 80] M =
 xE D 195 4 [.inr 62, .inr 80, .inl 0, .inl 0] [] M :=
 (show xF (D + 1) 195 [.inr 62, .inr 80] M = xE D 195 0 [.inr 62, .inr 80, .inr 0, .inr 0] [] M from rfl).trans ((x_run D 195 (fun i => C_195.getD i s_none) rfl (fun i => Nat.beq i 4) 22 0 [.inr 62, .inr 80, .inr 0, .inr 0] [] M).trans rfl)
set_option maxRecDepth 10000 in
theorem L_M_worthAll_78_4 (D : Nat) (x2 : Int) (x3 : Int) (M : pM) : xE D 195 4 [.inr 62, .inr 80, .inl x2, .inl x3] [] M =
 if le32 (M 60 3) x3 then
 some (some (.inl x2), M)
 else
 (if 0 ≤ x3 ∧ x3 < 10 then
 pbI (xF D 194 [.inr 62, .inl x3, .inl (M 78 x3.toNat)] M) fun v2 M1 =>
 xE D 195 4 [.inr 62, .inr 80, .inl (x2 + v2), .inl (x3 + 1)] [] M1
 else none) :=
 (x_run D 195 (fun i => C_195.getD i s_none) rfl (fun i => Nat.beq i 4) 22 4 [.inr 62, .inr 80, .inl x2, .inl x3] [] M).trans rfl
set_option maxRecDepth 10000 in
theorem T_M_setsOf (D : Nat) (b : Int) (M : pM) : xF (D + 1) 196 [.inr 62, .inl b] M =
 xE D 196 4 [.inr 62, .inl b, .inl 0, .inl 0] [] M :=
 (show xF (D + 1) 196 [.inr 62, .inl b] M = xE D 196 0 [.inr 62, .inl b, .inr 0, .inr 0] [] M from rfl).trans ((x_run D 196 (fun i => C_196.getD i s_none) rfl (fun i => Nat.beq i 4) 28 0 [.inr 62, .inl b, .inr 0, .inr 0] [] M).trans rfl)
set_option maxRecDepth 10000 in
theorem L_M_setsOf_4 (D : Nat) (x1 : Int) (x2 : Int) (x3 : Int) (M : pM) : xE D 196 4 [.inr 62, .inl x1, .inl x2, .inl x3] [] M =
 if le32 (M 60 8) x3 then
 some (some (.inl x2), M)
 else
 (if 0 ≤ x3 ∧ x3 < 8 then
 pbI (xF D 170 [.inl (M 67 x3.toNat), .inl x1] M) fun v2 M1 =>
 if eq32 v2 0 then
 xE D 196 4 [.inr 62, .inl x1, .inl (jor x2 0), .inl (x3 + 1)] [] M1
 else
 xE D 196 4 [.inr 62, .inl x1, .inl (jor x2 (jshl 1 x3)), .inl (x3 + 1)] [] M1
 else none) :=
 (x_run D 196 (fun i => C_196.getD i s_none) rfl (fun i => Nat.beq i 4) 28 4 [.inr 62, .inl x1, .inl x2, .inl x3] [] M).trans rfl
set_option maxRecDepth 10000 in
theorem T_M_besides (D : Nat) (b : Int) (M : pM) : xF (D + 1) 197 [.inr 62, .inl b] M =
 xE D 197 4 [.inr 62, .inl b, .inl 0, .inl 0] [] M :=
 (show xF (D + 1) 197 [.inr 62, .inl b] M = xE D 197 0 [.inr 62, .inl b, .inr 0, .inr 0] [] M from rfl).trans ((x_run D 197 (fun i => C_197.getD i s_none) rfl (fun i => Nat.beq i 4) 30 0 [.inr 62, .inl b, .inr 0, .inr 0] [] M).trans rfl)
set_option maxRecDepth 10000 in
theorem L_M_besides_4 (D : Nat) (x1 : Int) (x2 : Int) (x3 : Int) (M : pM) : xE D 197 4 [.inr 62, .inl x1, .inl x2, .inl x3] [] M =
 if le32 (M 60 0) x3 then
 some (some (.inl x2), M)
 else
 (if 0 ≤ (6 * x1) + x3 ∧ (6 * x1) + x3 < 36 then
 if le32 (M 62 (((6 * x1) + x3).toNat)) 0 then
 xE D 197 4 [.inr 62, .inl x1, .inl (jor x2 0), .inl (x3 + 1)] [] M
 else
 xE D 197 4 [.inr 62, .inl x1, .inl (jor x2 (jshl 1 x3)), .inl (x3 + 1)] [] M
 else none) :=
 (x_run D 197 (fun i => C_197.getD i s_none) rfl (fun i => Nat.beq i 4) 30 4 [.inr 62, .inl x1, .inl x2, .inl x3] [] M).trans rfl
set_option maxRecDepth 10000 in
theorem T_M_freeIn_66 (D : Nat) (c : Int) (M : pM) : xF (D + 1) 198 [.inr 62, .inr 68, .inl c] M =
 if 0 ≤ c ∧ c < 6 then
 xE D 198 7 [.inr 62, .inr 68, .inl c, .inl (M 61 c.toNat), .inl 0] [] M
 else none :=
 (show xF (D + 1) 198 [.inr 62, .inr 68, .inl c] M = xE D 198 0 [.inr 62, .inr 68, .inl c, .inr 0, .inr 0] [] M from rfl).trans ((x_run D 198 (fun i => C_198.getD i s_none) rfl (fun i => Nat.beq i 7) 30 0 [.inr 62, .inr 68, .inl c, .inr 0, .inr 0] [] M).trans rfl)
set_option maxRecDepth 10000 in
theorem L_M_freeIn_66_7 (D : Nat) (x2 : Int) (x3 : Int) (x4 : Int) (M : pM) : xE D 198 7 [.inr 62, .inr 68, .inl x2, .inl x3, .inl x4] [] M =
 if le32 (M 60 3) x4 then
 some (some (.inl x3), M)
 else
 (if 0 ≤ x4 ∧ x4 < 10 then
 if ¬ eq32 (M 66 x4.toNat) x2 then
 xE D 198 7 [.inr 62, .inr 68, .inl x2, .inl (x3 - 0), .inl (x4 + 1)] [] M
 else
 (if 0 ≤ x4 ∧ x4 < 10 then
 xE D 198 7 [.inr 62, .inr 68, .inl x2, .inl (x3 - (M 63 x4.toNat)), .inl (x4 + 1)] [] M
 else none)
 else none) :=
 (x_run D 198 (fun i => C_198.getD i s_none) rfl (fun i => Nat.beq i 7) 30 7 [.inr 62, .inr 68, .inl x2, .inl x3, .inl x4] [] M).trans rfl
set_option maxRecDepth 10000 in
theorem T_M_freeIn_78 (D : Nat) (c : Int) (M : pM) : xF (D + 1) 198 [.inr 62, .inr 80, .inl c] M =
 if 0 ≤ c ∧ c < 6 then
 xE D 198 7 [.inr 62, .inr 80, .inl c, .inl (M 61 c.toNat), .inl 0] [] M
 else none :=
 (show xF (D + 1) 198 [.inr 62, .inr 80, .inl c] M = xE D 198 0 [.inr 62, .inr 80, .inl c, .inr 0, .inr 0] [] M from rfl).trans ((x_run D 198 (fun i => C_198.getD i s_none) rfl (fun i => Nat.beq i 7) 30 0 [.inr 62, .inr 80, .inl c, .inr 0, .inr 0] [] M).trans rfl)
set_option maxRecDepth 10000 in
theorem L_M_freeIn_78_7 (D : Nat) (x2 : Int) (x3 : Int) (x4 : Int) (M : pM) : xE D 198 7 [.inr 62, .inr 80, .inl x2, .inl x3, .inl x4] [] M =
 if le32 (M 60 3) x4 then
 some (some (.inl x3), M)
 else
 (if 0 ≤ x4 ∧ x4 < 10 then
 if ¬ eq32 (M 78 x4.toNat) x2 then
 xE D 198 7 [.inr 62, .inr 80, .inl x2, .inl (x3 - 0), .inl (x4 + 1)] [] M
 else
 (if 0 ≤ x4 ∧ x4 < 10 then
 xE D 198 7 [.inr 62, .inr 80, .inl x2, .inl (x3 - (M 63 x4.toNat)), .inl (x4 + 1)] [] M
 else none)
 else none) :=
 (x_run D 198 (fun i => C_198.getD i s_none) rfl (fun i => Nat.beq i 7) 30 7 [.inr 62, .inr 80, .inl x2, .inl x3, .inl x4] [] M).trans rfl
set_option maxRecDepth 10000 in
theorem T_M_findClumps (D : Nat) (b : Int) (c : Int) (M : pM) : xF (D + 1) 200 [.inr 62, .inl b, .inl c] M =
 xE D 200 7 [.inr 62, .inl b, .inl c, .inl c, .inl 0, .inr 0, .inr 0, .inr 0] [] (pset M 60 30 0) :=
 (show xF (D + 1) 200 [.inr 62, .inl b, .inl c] M = xE D 200 0 [.inr 62, .inl b, .inl c, .inr 0, .inr 0, .inr 0, .inr 0, .inr 0] [] M from rfl).trans ((x_run D 200 (fun i => C_200.getD i s_none) rfl (fun i => Nat.beq i 7 || Nat.beq i 22 || Nat.beq i 29 || Nat.beq i 66) 96 0 [.inr 62, .inl b, .inl c, .inr 0, .inr 0, .inr 0, .inr 0, .inr 0] [] M).trans rfl)
set_option maxRecDepth 10000 in
theorem L_M_findClumps_7 (D : Nat) (x1 : Int) (x2 : Int) (x3 : Int) (x4 : Int) (yx5 : pV) (yx6 : pV) (yx7 : pV) (M : pM) : xE D 200 7 [.inr 62, .inl x1, .inl x2, .inl x3, .inl x4, yx5, yx6, yx7] [] M =
 if le32 (M 60 3) x4 then
 some (none, M)
 else
 (pbI (xF D 170 [.inl x3, .inl x4] M) fun v2 M1 =>
 if eq32 v2 0 then
 xE D 200 22 [.inr 62, .inl x1, .inl x2, .inl x3, .inl x4, .inl (jshl 1 x4), .inl 0, yx7] [] M1
 else
 xE D 200 7 [.inr 62, .inl x1, .inl x2, .inl x3, .inl (x4 + 1), yx5, yx6, yx7] [] M1) :=
 (x_run D 200 (fun i => C_200.getD i s_none) rfl (fun i => Nat.beq i 7 || Nat.beq i 22 || Nat.beq i 29 || Nat.beq i 66) 96 7 [.inr 62, .inl x1, .inl x2, .inl x3, .inl x4, yx5, yx6, yx7] [] M).trans rfl
set_option maxRecDepth 10000 in
theorem L_M_findClumps_22 (D : Nat) (x1 : Int) (x2 : Int) (x3 : Int) (x4 : Int) (x5 : Int) (x6 : Int) (yx7 : pV) (M : pM) : xE D 200 22 [.inr 62, .inl x1, .inl x2, .inl x3, .inl x4, .inl x5, .inl x6, yx7] [] M =
 if eq32 x5 x6 then
 (if 0 ≤ M 60 30 ∧ M 60 30 < 10 then
 xE D 200 66 [.inr 62, .inl x1, .inl x2, .inl x3, .inl x4, .inl x5, .inl x6, .inl 0] [] (pset M 73 ((M 60 30).toNat) x5)
 else none)
 else
 xE D 200 29 [.inr 62, .inl x1, .inl x2, .inl x3, .inl x4, .inl x5, .inl x5, .inl 0] [] M :=
 (x_run D 200 (fun i => C_200.getD i s_none) rfl (fun i => Nat.beq i 7 || Nat.beq i 22 || Nat.beq i 29 || Nat.beq i 66) 96 22 [.inr 62, .inl x1, .inl x2, .inl x3, .inl x4, .inl x5, .inl x6, yx7] [] M).trans rfl
set_option maxRecDepth 10000 in
theorem L_M_findClumps_29 (D : Nat) (x1 : Int) (x2 : Int) (x3 : Int) (x4 : Int) (x5 : Int) (x6 : Int) (x7 : Int) (M : pM) : xE D 200 29 [.inr 62, .inl x1, .inl x2, .inl x3, .inl x4, .inl x5, .inl x6, .inl x7] [] M =
 if le32 (M 60 8) x7 then
 xE D 200 22 [.inr 62, .inl x1, .inl x2, .inl x3, .inl x4, .inl x5, .inl x6, .inl x7] [] M
 else
 (pbI (xF D 170 [.inl x1, .inl x7] M) fun v2 M1 =>
 if ¬ eq32 v2 0 then
 xE D 200 29 [.inr 62, .inl x1, .inl x2, .inl x3, .inl x4, .inl x5, .inl x6, .inl (x7 + 1)] [] M1
 else
 (if 0 ≤ x7 ∧ x7 < 8 then
 if eq32 (jand (M1 67 x7.toNat) x5) 0 then
 xE D 200 29 [.inr 62, .inl x1, .inl x2, .inl x3, .inl x4, .inl x5, .inl x6, .inl (x7 + 1)] [] M1
 else
 (if 0 ≤ x7 ∧ x7 < 8 then
 xE D 200 29 [.inr 62, .inl x1, .inl x2, .inl x3, .inl x4, .inl (jor x5 (jand (M1 67 x7.toNat) (jxor x2 (-1)))), .inl x6, .inl (x7 + 1)] [] M1
 else none)
 else none)) :=
 (x_run D 200 (fun i => C_200.getD i s_none) rfl (fun i => Nat.beq i 7 || Nat.beq i 22 || Nat.beq i 29 || Nat.beq i 66) 96 29 [.inr 62, .inl x1, .inl x2, .inl x3, .inl x4, .inl x5, .inl x6, .inl x7] [] M).trans rfl
set_option maxRecDepth 10000 in
theorem L_M_findClumps_66 (D : Nat) (x1 : Int) (x2 : Int) (x3 : Int) (x4 : Int) (x5 : Int) (x6 : Int) (x7 : Int) (M : pM) : xE D 200 66 [.inr 62, .inl x1, .inl x2, .inl x3, .inl x4, .inl x5, .inl x6, .inl x7] [] M =
 if le32 (M 60 3) x7 then
 xE D 200 7 [.inr 62, .inl x1, .inl x2, .inl (jor x3 x5), .inl (x4 + 1), .inl x5, .inl x6, .inl x7] [] (pset M 60 30 ((M 60 30) + 1))
 else
 (pbI (xF D 170 [.inl x5, .inl x7] M) fun v2 M1 =>
 if eq32 v2 0 then
 xE D 200 66 [.inr 62, .inl x1, .inl x2, .inl x3, .inl x4, .inl x5, .inl x6, .inl (x7 + 1)] [] M1
 else
 (if 0 ≤ x7 ∧ x7 < 10 then
 xE D 200 66 [.inr 62, .inl x1, .inl x2, .inl x3, .inl x4, .inl x5, .inl x6, .inl (x7 + 1)] [] (pset M1 72 x7.toNat (M1 60 30))
 else none)) :=
 (x_run D 200 (fun i => C_200.getD i s_none) rfl (fun i => Nat.beq i 7 || Nat.beq i 22 || Nat.beq i 29 || Nat.beq i 66) 96 66 [.inr 62, .inl x1, .inl x2, .inl x3, .inl x4, .inl x5, .inl x6, .inl x7] [] M).trans rfl
set_option maxRecDepth 10000 in
theorem T_M_widen (D : Nat) (b : Int) (c : Int) (d : Int) (M : pM) : xF (D + 1) 204 [.inr 62, .inl b, .inl c, .inl d] M =
 pbI (xF D 173 [.inr 62, .inl b] (pset M 60 17 0)) fun v2 M1 =>
 if eq32 v2 0 then
 some (some (.inl (-1)), M1)
 else
 (pbI (xF D 173 [.inr 62, .inl c] M1) fun v4 M3 =>
 if eq32 v4 0 then
 some (some (.inl (-1)), M3)
 else
 (if eq32 b c then
 some (some (.inl (-1)), M3)
 else
 (pbI (xF D 169 [.inl d, .inl 0, .inl 9] M3) fun v6 M5 =>
 if ¬ eq32 v6 0 then
 (if 0 ≤ (6 * b) + c ∧ (6 * b) + c < 36 then
 pbN (xF D 185 [.inr 62, .inl b, .inl c, .inl d] M5) fun M7 =>
 some (some (.inl (M5 62 (((6 * b) + c).toNat))), M7)
 else none)
 else
 some (some (.inl (-1)), M5)))) :=
 (show xF (D + 1) 204 [.inr 62, .inl b, .inl c, .inl d] M = xE D 204 0 [.inr 62, .inl b, .inl c, .inl d, .inr 0] [] M from rfl).trans ((x_run D 204 (fun i => C_204.getD i s_none) rfl (fun _ => false) 38 0 [.inr 62, .inl b, .inl c, .inl d, .inr 0] [] M).trans rfl)
set_option maxRecDepth 10000 in
theorem T_M_strength (D : Nat) (b : Int) (M : pM) : xF (D + 1) 205 [.inr 62, .inl b] M =
 pbI (xF D 169 [.inl b, .inl 1, .inl 999] (pset M 60 17 0)) fun v2 M1 =>
 if ¬ eq32 v2 0 then
 some (some (.inl (M1 60 12)), pset M1 60 12 b)
 else
 some (some (.inl (-1)), M1) :=
 (show xF (D + 1) 205 [.inr 62, .inl b] M = xE D 205 0 [.inr 62, .inl b, .inr 0] [] M from rfl).trans ((x_run D 205 (fun i => C_205.getD i s_none) rfl (fun _ => false) 19 0 [.inr 62, .inl b, .inr 0] [] M).trans rfl)
set_option maxRecDepth 10000 in
theorem T_M_sheet (D : Nat) (b : Int) (c : Int) (d : Int) (e : Int) (M : pM) : xF (D + 1) 206 [.inr 62, .inl b, .inl c, .inl d, .inl e] M =
 pbI (xF D 169 [.inl b, .inl 0, .inl 3] (pset M 60 17 0)) fun v2 M1 =>
 if eq32 v2 0 then
 some (some (.inl (-1)), M1)
 else
 (if le32 c 10 then
 (if le32 3 b then
 xE D 206 26 [.inr 62, .inl b, .inl c, .inl d, .inl e, .inl 0, .inl d, .inl 0, .inr 0] [] M1
 else
 (if le32 0 c then
 xE D 206 26 [.inr 62, .inl b, .inl c, .inl d, .inl e, .inl 0, .inl d, .inl 0, .inr 0] [] M1
 else
 some (some (.inl (-2)), M1)))
 else
 some (some (.inl (-1)), M1)) :=
 (show xF (D + 1) 206 [.inr 62, .inl b, .inl c, .inl d, .inl e] M = xE D 206 0 [.inr 62, .inl b, .inl c, .inl d, .inl e, .inr 0, .inr 0, .inr 0, .inr 0] [] M from rfl).trans ((x_run D 206 (fun i => C_206.getD i s_none) rfl (fun i => Nat.beq i 26) 81 0 [.inr 62, .inl b, .inl c, .inl d, .inl e, .inr 0, .inr 0, .inr 0, .inr 0] [] M).trans rfl)
set_option maxRecDepth 10000 in
theorem L_M_sheet_26 (D : Nat) (x1 : Int) (x2 : Int) (x3 : Int) (x4 : Int) (x5 : Int) (x6 : Int) (x7 : Int) (yx8 : pV) (M : pM) : xE D 206 26 [.inr 62, .inl x1, .inl x2, .inl x3, .inl x4, .inl x5, .inl x6, .inl x7, yx8] [] M =
 if le32 (M 60 3) x7 then
 (if ¬ eq32 x1 3 then
 some (some (.inl x5), M)
 else
 some (some (.inl (-3)), M))
 else
 (if ¬ eq32 x1 0 then
 (if ¬ eq32 x1 1 then
 (if eq32 x1 3 then
 (if 0 ≤ x7 ∧ x7 < 10 then
 if 0 ≤ x7 ∧ x7 < 10 then
 xE D 206 26 [.inr 62, .inl x1, .inl x2, .inl x3, .inl x4, .inl (x5 + ((pset M 65 x7.toNat 1) 65 x7.toNat)), .inl (x6 + x4), .inl (x7 + 1), .inl x6] [] (pset M 65 x7.toNat 1)
 else none
 else none)
 else
 (if lt32 x7 x2 then
 (if 0 ≤ x7 ∧ x7 < 10 then
 if 0 ≤ x7 ∧ x7 < 10 then
 xE D 206 26 [.inr 62, .inl x1, .inl x2, .inl x3, .inl x4, .inl (x5 + ((pset M 65 x7.toNat (jmax 1 (jmin 9 x6))) 65 x7.toNat)), .inl (x6 + x4), .inl (x7 + 1), .inl x6] [] (pset M 65 x7.toNat (jmax 1 (jmin 9 x6)))
 else none
 else none)
 else
 (if 0 ≤ x7 ∧ x7 < 10 then
 if 0 ≤ x7 ∧ x7 < 10 then
 xE D 206 26 [.inr 62, .inl x1, .inl x2, .inl x3, .inl x4, .inl (x5 + ((pset M 65 x7.toNat 1) 65 x7.toNat)), .inl (x6 + x4), .inl (x7 + 1), .inl x6] [] (pset M 65 x7.toNat 1)
 else none
 else none)))
 else
 (if eq32 x1 3 then
 (if 0 ≤ x7 ∧ x7 < 10 then
 if 0 ≤ x7 ∧ x7 < 10 then
 xE D 206 26 [.inr 62, .inl x1, .inl x2, .inl x3, .inl x4, .inl (x5 + ((pset M 65 x7.toNat 1) 65 x7.toNat)), .inl (x6 + x4), .inl (x7 + 1), .inl (js x6)] [] (pset M 65 x7.toNat 1)
 else none
 else none)
 else
 (if lt32 x7 x2 then
 (if 0 ≤ x7 ∧ x7 < 10 then
 if 0 ≤ x7 ∧ x7 < 10 then
 xE D 206 26 [.inr 62, .inl x1, .inl x2, .inl x3, .inl x4, .inl (x5 + ((pset M 65 x7.toNat (jmax 1 (jmin 9 (js x6)))) 65 x7.toNat)), .inl (x6 + x4), .inl (x7 + 1), .inl (js x6)] [] (pset M 65 x7.toNat (jmax 1 (jmin 9 (js x6))))
 else none
 else none)
 else
 (if 0 ≤ x7 ∧ x7 < 10 then
 if 0 ≤ x7 ∧ x7 < 10 then
 xE D 206 26 [.inr 62, .inl x1, .inl x2, .inl x3, .inl x4, .inl (x5 + ((pset M 65 x7.toNat 1) 65 x7.toNat)), .inl (x6 + x4), .inl (x7 + 1), .inl (js x6)] [] (pset M 65 x7.toNat 1)
 else none
 else none))))
 else
 (if eq32 x1 3 then
 (if 0 ≤ x7 ∧ x7 < 10 then
 if 0 ≤ x7 ∧ x7 < 10 then
 xE D 206 26 [.inr 62, .inl x1, .inl x2, .inl x3, .inl x4, .inl (x5 + ((pset M 65 x7.toNat 1) 65 x7.toNat)), .inl (x6 + x4), .inl (x7 + 1), .inl (jb x6)] [] (pset M 65 x7.toNat 1)
 else none
 else none)
 else
 (if lt32 x7 x2 then
 (if 0 ≤ x7 ∧ x7 < 10 then
 if 0 ≤ x7 ∧ x7 < 10 then
 xE D 206 26 [.inr 62, .inl x1, .inl x2, .inl x3, .inl x4, .inl (x5 + ((pset M 65 x7.toNat (jmax 1 (jmin 9 (jb x6)))) 65 x7.toNat)), .inl (x6 + x4), .inl (x7 + 1), .inl (jb x6)] [] (pset M 65 x7.toNat (jmax 1 (jmin 9 (jb x6))))
 else none
 else none)
 else
 (if 0 ≤ x7 ∧ x7 < 10 then
 if 0 ≤ x7 ∧ x7 < 10 then
 xE D 206 26 [.inr 62, .inl x1, .inl x2, .inl x3, .inl x4, .inl (x5 + ((pset M 65 x7.toNat 1) 65 x7.toNat)), .inl (x6 + x4), .inl (x7 + 1), .inl (jb x6)] [] (pset M 65 x7.toNat 1)
 else none
 else none)))) :=
 (x_run D 206 (fun i => C_206.getD i s_none) rfl (fun i => Nat.beq i 26) 81 26 [.inr 62, .inl x1, .inl x2, .inl x3, .inl x4, .inl x5, .inl x6, .inl x7, yx8] [] M).trans rfl
set_option maxRecDepth 10000 in
theorem T_M_findFar (D : Nat) (b : Int) (c : Int) (M : pM) : xF (D + 1) 207 [.inr 62, .inl b, .inl c] M =
 xE D 207 2 [.inr 62, .inl b, .inl c, .inl 0, .inr 0, .inr 0] [] M :=
 (show xF (D + 1) 207 [.inr 62, .inl b, .inl c] M = xE D 207 0 [.inr 62, .inl b, .inl c, .inr 0, .inr 0, .inr 0] [] M from rfl).trans ((x_run D 207 (fun i => C_207.getD i s_none) rfl (fun i => Nat.beq i 2 || Nat.beq i 20 || Nat.beq i 26 || Nat.beq i 32) 72 0 [.inr 62, .inl b, .inl c, .inr 0, .inr 0, .inr 0] [] M).trans rfl)
set_option maxRecDepth 10000 in
theorem L_M_findFar_2 (D : Nat) (x1 : Int) (x2 : Int) (x3 : Int) (M : pM) : xE D 207 2 [.inr 62, .inl x1, .inl x2, .inl x3, .inr 0, .inr 0] [] M =
 if le32 (M 60 0) x3 then
 xE D 207 20 [.inr 62, .inl x1, .inl x2, .inl 0, .inr 0, .inr 0] [] M
 else
 (if ¬ eq32 x3 x1 then
 (if 0 ≤ x3 ∧ x3 < 6 then
 xE D 207 2 [.inr 62, .inl x1, .inl x2, .inl (x3 + 1), .inr 0, .inr 0] [] (pset M 74 x3.toNat 1000000)
 else none)
 else
 (if 0 ≤ x3 ∧ x3 < 6 then
 xE D 207 2 [.inr 62, .inl x1, .inl x2, .inl (x3 + 1), .inr 0, .inr 0] [] (pset M 74 x3.toNat 0)
 else none)) :=
 (x_run D 207 (fun i => C_207.getD i s_none) rfl (fun i => Nat.beq i 2 || Nat.beq i 20 || Nat.beq i 26 || Nat.beq i 32) 72 2 [.inr 62, .inl x1, .inl x2, .inl x3, .inr 0, .inr 0] [] M).trans rfl
set_option maxRecDepth 10000 in
theorem L_M_findFar_20 (D : Nat) (x1 : Int) (x2 : Int) (x3 : Int) (yx4 : pV) (yx5 : pV) (M : pM) : xE D 207 20 [.inr 62, .inl x1, .inl x2, .inl x3, yx4, yx5] [] M =
 if le32 (M 60 0) x3 then
 some (none, M)
 else
 xE D 207 26 [.inr 62, .inl x1, .inl x2, .inl x3, .inl 0, yx5] [] M :=
 (x_run D 207 (fun i => C_207.getD i s_none) rfl (fun i => Nat.beq i 2 || Nat.beq i 20 || Nat.beq i 26 || Nat.beq i 32) 72 20 [.inr 62, .inl x1, .inl x2, .inl x3, yx4, yx5] [] M).trans rfl
set_option maxRecDepth 10000 in
theorem L_M_findFar_26 (D : Nat) (x1 : Int) (x2 : Int) (x3 : Int) (x4 : Int) (yx5 : pV) (M : pM) : xE D 207 26 [.inr 62, .inl x1, .inl x2, .inl x3, .inl x4, yx5] [] M =
 if le32 (M 60 0) x4 then
 xE D 207 20 [.inr 62, .inl x1, .inl x2, .inl (x3 + 1), .inl x4, yx5] [] M
 else
 xE D 207 32 [.inr 62, .inl x1, .inl x2, .inl x3, .inl x4, .inl 0] [] M :=
 (x_run D 207 (fun i => C_207.getD i s_none) rfl (fun i => Nat.beq i 2 || Nat.beq i 20 || Nat.beq i 26 || Nat.beq i 32) 72 26 [.inr 62, .inl x1, .inl x2, .inl x3, .inl x4, yx5] [] M).trans rfl
set_option maxRecDepth 10000 in
theorem L_M_findFar_32 (D : Nat) (x1 : Int) (x2 : Int) (x3 : Int) (x4 : Int) (x5 : Int) (M : pM) : xE D 207 32 [.inr 62, .inl x1, .inl x2, .inl x3, .inl x4, .inl x5] [] M =
 if le32 (M 60 0) x5 then
 xE D 207 26 [.inr 62, .inl x1, .inl x2, .inl x3, .inl (x4 + 1), .inl x5] [] M
 else
 (if 0 ≤ x4 ∧ x4 < 6 then
 if ¬ eq32 (M 74 x4.toNat) x3 then
 xE D 207 32 [.inr 62, .inl x1, .inl x2, .inl x3, .inl x4, .inl (x5 + 1)] [] M
 else
 (if 0 ≤ (6 * x4) + x5 ∧ (6 * x4) + x5 < 36 then
 if lt32 (M 62 (((6 * x4) + x5).toNat)) x2 then
 xE D 207 32 [.inr 62, .inl x1, .inl x2, .inl x3, .inl x4, .inl (x5 + 1)] [] M
 else
 (if 0 ≤ x5 ∧ x5 < 6 then
 if 0 ≤ x5 ∧ x5 < 6 then
 xE D 207 32 [.inr 62, .inl x1, .inl x2, .inl x3, .inl x4, .inl (x5 + 1)] [] (pset M 74 x5.toNat (jmin (M 74 x5.toNat) (x3 + 1)))
 else none
 else none)
 else none)
 else none) :=
 (x_run D 207 (fun i => C_207.getD i s_none) rfl (fun i => Nat.beq i 2 || Nat.beq i 20 || Nat.beq i 26 || Nat.beq i 32) 72 32 [.inr 62, .inl x1, .inl x2, .inl x3, .inl x4, .inl x5] [] M).trans rfl
set_option maxRecDepth 10000 in
theorem T_M_steps (D : Nat) (b : Int) (c : Int) (d : Int) (M : pM) : xF (D + 1) 208 [.inr 62, .inl b, .inl c, .inl d] M =
 if 0 ≤ b ∧ b < 10 then
 pbN (xF D 207 [.inr 62, .inl d, .inl (M 64 b.toNat)] M) fun M1 =>
 if 0 ≤ c ∧ c < 6 then
 some (some (.inl (M1 74 c.toNat)), M1)
 else none
 else none :=
 (show xF (D + 1) 208 [.inr 62, .inl b, .inl c, .inl d] M = xE D 208 0 [.inr 62, .inl b, .inl c, .inl d] [] M from rfl).trans ((x_run D 208 (fun i => C_208.getD i s_none) rfl (fun _ => false) 13 0 [.inr 62, .inl b, .inl c, .inl d] [] M).trans rfl)
set_option maxRecDepth 10000 in
theorem T_M_partedSets_66 (D : Nat)  (M : pM) : xF (D + 1) 210 [.inr 62, .inr 68] M =
 xE D 210 4 [.inr 62, .inr 68, .inl 0, .inl 0, .inr 0, .inr 0] [] M :=
 (show xF (D + 1) 210 [.inr 62, .inr 68] M = xE D 210 0 [.inr 62, .inr 68, .inr 0, .inr 0, .inr 0, .inr 0] [] M from rfl).trans ((x_run D 210 (fun i => C_210.getD i s_none) rfl (fun i => Nat.beq i 4 || Nat.beq i 18) 49 0 [.inr 62, .inr 68, .inr 0, .inr 0, .inr 0, .inr 0] [] M).trans rfl)
set_option maxRecDepth 10000 in
theorem L_M_partedSets_66_4 (D : Nat) (x2 : Int) (x3 : Int) (yx4 : pV) (yx5 : pV) (M : pM) : xE D 210 4 [.inr 62, .inr 68, .inl x2, .inl x3, yx4, yx5] [] M =
 if le32 (M 60 8) x3 then
 some (some (.inl x2), M)
 else
 (if 0 ≤ x3 ∧ x3 < 8 then
 pbI (xF D 271 [.inl (jor (M 67 x3.toNat) 1024)] M) fun v2 M1 =>
 xE D 210 18 [.inr 62, .inr 68, .inl x2, .inl x3, .inl v2, .inl 0] [] M1
 else none) :=
 (x_run D 210 (fun i => C_210.getD i s_none) rfl (fun i => Nat.beq i 4 || Nat.beq i 18) 49 4 [.inr 62, .inr 68, .inl x2, .inl x3, yx4, yx5] [] M).trans rfl
set_option maxRecDepth 10000 in
theorem L_M_partedSets_66_18 (D : Nat) (x2 : Int) (x3 : Int) (x4 : Int) (x5 : Int) (M : pM) : xE D 210 18 [.inr 62, .inr 68, .inl x2, .inl x3, .inl x4, .inl x5] [] M =
 if le32 (M 60 3) x5 then
 xE D 210 4 [.inr 62, .inr 68, .inl x2, .inl (x3 + 1), .inl x4, .inl x5] [] M
 else
 (if 0 ≤ x3 ∧ x3 < 8 then
 pbI (xF D 170 [.inl (M 67 x3.toNat), .inl x5] M) fun v2 M1 =>
 if eq32 v2 0 then
 xE D 210 18 [.inr 62, .inr 68, .inl x2, .inl x3, .inl x4, .inl (x5 + 1)] [] M1
 else
 (if 0 ≤ x5 ∧ x5 < 10 then
 if 0 ≤ x4 ∧ x4 < 10 then
 if eq32 (M1 66 x5.toNat) (M1 66 x4.toNat) then
 xE D 210 18 [.inr 62, .inr 68, .inl x2, .inl x3, .inl x4, .inl (x5 + 1)] [] M1
 else
 xE D 210 18 [.inr 62, .inr 68, .inl (jor x2 (jshl 1 x3)), .inl x3, .inl x4, .inl (x5 + 1)] [] M1
 else none
 else none)
 else none) :=
 (x_run D 210 (fun i => C_210.getD i s_none) rfl (fun i => Nat.beq i 4 || Nat.beq i 18) 49 18 [.inr 62, .inr 68, .inl x2, .inl x3, .inl x4, .inl x5] [] M).trans rfl
set_option maxRecDepth 10000 in
theorem T_M_partedSets_78 (D : Nat)  (M : pM) : xF (D + 1) 210 [.inr 62, .inr 80] M =
 xE D 210 4 [.inr 62, .inr 80, .inl 0, .inl 0, .inr 0, .inr 0] [] M :=
 (show xF (D + 1) 210 [.inr 62, .inr 80] M = xE D 210 0 [.inr 62, .inr 80, .inr 0, .inr 0, .inr 0, .inr 0] [] M from rfl).trans ((x_run D 210 (fun i => C_210.getD i s_none) rfl (fun i => Nat.beq i 4 || Nat.beq i 18) 49 0 [.inr 62, .inr 80, .inr 0, .inr 0, .inr 0, .inr 0] [] M).trans rfl)
set_option maxRecDepth 10000 in
theorem L_M_partedSets_78_4 (D : Nat) (x2 : Int) (x3 : Int) (yx4 : pV) (yx5 : pV) (M : pM) : xE D 210 4 [.inr 62, .inr 80, .inl x2, .inl x3, yx4, yx5] [] M =
 if le32 (M 60 8) x3 then
 some (some (.inl x2), M)
 else
 (if 0 ≤ x3 ∧ x3 < 8 then
 pbI (xF D 271 [.inl (jor (M 67 x3.toNat) 1024)] M) fun v2 M1 =>
 xE D 210 18 [.inr 62, .inr 80, .inl x2, .inl x3, .inl v2, .inl 0] [] M1
 else none) :=
 (x_run D 210 (fun i => C_210.getD i s_none) rfl (fun i => Nat.beq i 4 || Nat.beq i 18) 49 4 [.inr 62, .inr 80, .inl x2, .inl x3, yx4, yx5] [] M).trans rfl
set_option maxRecDepth 10000 in
theorem L_M_partedSets_78_18 (D : Nat) (x2 : Int) (x3 : Int) (x4 : Int) (x5 : Int) (M : pM) : xE D 210 18 [.inr 62, .inr 80, .inl x2, .inl x3, .inl x4, .inl x5] [] M =
 if le32 (M 60 3) x5 then
 xE D 210 4 [.inr 62, .inr 80, .inl x2, .inl (x3 + 1), .inl x4, .inl x5] [] M
 else
 (if 0 ≤ x3 ∧ x3 < 8 then
 pbI (xF D 170 [.inl (M 67 x3.toNat), .inl x5] M) fun v2 M1 =>
 if eq32 v2 0 then
 xE D 210 18 [.inr 62, .inr 80, .inl x2, .inl x3, .inl x4, .inl (x5 + 1)] [] M1
 else
 (if 0 ≤ x5 ∧ x5 < 10 then
 if 0 ≤ x4 ∧ x4 < 10 then
 if eq32 (M1 78 x5.toNat) (M1 78 x4.toNat) then
 xE D 210 18 [.inr 62, .inr 80, .inl x2, .inl x3, .inl x4, .inl (x5 + 1)] [] M1
 else
 xE D 210 18 [.inr 62, .inr 80, .inl (jor x2 (jshl 1 x3)), .inl x3, .inl x4, .inl (x5 + 1)] [] M1
 else none
 else none)
 else none) :=
 (x_run D 210 (fun i => C_210.getD i s_none) rfl (fun i => Nat.beq i 4 || Nat.beq i 18) 49 18 [.inr 62, .inr 80, .inl x2, .inl x3, .inl x4, .inl x5] [] M).trans rfl
set_option maxRecDepth 10000 in
theorem T_M_partedSets_81 (D : Nat)  (M : pM) : xF (D + 1) 210 [.inr 62, .inr 83] M =
 xE D 210 4 [.inr 62, .inr 83, .inl 0, .inl 0, .inr 0, .inr 0] [] M :=
 (show xF (D + 1) 210 [.inr 62, .inr 83] M = xE D 210 0 [.inr 62, .inr 83, .inr 0, .inr 0, .inr 0, .inr 0] [] M from rfl).trans ((x_run D 210 (fun i => C_210.getD i s_none) rfl (fun i => Nat.beq i 4 || Nat.beq i 18) 49 0 [.inr 62, .inr 83, .inr 0, .inr 0, .inr 0, .inr 0] [] M).trans rfl)
set_option maxRecDepth 10000 in
theorem L_M_partedSets_81_4 (D : Nat) (x2 : Int) (x3 : Int) (yx4 : pV) (yx5 : pV) (M : pM) : xE D 210 4 [.inr 62, .inr 83, .inl x2, .inl x3, yx4, yx5] [] M =
 if le32 (M 60 8) x3 then
 some (some (.inl x2), M)
 else
 (if 0 ≤ x3 ∧ x3 < 8 then
 pbI (xF D 271 [.inl (jor (M 67 x3.toNat) 1024)] M) fun v2 M1 =>
 xE D 210 18 [.inr 62, .inr 83, .inl x2, .inl x3, .inl v2, .inl 0] [] M1
 else none) :=
 (x_run D 210 (fun i => C_210.getD i s_none) rfl (fun i => Nat.beq i 4 || Nat.beq i 18) 49 4 [.inr 62, .inr 83, .inl x2, .inl x3, yx4, yx5] [] M).trans rfl
set_option maxRecDepth 10000 in
theorem L_M_partedSets_81_18 (D : Nat) (x2 : Int) (x3 : Int) (x4 : Int) (x5 : Int) (M : pM) : xE D 210 18 [.inr 62, .inr 83, .inl x2, .inl x3, .inl x4, .inl x5] [] M =
 if le32 (M 60 3) x5 then
 xE D 210 4 [.inr 62, .inr 83, .inl x2, .inl (x3 + 1), .inl x4, .inl x5] [] M
 else
 (if 0 ≤ x3 ∧ x3 < 8 then
 pbI (xF D 170 [.inl (M 67 x3.toNat), .inl x5] M) fun v2 M1 =>
 if eq32 v2 0 then
 xE D 210 18 [.inr 62, .inr 83, .inl x2, .inl x3, .inl x4, .inl (x5 + 1)] [] M1
 else
 (if 0 ≤ x5 ∧ x5 < 10 then
 if 0 ≤ x4 ∧ x4 < 10 then
 if eq32 (M1 81 x5.toNat) (M1 81 x4.toNat) then
 xE D 210 18 [.inr 62, .inr 83, .inl x2, .inl x3, .inl x4, .inl (x5 + 1)] [] M1
 else
 xE D 210 18 [.inr 62, .inr 83, .inl (jor x2 (jshl 1 x3)), .inl x3, .inl x4, .inl (x5 + 1)] [] M1
 else none
 else none)
 else none) :=
 (x_run D 210 (fun i => C_210.getD i s_none) rfl (fun i => Nat.beq i 4 || Nat.beq i 18) 49 18 [.inr 62, .inr 83, .inl x2, .inl x3, .inl x4, .inl x5] [] M).trans rfl
set_option maxRecDepth 10000 in
theorem T_M_fullRooms_66 (D : Nat)  (M : pM) : xF (D + 1) 211 [.inr 62, .inr 68] M =
 xE D 211 4 [.inr 62, .inr 68, .inl 0, .inl 0] [] M :=
 (show xF (D + 1) 211 [.inr 62, .inr 68] M = xE D 211 0 [.inr 62, .inr 68, .inr 0, .inr 0] [] M from rfl).trans ((x_run D 211 (fun i => C_211.getD i s_none) rfl (fun i => Nat.beq i 4) 26 0 [.inr 62, .inr 68, .inr 0, .inr 0] [] M).trans rfl)
set_option maxRecDepth 10000 in
theorem L_M_fullRooms_66_4 (D : Nat) (x2 : Int) (x3 : Int) (M : pM) : xE D 211 4 [.inr 62, .inr 68, .inl x2, .inl x3] [] M =
 if le32 (M 60 0) x3 then
 some (some (.inl x2), M)
 else
 (pbI (xF D 198 [.inr 62, .inr 68, .inl x3] M) fun v2 M1 =>
 if le32 0 v2 then
 xE D 211 4 [.inr 62, .inr 68, .inl (jor x2 0), .inl (x3 + 1)] [] M1
 else
 xE D 211 4 [.inr 62, .inr 68, .inl (jor x2 (jshl 1 x3)), .inl (x3 + 1)] [] M1) :=
 (x_run D 211 (fun i => C_211.getD i s_none) rfl (fun i => Nat.beq i 4) 26 4 [.inr 62, .inr 68, .inl x2, .inl x3] [] M).trans rfl
set_option maxRecDepth 10000 in
theorem T_M_fullRooms_78 (D : Nat)  (M : pM) : xF (D + 1) 211 [.inr 62, .inr 80] M =
 xE D 211 4 [.inr 62, .inr 80, .inl 0, .inl 0] [] M :=
 (show xF (D + 1) 211 [.inr 62, .inr 80] M = xE D 211 0 [.inr 62, .inr 80, .inr 0, .inr 0] [] M from rfl).trans ((x_run D 211 (fun i => C_211.getD i s_none) rfl (fun i => Nat.beq i 4) 26 0 [.inr 62, .inr 80, .inr 0, .inr 0] [] M).trans rfl)
set_option maxRecDepth 10000 in
theorem L_M_fullRooms_78_4 (D : Nat) (x2 : Int) (x3 : Int) (M : pM) : xE D 211 4 [.inr 62, .inr 80, .inl x2, .inl x3] [] M =
 if le32 (M 60 0) x3 then
 some (some (.inl x2), M)
 else
 (pbI (xF D 198 [.inr 62, .inr 80, .inl x3] M) fun v2 M1 =>
 if le32 0 v2 then
 xE D 211 4 [.inr 62, .inr 80, .inl (jor x2 0), .inl (x3 + 1)] [] M1
 else
 xE D 211 4 [.inr 62, .inr 80, .inl (jor x2 (jshl 1 x3)), .inl (x3 + 1)] [] M1) :=
 (x_run D 211 (fun i => C_211.getD i s_none) rfl (fun i => Nat.beq i 4) 26 4 [.inr 62, .inr 80, .inl x2, .inl x3] [] M).trans rfl
set_option maxRecDepth 10000 in
theorem T_M_isLawful_66 (D : Nat)  (M : pM) : xF (D + 1) 212 [.inr 62, .inr 68] M =
 pbI (xF D 210 [.inr 62, .inr 68] M) fun v2 M1 =>
 if ¬ eq32 v2 0 then
 some (some (.inl 0), M1)
 else
 (pbI (xF D 211 [.inr 62, .inr 68] M1) fun v4 M3 =>
 if ¬ eq32 v4 0 then
 some (some (.inl 0), M3)
 else
 some (some (.inl 1), M3)) :=
 (show xF (D + 1) 212 [.inr 62, .inr 68] M = xE D 212 0 [.inr 62, .inr 68] [] M from rfl).trans ((x_run D 212 (fun i => C_212.getD i s_none) rfl (fun _ => false) 13 0 [.inr 62, .inr 68] [] M).trans rfl)
set_option maxRecDepth 10000 in
theorem T_M_isLawful_78 (D : Nat)  (M : pM) : xF (D + 1) 212 [.inr 62, .inr 80] M =
 pbI (xF D 210 [.inr 62, .inr 80] M) fun v2 M1 =>
 if ¬ eq32 v2 0 then
 some (some (.inl 0), M1)
 else
 (pbI (xF D 211 [.inr 62, .inr 80] M1) fun v4 M3 =>
 if ¬ eq32 v4 0 then
 some (some (.inl 0), M3)
 else
 some (some (.inl 1), M3)) :=
 (show xF (D + 1) 212 [.inr 62, .inr 80] M = xE D 212 0 [.inr 62, .inr 80] [] M from rfl).trans ((x_run D 212 (fun i => C_212.getD i s_none) rfl (fun _ => false) 13 0 [.inr 62, .inr 80] [] M).trans rfl)
set_option maxRecDepth 10000 in
theorem T_M_refusal (D : Nat) (b : Int) (c : Int) (M : pM) : xF (D + 1) 213 [.inr 62, .inl b, .inl c] M =
 pbI (xF D 174 [.inr 62, .inl b] M) fun v2 M1 =>
 if eq32 v2 0 then
 some (some (.inl (-1)), M1)
 else
 (pbI (xF D 173 [.inr 62, .inl c] M1) fun v4 M3 =>
 if ¬ eq32 v4 0 then
 (if 0 ≤ b ∧ b < 10 then
 pbI (xF D 208 [.inr 62, .inl b, .inl (M3 66 b.toNat), .inl c] M3) fun v6 M5 =>
 if lt32 v6 1000000 then
 (if 0 ≤ b ∧ b < 10 then
 if le32 ((M5 60 11) + (v6 * (M5 65 b.toNat))) (M5 60 12) then
 some (some (.inl 0), M5)
 else
 some (some (.inl (-3)), M5)
 else none)
 else
 some (some (.inl (-2)), M5)
 else none)
 else
 some (some (.inl (-1)), M3)) :=
 (show xF (D + 1) 213 [.inr 62, .inl b, .inl c] M = xE D 213 0 [.inr 62, .inl b, .inl c, .inr 0] [] M from rfl).trans ((x_run D 213 (fun i => C_213.getD i s_none) rfl (fun _ => false) 41 0 [.inr 62, .inl b, .inl c, .inr 0] [] M).trans rfl)
set_option maxRecDepth 10000 in
theorem T_M_carries (D : Nat) (b : Int) (c : Int) (M : pM) : xF (D + 1) 214 [.inr 62, .inl b, .inl c] M =
 if 0 ≤ b ∧ b < 10 then
 pbI (xF D 208 [.inr 62, .inl b, .inl (M 66 b.toNat), .inl c] M) fun v2 M1 =>
 if 0 ≤ b ∧ b < 10 then
 if 0 ≤ b ∧ b < 10 then
 some (some (.inl (v2 * (M1 65 b.toNat))), pset (pset M1 66 b.toNat c) 60 11 (((pset M1 66 b.toNat c) 60 11) + (v2 * (M1 65 b.toNat))))
 else none
 else none
 else none :=
 (show xF (D + 1) 214 [.inr 62, .inl b, .inl c] M = xE D 214 0 [.inr 62, .inl b, .inl c, .inr 0] [] M from rfl).trans ((x_run D 214 (fun i => C_214.getD i s_none) rfl (fun _ => false) 28 0 [.inr 62, .inl b, .inl c, .inr 0] [] M).trans rfl)
set_option maxRecDepth 10000 in
theorem T_M_remember (D : Nat) (b : Int) (M : pM) : xF (D + 1) 215 [.inr 62, .inl b] M =
 if ¬ eq32 (M 60 33) 20 then
 (if 0 ≤ 3 * (M 60 33) ∧ 3 * (M 60 33) < 60 then
 if 0 ≤ b ∧ b < 10 then
 if 0 ≤ (3 * ((pset M 75 ((3 * (M 60 33)).toNat) b) 60 33)) + 1 ∧ (3 * ((pset M 75 ((3 * (M 60 33)).toNat) b) 60 33)) + 1 < 60 then
 if 0 ≤ (3 * ((pset (pset M 75 ((3 * (M 60 33)).toNat) b) 75 (((3 * ((pset M 75 ((3 * (M 60 33)).toNat) b) 60 33)) + 1).toNat) ((pset M 75 ((3 * (M 60 33)).toNat) b) 66 b.toNat)) 60 33)) + 2 ∧ (3 * ((pset (pset M 75 ((3 * (M 60 33)).toNat) b) 75 (((3 * ((pset M 75 ((3 * (M 60 33)).toNat) b) 60 33)) + 1).toNat) ((pset M 75 ((3 * (M 60 33)).toNat) b) 66 b.toNat)) 60 33)) + 2 < 60 then
 some (none, pset (pset (pset (pset M 75 ((3 * (M 60 33)).toNat) b) 75 (((3 * ((pset M 75 ((3 * (M 60 33)).toNat) b) 60 33)) + 1).toNat) ((pset M 75 ((3 * (M 60 33)).toNat) b) 66 b.toNat)) 75 (((3 * ((pset (pset M 75 ((3 * (M 60 33)).toNat) b) 75 (((3 * ((pset M 75 ((3 * (M 60 33)).toNat) b) 60 33)) + 1).toNat) ((pset M 75 ((3 * (M 60 33)).toNat) b) 66 b.toNat)) 60 33)) + 2).toNat) ((pset (pset M 75 ((3 * (M 60 33)).toNat) b) 75 (((3 * ((pset M 75 ((3 * (M 60 33)).toNat) b) 60 33)) + 1).toNat) ((pset M 75 ((3 * (M 60 33)).toNat) b) 66 b.toNat)) 60 11)) 60 33 (((pset (pset (pset M 75 ((3 * (M 60 33)).toNat) b) 75 (((3 * ((pset M 75 ((3 * (M 60 33)).toNat) b) 60 33)) + 1).toNat) ((pset M 75 ((3 * (M 60 33)).toNat) b) 66 b.toNat)) 75 (((3 * ((pset (pset M 75 ((3 * (M 60 33)).toNat) b) 75 (((3 * ((pset M 75 ((3 * (M 60 33)).toNat) b) 60 33)) + 1).toNat) ((pset M 75 ((3 * (M 60 33)).toNat) b) 66 b.toNat)) 60 33)) + 2).toNat) ((pset (pset M 75 ((3 * (M 60 33)).toNat) b) 75 (((3 * ((pset M 75 ((3 * (M 60 33)).toNat) b) 60 33)) + 1).toNat) ((pset M 75 ((3 * (M 60 33)).toNat) b) 66 b.toNat)) 60 11)) 60 33) + 1))
 else none
 else none
 else none
 else none)
 else
 xE D 215 6 [.inr 62, .inl b, .inl 0] [] M :=
 (show xF (D + 1) 215 [.inr 62, .inl b] M = xE D 215 0 [.inr 62, .inl b, .inr 0] [] M from rfl).trans ((x_run D 215 (fun i => C_215.getD i s_none) rfl (fun i => Nat.beq i 6) 67 0 [.inr 62, .inl b, .inr 0] [] M).trans rfl)
set_option maxRecDepth 10000 in
theorem L_M_remember_6 (D : Nat) (x1 : Int) (x2 : Int) (M : pM) : xE D 215 6 [.inr 62, .inl x1, .inl x2] [] M =
 if le32 57 x2 then
 (if 0 ≤ 3 * ((pset M 60 33 ((M 60 33) - 1)) 60 33) ∧ 3 * ((pset M 60 33 ((M 60 33) - 1)) 60 33) < 60 then
 if 0 ≤ x1 ∧ x1 < 10 then
 if 0 ≤ (3 * ((pset (pset M 60 33 ((M 60 33) - 1)) 75 ((3 * ((pset M 60 33 ((M 60 33) - 1)) 60 33)).toNat) x1) 60 33)) + 1 ∧ (3 * ((pset (pset M 60 33 ((M 60 33) - 1)) 75 ((3 * ((pset M 60 33 ((M 60 33) - 1)) 60 33)).toNat) x1) 60 33)) + 1 < 60 then
 if 0 ≤ (3 * ((pset (pset (pset M 60 33 ((M 60 33) - 1)) 75 ((3 * ((pset M 60 33 ((M 60 33) - 1)) 60 33)).toNat) x1) 75 (((3 * ((pset (pset M 60 33 ((M 60 33) - 1)) 75 ((3 * ((pset M 60 33 ((M 60 33) - 1)) 60 33)).toNat) x1) 60 33)) + 1).toNat) ((pset (pset M 60 33 ((M 60 33) - 1)) 75 ((3 * ((pset M 60 33 ((M 60 33) - 1)) 60 33)).toNat) x1) 66 x1.toNat)) 60 33)) + 2 ∧ (3 * ((pset (pset (pset M 60 33 ((M 60 33) - 1)) 75 ((3 * ((pset M 60 33 ((M 60 33) - 1)) 60 33)).toNat) x1) 75 (((3 * ((pset (pset M 60 33 ((M 60 33) - 1)) 75 ((3 * ((pset M 60 33 ((M 60 33) - 1)) 60 33)).toNat) x1) 60 33)) + 1).toNat) ((pset (pset M 60 33 ((M 60 33) - 1)) 75 ((3 * ((pset M 60 33 ((M 60 33) - 1)) 60 33)).toNat) x1) 66 x1.toNat)) 60 33)) + 2 < 60 then
 some (none, pset (pset (pset (pset (pset M 60 33 ((M 60 33) - 1)) 75 ((3 * ((pset M 60 33 ((M 60 33) - 1)) 60 33)).toNat) x1) 75 (((3 * ((pset (pset M 60 33 ((M 60 33) - 1)) 75 ((3 * ((pset M 60 33 ((M 60 33) - 1)) 60 33)).toNat) x1) 60 33)) + 1).toNat) ((pset (pset M 60 33 ((M 60 33) - 1)) 75 ((3 * ((pset M 60 33 ((M 60 33) - 1)) 60 33)).toNat) x1) 66 x1.toNat)) 75 (((3 * ((pset (pset (pset M 60 33 ((M 60 33) - 1)) 75 ((3 * ((pset M 60 33 ((M 60 33) - 1)) 60 33)).toNat) x1) 75 (((3 * ((pset (pset M 60 33 ((M 60 33) - 1)) 75 ((3 * ((pset M 60 33 ((M 60 33) - 1)) 60 33)).toNat) x1) 60 33)) + 1).toNat) ((pset (pset M 60 33 ((M 60 33) - 1)) 75 ((3 * ((pset M 60 33 ((M 60 33) - 1)) 60 33)).toNat) x1) 66 x1.toNat)) 60 33)) + 2).toNat) ((pset (pset (pset M 60 33 ((M 60 33) - 1)) 75 ((3 * ((pset M 60 33 ((M 60 33) - 1)) 60 33)).toNat) x1) 75 (((3 * ((pset (pset M 60 33 ((M 60 33) - 1)) 75 ((3 * ((pset M 60 33 ((M 60 33) - 1)) 60 33)).toNat) x1) 60 33)) + 1).toNat) ((pset (pset M 60 33 ((M 60 33) - 1)) 75 ((3 * ((pset M 60 33 ((M 60 33) - 1)) 60 33)).toNat) x1) 66 x1.toNat)) 60 11)) 60 33 (((pset (pset (pset (pset M 60 33 ((M 60 33) - 1)) 75 ((3 * ((pset M 60 33 ((M 60 33) - 1)) 60 33)).toNat) x1) 75 (((3 * ((pset (pset M 60 33 ((M 60 33) - 1)) 75 ((3 * ((pset M 60 33 ((M 60 33) - 1)) 60 33)).toNat) x1) 60 33)) + 1).toNat) ((pset (pset M 60 33 ((M 60 33) - 1)) 75 ((3 * ((pset M 60 33 ((M 60 33) - 1)) 60 33)).toNat) x1) 66 x1.toNat)) 75 (((3 * ((pset (pset (pset M 60 33 ((M 60 33) - 1)) 75 ((3 * ((pset M 60 33 ((M 60 33) - 1)) 60 33)).toNat) x1) 75 (((3 * ((pset (pset M 60 33 ((M 60 33) - 1)) 75 ((3 * ((pset M 60 33 ((M 60 33) - 1)) 60 33)).toNat) x1) 60 33)) + 1).toNat) ((pset (pset M 60 33 ((M 60 33) - 1)) 75 ((3 * ((pset M 60 33 ((M 60 33) - 1)) 60 33)).toNat) x1) 66 x1.toNat)) 60 33)) + 2).toNat) ((pset (pset (pset M 60 33 ((M 60 33) - 1)) 75 ((3 * ((pset M 60 33 ((M 60 33) - 1)) 60 33)).toNat) x1) 75 (((3 * ((pset (pset M 60 33 ((M 60 33) - 1)) 75 ((3 * ((pset M 60 33 ((M 60 33) - 1)) 60 33)).toNat) x1) 60 33)) + 1).toNat) ((pset (pset M 60 33 ((M 60 33) - 1)) 75 ((3 * ((pset M 60 33 ((M 60 33) - 1)) 60 33)).toNat) x1) 66 x1.toNat)) 60 11)) 60 33) + 1))
 else none
 else none
 else none
 else none)
 else
 (if 0 ≤ x2 + 3 ∧ x2 + 3 < 60 then
 if 0 ≤ x2 ∧ x2 < 60 then
 xE D 215 6 [.inr 62, .inl x1, .inl (x2 + 1)] [] (pset M 75 x2.toNat (M 75 ((x2 + 3).toNat)))
 else none
 else none) :=
 (x_run D 215 (fun i => C_215.getD i s_none) rfl (fun i => Nat.beq i 6) 67 6 [.inr 62, .inl x1, .inl x2] [] M).trans rfl
set_option maxRecDepth 10000 in
theorem T_M_carry (D : Nat) (b : Int) (c : Int) (M : pM) : xF (D + 1) 216 [.inr 62, .inl b, .inl c] M =
 pbI (xF D 213 [.inr 62, .inl b, .inl c] (pset M 60 17 0)) fun v2 M1 =>
 if le32 0 v2 then
 (pbN (xF D 215 [.inr 62, .inl b] M1) fun M3 =>
 pbI (xF D 214 [.inr 62, .inl b, .inl c] M3) fun v5 M4 =>
 some (some (.inl v5), M4))
 else
 some (some (.inl v2), M1) :=
 (show xF (D + 1) 216 [.inr 62, .inl b, .inl c] M = xE D 216 0 [.inr 62, .inl b, .inl c, .inr 0] [] M from rfl).trans ((x_run D 216 (fun i => C_216.getD i s_none) rfl (fun _ => false) 21 0 [.inr 62, .inl b, .inl c, .inr 0] [] M).trans rfl)
set_option maxRecDepth 10000 in
theorem T_M_goEvening (D : Nat)  (M : pM) : xF (D + 1) 217 [.inr 62] M =
 pbI (xF D 212 [.inr 62, .inr 68] M) fun v2 M1 =>
 if ¬ eq32 v2 0 then
 some (some (.inl 1), pset (pset (pset M1 60 10 ((M1 60 10) + 1)) 60 11 0) 60 33 0)
 else
 some (some (.inl 0), M1) :=
 (show xF (D + 1) 217 [.inr 62] M = xE D 217 0 [.inr 62] [] M from rfl).trans ((x_run D 217 (fun i => C_217.getD i s_none) rfl (fun _ => false) 22 0 [.inr 62] [] M).trans rfl)
set_option maxRecDepth 10000 in
theorem T_M_evening (D : Nat)  (M : pM) : xF (D + 1) 218 [.inr 62] M =
 pbI (xF D 210 [.inr 62, .inr 68] (pset M 60 17 0)) fun v2 M1 =>
 pbI (xF D 211 [.inr 62, .inr 68] M1) fun v4 M3 =>
 pbN (xF D 172 [.inr 62, .inl v2] (pset M3 60 16 0)) fun M5 =>
 pbN (xF D 172 [.inr 62, .inl v4] M5) fun M6 =>
 pbI (xF D 217 [.inr 62] M6) fun v8 M7 =>
 if eq32 v8 0 then
 some (some (.inl 0), M7)
 else
 some (some (.inl 1), M7) :=
 (show xF (D + 1) 218 [.inr 62] M = xE D 218 0 [.inr 62, .inr 0, .inr 0] [] M from rfl).trans ((x_run D 218 (fun i => C_218.getD i s_none) rfl (fun _ => false) 30 0 [.inr 62, .inr 0, .inr 0] [] M).trans rfl)
set_option maxRecDepth 10000 in
theorem T_M_day (D : Nat)  (M : pM) : xF (D + 1) 219 [.inr 62] M =
 pbN (xF D 177 [.inr 62, .inr 70, .inl ((pset M 60 17 0) 60 14), .inl 40] (pset M 60 17 0)) fun M1 =>
 if le32 ((pset M1 60 14 0) 60 19) 0 then
 xE D 219 22 [.inr 62, .inl 0, .inl 0, .inr 0, .inr 0] [] (pset M1 60 14 0)
 else
 xE D 219 22 [.inr 62, .inl 0, .inl 1, .inr 0, .inr 0] [] (pset M1 60 14 0) :=
 (show xF (D + 1) 219 [.inr 62] M = xE D 219 0 [.inr 62, .inr 0, .inr 0, .inr 0, .inr 0] [] M from rfl).trans ((x_run D 219 (fun i => C_219.getD i s_none) rfl (fun i => Nat.beq i 22 || Nat.beq i 96) 167 0 [.inr 62, .inr 0, .inr 0, .inr 0, .inr 0] [] M).trans rfl)
set_option maxRecDepth 10000 in
theorem L_M_day_22 (D : Nat) (x1 : Int) (x2 : Int) (M : pM) : xE D 219 22 [.inr 62, .inl x1, .inl x2, .inr 0, .inr 0] [] M =
 if eq32 x2 0 then
 (if le32 (M 60 19) (M 60 21) then
 (pbI (xF D 179 [.inr 62] M) fun v2 M1 =>
 if ¬ eq32 v2 0 then
 xE D 219 96 [.inr 62, .inl x1, .inl x2, .inl 0, .inl 0] [] M1
 else
 some (some (.inl ((-1) - (M1 60 22))), M1))
 else
 (pbN (xF D 180 [.inr 62, .inl (M 60 21)] M) fun M3 =>
 pbI (xF D 179 [.inr 62] M3) fun v5 M4 =>
 if ¬ eq32 v5 0 then
 xE D 219 96 [.inr 62, .inl x1, .inl x2, .inl 0, .inl 0] [] M4
 else
 some (some (.inl ((-1) - (M4 60 22))), M4)))
 else
 (pbI (xF D 179 [.inr 62] M) fun v7 M6 =>
 if eq32 v7 0 then
 (if le32 (M6 60 19) (M6 60 21) then
 (pbI (xF D 179 [.inr 62] M6) fun v9 M8 =>
 if ¬ eq32 v9 0 then
 xE D 219 96 [.inr 62, .inl x1, .inl x2, .inl 0, .inl 0] [] M8
 else
 some (some (.inl ((-1) - (M8 60 22))), M8))
 else
 (pbN (xF D 180 [.inr 62, .inl (M6 60 21)] M6) fun M10 =>
 pbI (xF D 179 [.inr 62] M10) fun v12 M11 =>
 if ¬ eq32 v12 0 then
 xE D 219 96 [.inr 62, .inl x1, .inl x2, .inl 0, .inl 0] [] M11
 else
 some (some (.inl ((-1) - (M11 60 22))), M11)))
 else
 (pbI (xF D 178 [.inr 62] M6) fun v14 M13 =>
 pbI (xF D 169 [.inl v14, .inl 97, .inl 106] M13) fun v16 M15 =>
 if ¬ eq32 v16 0 then
 (pbI (xF D 178 [.inr 62] M15) fun v18 M17 =>
 if 0 ≤ 2 * x1 ∧ 2 * x1 < 80 then
 pbN (xF D 182 [.inr 62, .inl 62] (pset (pset M17 76 ((2 * x1).toNat) (v18 - 97)) 60 21 (((pset M17 76 ((2 * x1).toNat) (v18 - 97)) 60 21) + 1))) fun M19 =>
 pbI (xF D 183 [.inr 62, .inl 1, .inl 0, .inl 9] M19) fun v21 M20 =>
 if 0 ≤ (2 * x1) + 1 ∧ (2 * x1) + 1 < 80 then
 pbI (xF D 181 [.inr 62, .inl 59] (pset M20 76 (((2 * x1) + 1).toNat) v21)) fun v23 M22 =>
 xE D 219 22 [.inr 62, .inl (x1 + 1), .inl v23, .inr 0, .inr 0] [] M22
 else none
 else none)
 else
 (pbN (xF D 180 [.inr 62, .inl (M15 60 21)] M15) fun M24 =>
 pbI (xF D 178 [.inr 62] M24) fun v26 M25 =>
 if 0 ≤ 2 * x1 ∧ 2 * x1 < 80 then
 pbN (xF D 182 [.inr 62, .inl 62] (pset (pset M25 76 ((2 * x1).toNat) (v26 - 97)) 60 21 (((pset M25 76 ((2 * x1).toNat) (v26 - 97)) 60 21) + 1))) fun M27 =>
 pbI (xF D 183 [.inr 62, .inl 1, .inl 0, .inl 9] M27) fun v29 M28 =>
 if 0 ≤ (2 * x1) + 1 ∧ (2 * x1) + 1 < 80 then
 pbI (xF D 181 [.inr 62, .inl 59] (pset M28 76 (((2 * x1) + 1).toNat) v29)) fun v31 M30 =>
 xE D 219 22 [.inr 62, .inl (x1 + 1), .inl v31, .inr 0, .inr 0] [] M30
 else none
 else none))) :=
 (x_run D 219 (fun i => C_219.getD i s_none) rfl (fun i => Nat.beq i 22 || Nat.beq i 96) 167 22 [.inr 62, .inl x1, .inl x2, .inr 0, .inr 0] [] M).trans rfl
set_option maxRecDepth 10000 in
theorem L_M_day_96 (D : Nat) (x1 : Int) (x2 : Int) (x3 : Int) (x4 : Int) (M : pM) : xE D 219 96 [.inr 62, .inl x1, .inl x2, .inl x3, .inl x4] [] M =
 if le32 x1 x3 then
 (if le32 x1 x3 then
 (pbI (xF D 217 [.inr 62] (pset M 60 16 0)) fun v2 M1 =>
 if eq32 v2 0 then
 (pbN (xF D 172 [.inr 62, .inl 0] M1) fun M3 =>
 pbN (xF D 172 [.inr 62, .inl x4] M3) fun M4 =>
 some (some (.inl x3), M4))
 else
 (pbN (xF D 172 [.inr 62, .inl 1] M1) fun M5 =>
 pbN (xF D 172 [.inr 62, .inl x4] M5) fun M6 =>
 some (some (.inl x3), M6)))
 else
 (pbN (xF D 172 [.inr 62, .inl (-1)] (pset M 60 16 0)) fun M7 =>
 pbN (xF D 172 [.inr 62, .inl x4] M7) fun M8 =>
 some (some (.inl x3), M8)))
 else
 (if 0 ≤ 2 * x3 ∧ 2 * x3 < 80 then
 if 0 ≤ (2 * x3) + 1 ∧ (2 * x3) + 1 < 80 then
 pbI (xF D 213 [.inr 62, .inl (M 76 ((2 * x3).toNat)), .inl (M 76 (((2 * x3) + 1).toNat))] M) fun v10 M9 =>
 if ¬ eq32 v10 0 then
 (if le32 x1 x3 then
 (pbI (xF D 217 [.inr 62] (pset M9 60 16 0)) fun v12 M11 =>
 if eq32 v12 0 then
 (pbN (xF D 172 [.inr 62, .inl 0] M11) fun M13 =>
 pbN (xF D 172 [.inr 62, .inl x4] M13) fun M14 =>
 some (some (.inl x3), M14))
 else
 (pbN (xF D 172 [.inr 62, .inl 1] M11) fun M15 =>
 pbN (xF D 172 [.inr 62, .inl x4] M15) fun M16 =>
 some (some (.inl x3), M16)))
 else
 (pbN (xF D 172 [.inr 62, .inl (-1)] (pset M9 60 16 0)) fun M17 =>
 pbN (xF D 172 [.inr 62, .inl x4] M17) fun M18 =>
 some (some (.inl x3), M18)))
 else
 (if 0 ≤ 2 * x3 ∧ 2 * x3 < 80 then
 pbN (xF D 215 [.inr 62, .inl (M9 76 ((2 * x3).toNat))] M9) fun M19 =>
 if 0 ≤ 2 * x3 ∧ 2 * x3 < 80 then
 if 0 ≤ (2 * x3) + 1 ∧ (2 * x3) + 1 < 80 then
 pbI (xF D 214 [.inr 62, .inl (M19 76 ((2 * x3).toNat)), .inl (M19 76 (((2 * x3) + 1).toNat))] M19) fun v21 M20 =>
 xE D 219 96 [.inr 62, .inl x1, .inl x2, .inl (x3 + 1), .inl (x4 + v21)] [] M20
 else none
 else none
 else none)
 else none
 else none) :=
 (x_run D 219 (fun i => C_219.getD i s_none) rfl (fun i => Nat.beq i 22 || Nat.beq i 96) 167 96 [.inr 62, .inl x1, .inl x2, .inl x3, .inl x4] [] M).trans rfl
set_option maxRecDepth 10000 in
theorem T_M_undo (D : Nat)  (M : pM) : xF (D + 1) 220 [.inr 62] M =
 if ¬ eq32 ((pset M 60 17 0) 60 33) 0 then
 (if 0 ≤ 3 * ((pset (pset M 60 17 0) 60 33 (((pset M 60 17 0) 60 33) - 1)) 60 33) ∧ 3 * ((pset (pset M 60 17 0) 60 33 (((pset M 60 17 0) 60 33) - 1)) 60 33) < 60 then
 if 0 ≤ (3 * ((pset (pset M 60 17 0) 60 33 (((pset M 60 17 0) 60 33) - 1)) 60 33)) + 1 ∧ (3 * ((pset (pset M 60 17 0) 60 33 (((pset M 60 17 0) 60 33) - 1)) 60 33)) + 1 < 60 then
 if 0 ≤ (pset (pset M 60 17 0) 60 33 (((pset M 60 17 0) 60 33) - 1)) 75 ((3 * ((pset (pset M 60 17 0) 60 33 (((pset M 60 17 0) 60 33) - 1)) 60 33)).toNat) ∧ (pset (pset M 60 17 0) 60 33 (((pset M 60 17 0) 60 33) - 1)) 75 ((3 * ((pset (pset M 60 17 0) 60 33 (((pset M 60 17 0) 60 33) - 1)) 60 33)).toNat) < 10 then
 if 0 ≤ (3 * ((pset (pset (pset M 60 17 0) 60 33 (((pset M 60 17 0) 60 33) - 1)) 66 (((pset (pset M 60 17 0) 60 33 (((pset M 60 17 0) 60 33) - 1)) 75 ((3 * ((pset (pset M 60 17 0) 60 33 (((pset M 60 17 0) 60 33) - 1)) 60 33)).toNat)).toNat) ((pset (pset M 60 17 0) 60 33 (((pset M 60 17 0) 60 33) - 1)) 75 (((3 * ((pset (pset M 60 17 0) 60 33 (((pset M 60 17 0) 60 33) - 1)) 60 33)) + 1).toNat))) 60 33)) + 2 ∧ (3 * ((pset (pset (pset M 60 17 0) 60 33 (((pset M 60 17 0) 60 33) - 1)) 66 (((pset (pset M 60 17 0) 60 33 (((pset M 60 17 0) 60 33) - 1)) 75 ((3 * ((pset (pset M 60 17 0) 60 33 (((pset M 60 17 0) 60 33) - 1)) 60 33)).toNat)).toNat) ((pset (pset M 60 17 0) 60 33 (((pset M 60 17 0) 60 33) - 1)) 75 (((3 * ((pset (pset M 60 17 0) 60 33 (((pset M 60 17 0) 60 33) - 1)) 60 33)) + 1).toNat))) 60 33)) + 2 < 60 then
 some (some (.inl ((pset (pset (pset (pset M 60 17 0) 60 33 (((pset M 60 17 0) 60 33) - 1)) 66 (((pset (pset M 60 17 0) 60 33 (((pset M 60 17 0) 60 33) - 1)) 75 ((3 * ((pset (pset M 60 17 0) 60 33 (((pset M 60 17 0) 60 33) - 1)) 60 33)).toNat)).toNat) ((pset (pset M 60 17 0) 60 33 (((pset M 60 17 0) 60 33) - 1)) 75 (((3 * ((pset (pset M 60 17 0) 60 33 (((pset M 60 17 0) 60 33) - 1)) 60 33)) + 1).toNat))) 60 11 ((pset (pset (pset M 60 17 0) 60 33 (((pset M 60 17 0) 60 33) - 1)) 66 (((pset (pset M 60 17 0) 60 33 (((pset M 60 17 0) 60 33) - 1)) 75 ((3 * ((pset (pset M 60 17 0) 60 33 (((pset M 60 17 0) 60 33) - 1)) 60 33)).toNat)).toNat) ((pset (pset M 60 17 0) 60 33 (((pset M 60 17 0) 60 33) - 1)) 75 (((3 * ((pset (pset M 60 17 0) 60 33 (((pset M 60 17 0) 60 33) - 1)) 60 33)) + 1).toNat))) 75 (((3 * ((pset (pset (pset M 60 17 0) 60 33 (((pset M 60 17 0) 60 33) - 1)) 66 (((pset (pset M 60 17 0) 60 33 (((pset M 60 17 0) 60 33) - 1)) 75 ((3 * ((pset (pset M 60 17 0) 60 33 (((pset M 60 17 0) 60 33) - 1)) 60 33)).toNat)).toNat) ((pset (pset M 60 17 0) 60 33 (((pset M 60 17 0) 60 33) - 1)) 75 (((3 * ((pset (pset M 60 17 0) 60 33 (((pset M 60 17 0) 60 33) - 1)) 60 33)) + 1).toNat))) 60 33)) + 2).toNat))) 60 33)), pset (pset (pset (pset M 60 17 0) 60 33 (((pset M 60 17 0) 60 33) - 1)) 66 (((pset (pset M 60 17 0) 60 33 (((pset M 60 17 0) 60 33) - 1)) 75 ((3 * ((pset (pset M 60 17 0) 60 33 (((pset M 60 17 0) 60 33) - 1)) 60 33)).toNat)).toNat) ((pset (pset M 60 17 0) 60 33 (((pset M 60 17 0) 60 33) - 1)) 75 (((3 * ((pset (pset M 60 17 0) 60 33 (((pset M 60 17 0) 60 33) - 1)) 60 33)) + 1).toNat))) 60 11 ((pset (pset (pset M 60 17 0) 60 33 (((pset M 60 17 0) 60 33) - 1)) 66 (((pset (pset M 60 17 0) 60 33 (((pset M 60 17 0) 60 33) - 1)) 75 ((3 * ((pset (pset M 60 17 0) 60 33 (((pset M 60 17 0) 60 33) - 1)) 60 33)).toNat)).toNat) ((pset (pset M 60 17 0) 60 33 (((pset M 60 17 0) 60 33) - 1)) 75 (((3 * ((pset (pset M 60 17 0) 60 33 (((pset M 60 17 0) 60 33) - 1)) 60 33)) + 1).toNat))) 75 (((3 * ((pset (pset (pset M 60 17 0) 60 33 (((pset M 60 17 0) 60 33) - 1)) 66 (((pset (pset M 60 17 0) 60 33 (((pset M 60 17 0) 60 33) - 1)) 75 ((3 * ((pset (pset M 60 17 0) 60 33 (((pset M 60 17 0) 60 33) - 1)) 60 33)).toNat)).toNat) ((pset (pset M 60 17 0) 60 33 (((pset M 60 17 0) 60 33) - 1)) 75 (((3 * ((pset (pset M 60 17 0) 60 33 (((pset M 60 17 0) 60 33) - 1)) 60 33)) + 1).toNat))) 60 33)) + 2).toNat)))
 else none
 else none
 else none
 else none)
 else
 some (some (.inl (-1)), pset M 60 17 0) :=
 (show xF (D + 1) 220 [.inr 62] M = xE D 220 0 [.inr 62] [] M from rfl).trans ((x_run D 220 (fun i => C_220.getD i s_none) rfl (fun _ => false) 48 0 [.inr 62] [] M).trans rfl)
set_option maxRecDepth 10000 in
theorem T_M_judge (D : Nat) (b : Int) (c : Int) (M : pM) : xF (D + 1) 221 [.inr 62, .inl b, .inl c] M =
 pbI (xF D 169 [.inl b, .inl 0, .inl 4] (pset M 60 17 0)) fun v2 M1 =>
 if ¬ eq32 v2 0 then
 xE D 221 12 [.inr 62, .inl b, .inl c, .inl 0, .inr 0, .inr 0, .inr 0, .inr 0] [] M1
 else
 some (some (.inl (-1)), M1) :=
 (show xF (D + 1) 221 [.inr 62, .inl b, .inl c] M = xE D 221 0 [.inr 62, .inl b, .inl c, .inr 0, .inr 0, .inr 0, .inr 0, .inr 0] [] M from rfl).trans ((x_run D 221 (fun i => C_221.getD i s_none) rfl (fun i => Nat.beq i 12 || Nat.beq i 35 || Nat.beq i 85) 114 0 [.inr 62, .inl b, .inl c, .inr 0, .inr 0, .inr 0, .inr 0, .inr 0] [] M).trans rfl)
set_option maxRecDepth 10000 in
theorem L_M_judge_12 (D : Nat) (x1 : Int) (x2 : Int) (x3 : Int) (M : pM) : xE D 221 12 [.inr 62, .inl x1, .inl x2, .inl x3, .inr 0, .inr 0, .inr 0, .inr 0] [] M =
 if le32 (M 60 3) x3 then
 xE D 221 35 [.inr 62, .inl x1, .inl x2, .inl (M 60 11), .inl (-2), .inl 0, .inl 0, .inr 0] [] M
 else
 (if 0 ≤ x3 ∧ x3 < 10 then
 if 0 ≤ x3 ∧ x3 < 10 then
 xE D 221 12 [.inr 62, .inl x1, .inl x2, .inl (x3 + 1), .inr 0, .inr 0, .inr 0, .inr 0] [] (pset M 77 x3.toNat (M 66 x3.toNat))
 else none
 else none) :=
 (x_run D 221 (fun i => C_221.getD i s_none) rfl (fun i => Nat.beq i 12 || Nat.beq i 35 || Nat.beq i 85) 114 12 [.inr 62, .inl x1, .inl x2, .inl x3, .inr 0, .inr 0, .inr 0, .inr 0] [] M).trans rfl
set_option maxRecDepth 10000 in
theorem L_M_judge_35 (D : Nat) (x1 : Int) (x2 : Int) (x3 : Int) (x4 : Int) (x5 : Int) (x6 : Int) (yx7 : pV) (M : pM) : xE D 221 35 [.inr 62, .inl x1, .inl x2, .inl x3, .inl x4, .inl x5, .inl x6, yx7] [] M =
 if le32 x1 x6 then
 (pbI (xF D 212 [.inr 62, .inr 68] M) fun v2 M1 =>
 if eq32 v2 0 then
 xE D 221 85 [.inr 62, .inl x1, .inl x2, .inl x3, .inl x4, .inl x5, .inl 0, .inl 0] [] M1
 else
 xE D 221 85 [.inr 62, .inl x1, .inl x2, .inl x3, .inl x4, .inl x5, .inl 1, .inl 0] [] M1)
 else
 (if ¬ eq32 x4 (-2) then
 (pbI (xF D 212 [.inr 62, .inr 68] M) fun v4 M3 =>
 if eq32 v4 0 then
 xE D 221 85 [.inr 62, .inl x1, .inl x2, .inl x3, .inl x4, .inl x5, .inl 0, .inl 0] [] M3
 else
 xE D 221 85 [.inr 62, .inl x1, .inl x2, .inl x3, .inl x4, .inl x5, .inl 1, .inl 0] [] M3)
 else
 (pbI (xF D 213 [.inr 62, .inl (jdiv (jand (jshr x2 (7 * x6)) 127) 10), .inl (jrem (jand (jshr x2 (7 * x6)) 127) 10)] M) fun v6 M5 =>
 if le32 0 v6 then
 (pbI (xF D 214 [.inr 62, .inl (jdiv (jand (jshr x2 (7 * x6)) 127) 10), .inl (jrem (jand (jshr x2 (7 * x6)) 127) 10)] M5) fun v8 M7 =>
 xE D 221 35 [.inr 62, .inl x1, .inl x2, .inl x3, .inl x4, .inl (x5 + v8), .inl (x6 + 1), .inl (jand (jshr x2 (7 * x6)) 127)] [] M7)
 else
 xE D 221 35 [.inr 62, .inl x1, .inl x2, .inl x3, .inl x6, .inl x5, .inl (x6 + 1), .inl (jand (jshr x2 (7 * x6)) 127)] [] M5)) :=
 (x_run D 221 (fun i => C_221.getD i s_none) rfl (fun i => Nat.beq i 12 || Nat.beq i 35 || Nat.beq i 85) 114 35 [.inr 62, .inl x1, .inl x2, .inl x3, .inl x4, .inl x5, .inl x6, yx7] [] M).trans rfl
set_option maxRecDepth 10000 in
theorem L_M_judge_85 (D : Nat) (x1 : Int) (x2 : Int) (x3 : Int) (x4 : Int) (x5 : Int) (x6 : Int) (x7 : Int) (M : pM) : xE D 221 85 [.inr 62, .inl x1, .inl x2, .inl x3, .inl x4, .inl x5, .inl x6, .inl x7] [] M =
 if le32 (M 60 3) x7 then
 (pbN (xF D 172 [.inr 62, .inl x5] (pset (pset M 60 11 x3) 60 16 0)) fun M1 =>
 pbN (xF D 172 [.inr 62, .inl x6] M1) fun M2 =>
 some (some (.inl x4), M2))
 else
 (if 0 ≤ x7 ∧ x7 < 10 then
 if 0 ≤ x7 ∧ x7 < 10 then
 xE D 221 85 [.inr 62, .inl x1, .inl x2, .inl x3, .inl x4, .inl x5, .inl x6, .inl (x7 + 1)] [] (pset M 66 x7.toNat (M 77 x7.toNat))
 else none
 else none) :=
 (x_run D 221 (fun i => C_221.getD i s_none) rfl (fun i => Nat.beq i 12 || Nat.beq i 35 || Nat.beq i 85) 114 85 [.inr 62, .inl x1, .inl x2, .inl x3, .inl x4, .inl x5, .inl x6, .inl x7] [] M).trans rfl
set_option maxRecDepth 10000 in
theorem T_M_breaks (D : Nat) (b : Int) (M : pM) : xF (D + 1) 226 [.inr 62, .inl b] M =
 pbI (xF D 174 [.inr 62, .inl b] (pset M 60 17 0)) fun v2 M1 =>
 if ¬ eq32 v2 0 then
 xE D 226 11 [.inr 62, .inl b, .inl 0] [] M1
 else
 some (some (.inl (-1)), M1) :=
 (show xF (D + 1) 226 [.inr 62, .inl b] M = xE D 226 0 [.inr 62, .inl b, .inr 0] [] M from rfl).trans ((x_run D 226 (fun i => C_226.getD i s_none) rfl (fun i => Nat.beq i 11) 37 0 [.inr 62, .inl b, .inr 0] [] M).trans rfl)
set_option maxRecDepth 10000 in
theorem L_M_breaks_11 (D : Nat) (x1 : Int) (x2 : Int) (M : pM) : xE D 226 11 [.inr 62, .inl x1, .inl x2] [] M =
 if le32 (M 60 8) x2 then
 (pbN (xF D 200 [.inr 62, .inl 0, .inl 0] M) fun M1 =>
 some (some (.inl (M1 60 30)), M1))
 else
 (if 0 ≤ x2 ∧ x2 < 8 then
 if 0 ≤ x2 ∧ x2 < 8 then
 xE D 226 11 [.inr 62, .inl x1, .inl (x2 + 1)] [] (pset M 67 x2.toNat (jand (M 67 x2.toNat) (jxor (jshl 1 x1) (-1))))
 else none
 else none) :=
 (x_run D 226 (fun i => C_226.getD i s_none) rfl (fun i => Nat.beq i 11) 37 11 [.inr 62, .inl x1, .inl x2] [] M).trans rfl
set_option maxRecDepth 10000 in
theorem T_M_isTooMuch (D : Nat)  (M : pM) : xF (D + 1) 228 [.inr 62] M =
 pbN (xF D 200 [.inr 62, .inl 0, .inl 0] M) fun M1 =>
 xE D 228 9 [.inr 62, .inl 0] [] (pset M1 60 39 1) :=
 (show xF (D + 1) 228 [.inr 62] M = xE D 228 0 [.inr 62, .inr 0] [] M from rfl).trans ((x_run D 228 (fun i => C_228.getD i s_none) rfl (fun i => Nat.beq i 9) 33 0 [.inr 62, .inr 0] [] M).trans rfl)
set_option maxRecDepth 10000 in
theorem L_M_isTooMuch_9 (D : Nat) (x1 : Int) (M : pM) : xE D 228 9 [.inr 62, .inl x1] [] M =
 if le32 (M 60 30) x1 then
 (if le32 (M 60 39) 20000 then
 some (some (.inl 0), M)
 else
 some (some (.inl 1), M))
 else
 xE D 228 9 [.inr 62, .inl (x1 + 1)] [] (pset M 60 39 (jmin 1000000 ((M 60 39) * (M 60 0)))) :=
 (x_run D 228 (fun i => C_228.getD i s_none) rfl (fun i => Nat.beq i 9) 33 9 [.inr 62, .inl x1] [] M).trans rfl
set_option maxRecDepth 10000 in
theorem T_M_beginRows (D : Nat)  (M : pM) : xF (D + 1) 229 [.inr 62] M =
 some (none, pset M 60 40 (-1)) :=
 (show xF (D + 1) 229 [.inr 62] M = xE D 229 0 [.inr 62] [] M from rfl).trans ((x_run D 229 (fun i => C_229.getD i s_none) rfl (fun _ => false) 5 0 [.inr 62] [] M).trans rfl)
set_option maxRecDepth 10000 in
theorem T_M_nextRow (D : Nat)  (M : pM) : xF (D + 1) 230 [.inr 62] M =
 xE D 230 6 [.inr 62] [] (pset M 60 40 ((M 60 40) + 1)) :=
 (show xF (D + 1) 230 [.inr 62] M = xE D 230 0 [.inr 62] [] M from rfl).trans ((x_run D 230 (fun i => C_230.getD i s_none) rfl (fun i => Nat.beq i 6) 26 0 [.inr 62] [] M).trans rfl)
set_option maxRecDepth 10000 in
theorem L_M_nextRow_6 (D : Nat)  (M : pM) : xE D 230 6 [.inr 62] [] M =
 if le32 (M 60 39) (M 60 40) then
 some (some (.inl 0), M)
 else
 (pbI (xF D 231 [.inr 62] M) fun v2 M1 =>
 if eq32 v2 0 then
 xE D 230 6 [.inr 62] [] (pset M1 60 40 ((M1 60 40) + 1))
 else
 some (some (.inl 1), M1)) :=
 (x_run D 230 (fun i => C_230.getD i s_none) rfl (fun i => Nat.beq i 6) 26 6 [.inr 62] [] M).trans rfl
set_option maxRecDepth 10000 in
theorem T_M_isFine (D : Nat)  (M : pM) : xF (D + 1) 231 [.inr 62] M =
 xE D 231 8 [.inr 62, .inl (M 60 40), .inl ((M 60 30) - 1)] [] M :=
 (show xF (D + 1) 231 [.inr 62] M = xE D 231 0 [.inr 62, .inr 0, .inr 0] [] M from rfl).trans ((x_run D 231 (fun i => C_231.getD i s_none) rfl (fun i => Nat.beq i 8 || Nat.beq i 34 || Nat.beq i 53) 70 0 [.inr 62, .inr 0, .inr 0] [] M).trans rfl)
set_option maxRecDepth 10000 in
theorem L_M_isFine_8 (D : Nat) (x1 : Int) (x2 : Int) (M : pM) : xE D 231 8 [.inr 62, .inl x1, .inl x2] [] M =
 if lt32 x2 0 then
 xE D 231 34 [.inr 62, .inl x1, .inl 0] [] M
 else
 (pbI (xF D 170 [.inl (M 60 38), .inl x2] M) fun v2 M1 =>
 if eq32 v2 0 then
 (if eq32 (M1 60 0) 0 then none else
 if 0 ≤ x2 ∧ x2 < 10 then
 if eq32 ((pset M1 79 x2.toNat (jrem x1 (M1 60 0))) 60 0) 0 then none else
 xE D 231 8 [.inr 62, .inl (jdiv x1 ((pset M1 79 x2.toNat (jrem x1 (M1 60 0))) 60 0)), .inl (x2 + (-1))] [] (pset M1 79 x2.toNat (jrem x1 (M1 60 0)))
 else none)
 else
 (if 0 ≤ x2 ∧ x2 < 10 then
 if eq32 ((pset M1 79 x2.toNat (-1)) 60 0) 0 then none else
 xE D 231 8 [.inr 62, .inl (jdiv x1 ((pset M1 79 x2.toNat (-1)) 60 0)), .inl (x2 + (-1))] [] (pset M1 79 x2.toNat (-1))
 else none)) :=
 (x_run D 231 (fun i => C_231.getD i s_none) rfl (fun i => Nat.beq i 8 || Nat.beq i 34 || Nat.beq i 53) 70 8 [.inr 62, .inl x1, .inl x2] [] M).trans rfl
set_option maxRecDepth 10000 in
theorem L_M_isFine_34 (D : Nat) (x1 : Int) (x2 : Int) (M : pM) : xE D 231 34 [.inr 62, .inl x1, .inl x2] [] M =
 if le32 (M 60 3) x2 then
 xE D 231 53 [.inr 62, .inl x1, .inl 0] [] M
 else
 (if 0 ≤ x2 ∧ x2 < 10 then
 if 0 ≤ M 72 x2.toNat ∧ M 72 x2.toNat < 10 then
 if 0 ≤ x2 ∧ x2 < 10 then
 xE D 231 34 [.inr 62, .inl x1, .inl (x2 + 1)] [] (pset M 78 x2.toNat (M 79 ((M 72 x2.toNat).toNat)))
 else none
 else none
 else none) :=
 (x_run D 231 (fun i => C_231.getD i s_none) rfl (fun i => Nat.beq i 8 || Nat.beq i 34 || Nat.beq i 53) 70 34 [.inr 62, .inl x1, .inl x2] [] M).trans rfl
set_option maxRecDepth 10000 in
theorem L_M_isFine_53 (D : Nat) (x1 : Int) (x2 : Int) (M : pM) : xE D 231 53 [.inr 62, .inl x1, .inl x2] [] M =
 if le32 (M 60 0) x2 then
 some (some (.inl 1), M)
 else
 (pbI (xF D 198 [.inr 62, .inr 80, .inl x2] M) fun v2 M1 =>
 if le32 0 v2 then
 xE D 231 53 [.inr 62, .inl x1, .inl (x2 + 1)] [] M1
 else
 some (some (.inl 0), M1)) :=
 (x_run D 231 (fun i => C_231.getD i s_none) rfl (fun i => Nat.beq i 8 || Nat.beq i 34 || Nat.beq i 53) 70 53 [.inr 62, .inl x1, .inl x2] [] M).trans rfl
set_option maxRecDepth 10000 in
theorem T_M_best (D : Nat)  (M : pM) : xF (D + 1) 236 [.inr 62] M =
 pbI (xF D 228 [.inr 62] (pset M 60 17 0)) fun v2 M1 =>
 if eq32 v2 0 then
 (pbN (xF D 229 [.inr 62] M1) fun M3 =>
 xE D 236 14 [.inr 62, .inl 0, .inl 0, .inr 0] [] M3)
 else
 some (some (.inl (-3)), M1) :=
 (show xF (D + 1) 236 [.inr 62] M = xE D 236 0 [.inr 62, .inr 0, .inr 0, .inr 0] [] M from rfl).trans ((x_run D 236 (fun i => C_236.getD i s_none) rfl (fun i => Nat.beq i 14) 52 0 [.inr 62, .inr 0, .inr 0, .inr 0] [] M).trans rfl)
set_option maxRecDepth 10000 in
theorem L_M_best_14 (D : Nat) (x1 : Int) (x2 : Int) (yx3 : pV) (M : pM) : xE D 236 14 [.inr 62, .inl x1, .inl x2, yx3] [] M =
 pbI (xF D 230 [.inr 62] M) fun v2 M1 =>
 if eq32 v2 0 then
 (if ¬ eq32 x1 0 then
 (pbN (xF D 172 [.inr 62, .inl x2] (pset M1 60 16 0)) fun M3 =>
 pbN (xF D 232 [.inr 62, .inr 82] M3) fun M4 =>
 some (some (.inl 1), M4))
 else
 some (some (.inl (-2)), M1))
 else
 (pbI (xF D 195 [.inr 62, .inr 80] M1) fun v6 M5 =>
 if eq32 x1 0 then
 (pbN (xF D 233 [.inr 62] M5) fun M7 =>
 xE D 236 14 [.inr 62, .inl 1, .inl v6, .inl v6] [] M7)
 else
 (if lt32 x2 v6 then
 (pbN (xF D 233 [.inr 62] M5) fun M8 =>
 xE D 236 14 [.inr 62, .inl 1, .inl v6, .inl v6] [] M8)
 else
 xE D 236 14 [.inr 62, .inl x1, .inl x2, .inl v6] [] M5)) :=
 (x_run D 236 (fun i => C_236.getD i s_none) rfl (fun i => Nat.beq i 14) 52 14 [.inr 62, .inl x1, .inl x2, yx3] [] M).trans rfl
set_option maxRecDepth 10000 in
theorem T_M_may (D : Nat) (b : Int) (M : pM) : xF (D + 1) 242 [.inr 62, .inl b] M =
 pbN (xF D 200 [.inr 62, .inl 0, .inl 0] (pset M 60 17 0)) fun M1 =>
 pbI (xF D 169 [.inl b, .inl 0, .inl ((M1 60 30) - 1)] M1) fun v3 M2 =>
 if ¬ eq32 v3 0 then
 (pbI (xF D 228 [.inr 62] M2) fun v5 M4 =>
 if eq32 v5 0 then
 (if 0 ≤ b ∧ b < 10 then
 pbI (xF D 271 [.inl (M4 73 b.toNat)] M4) fun v7 M6 =>
 pbN (xF D 229 [.inr 62] M6) fun M8 =>
 xE D 242 34 [.inr 62, .inl b, .inl v7, .inl 0, .inl 0] [] M8
 else none)
 else
 some (some (.inl (-3)), M4))
 else
 some (some (.inl (-1)), M2) :=
 (show xF (D + 1) 242 [.inr 62, .inl b] M = xE D 242 0 [.inr 62, .inl b, .inr 0, .inr 0, .inr 0] [] M from rfl).trans ((x_run D 242 (fun i => C_242.getD i s_none) rfl (fun i => Nat.beq i 34) 71 0 [.inr 62, .inl b, .inr 0, .inr 0, .inr 0] [] M).trans rfl)
set_option maxRecDepth 10000 in
theorem L_M_may_34 (D : Nat) (x1 : Int) (x2 : Int) (x3 : Int) (x4 : Int) (M : pM) : xE D 242 34 [.inr 62, .inl x1, .inl x2, .inl x3, .inl x4] [] M =
 pbI (xF D 230 [.inr 62] M) fun v2 M1 =>
 if eq32 v2 0 then
 (pbN (xF D 172 [.inr 62, .inl x4] (pset M1 60 16 0)) fun M3 =>
 some (some (.inl x3), M3))
 else
 (if 0 ≤ x2 ∧ x2 < 10 then
 if 0 ≤ x2 ∧ x2 < 10 then
 if 0 ≤ x2 ∧ x2 < 10 then
 if ¬ eq32 (M1 78 x2.toNat) (M1 66 x2.toNat) then
 xE D 242 34 [.inr 62, .inl x1, .inl x2, .inl (jor x3 (jshl 1 (M1 78 x2.toNat))), .inl (x4 + 0)] [] M1
 else
 xE D 242 34 [.inr 62, .inl x1, .inl x2, .inl (jor x3 (jshl 1 (M1 78 x2.toNat))), .inl (x4 + 1)] [] M1
 else none
 else none
 else none) :=
 (x_run D 242 (fun i => C_242.getD i s_none) rfl (fun i => Nat.beq i 34) 71 34 [.inr 62, .inl x1, .inl x2, .inl x3, .inl x4] [] M).trans rfl
set_option maxRecDepth 10000 in
theorem T_M_build (D : Nat)  (M : pM) : xF (D + 1) 248 [.inr 62] M =
 if ¬ eq32 ((pset M 60 17 0) 60 0) 0 then
 (pbI (xF D 228 [.inr 62] (pset M 60 17 0)) fun v2 M1 =>
 if eq32 v2 0 then
 xE D 248 19 [.inr 62, .inl (-1), .inl 100, .inl 0, .inr 0, .inr 0, .inr 0] [] M1
 else
 some (some (.inl (-3)), M1))
 else
 some (some (.inl (-2)), pset M 60 17 0) :=
 (show xF (D + 1) 248 [.inr 62] M = xE D 248 0 [.inr 62, .inr 0, .inr 0, .inr 0, .inr 0, .inr 0, .inr 0] [] M from rfl).trans ((x_run D 248 (fun i => C_248.getD i s_none) rfl (fun i => Nat.beq i 19 || Nat.beq i 27) 77 0 [.inr 62, .inr 0, .inr 0, .inr 0, .inr 0, .inr 0, .inr 0] [] M).trans rfl)
set_option maxRecDepth 10000 in
theorem L_M_build_19 (D : Nat) (x1 : Int) (x2 : Int) (x3 : Int) (yx4 : pV) (yx5 : pV) (yx6 : pV) (M : pM) : xE D 248 19 [.inr 62, .inl x1, .inl x2, .inl x3, yx4, yx5, yx6] [] M =
 if le32 (M 60 0) x3 then
 (if ¬ eq32 x1 (-1) then
 (if ¬ eq32 x2 0 then
 (pbN (xF D 172 [.inr 62, .inl x1] (pset M 60 16 0)) fun M1 =>
 some (some (.inl x2), M1))
 else
 (pbN (xF D 172 [.inr 62, .inl (-1)] (pset M 60 16 0)) fun M2 =>
 some (some (.inl x2), M2)))
 else
 some (some (.inl (-2)), M))
 else
 xE D 248 27 [.inr 62, .inl x1, .inl x2, .inl x3, .inl 0, .inl x2, yx6] [] M :=
 (x_run D 248 (fun i => C_248.getD i s_none) rfl (fun i => Nat.beq i 19 || Nat.beq i 27) 77 19 [.inr 62, .inl x1, .inl x2, .inl x3, yx4, yx5, yx6] [] M).trans rfl
set_option maxRecDepth 10000 in
theorem L_M_build_27 (D : Nat) (x1 : Int) (x2 : Int) (x3 : Int) (x4 : Int) (x5 : Int) (yx6 : pV) (M : pM) : xE D 248 27 [.inr 62, .inl x1, .inl x2, .inl x3, .inl x4, .inl x5, yx6] [] M =
 if le32 x5 x4 then
 (if lt32 x4 x2 then
 xE D 248 19 [.inr 62, .inl x3, .inl x4, .inl (x3 + 1), .inl x4, .inl x5, yx6] [] M
 else
 xE D 248 19 [.inr 62, .inl x1, .inl x2, .inl (x3 + 1), .inl x4, .inl x5, yx6] [] M)
 else
 (pbI (xF D 249 [.inr 62, .inl x3, .inl (jdiv (x4 + x5) 2)] M) fun v2 M1 =>
 if eq32 v2 0 then
 xE D 248 27 [.inr 62, .inl x1, .inl x2, .inl x3, .inl ((jdiv (x4 + x5) 2) + 1), .inl x5, .inl (jdiv (x4 + x5) 2)] [] M1
 else
 xE D 248 27 [.inr 62, .inl x1, .inl x2, .inl x3, .inl x4, .inl (jdiv (x4 + x5) 2), .inl (jdiv (x4 + x5) 2)] [] M1) :=
 (x_run D 248 (fun i => C_248.getD i s_none) rfl (fun i => Nat.beq i 19 || Nat.beq i 27) 77 27 [.inr 62, .inl x1, .inl x2, .inl x3, .inl x4, .inl x5, yx6] [] M).trans rfl
set_option maxRecDepth 10000 in
theorem T_M_isEnough (D : Nat) (b : Int) (c : Int) (M : pM) : xF (D + 1) 249 [.inr 62, .inl b, .inl c] M =
 if 0 ≤ b ∧ b < 6 then
 if 0 ≤ b ∧ b < 6 then
 pbN (xF D 229 [.inr 62] (pset M 61 b.toNat ((M 61 b.toNat) + c))) fun M1 =>
 pbI (xF D 230 [.inr 62] M1) fun v3 M2 =>
 if 0 ≤ b ∧ b < 6 then
 if 0 ≤ b ∧ b < 6 then
 if v3 = 0 ∨ v3 = 1 then some (some (.inl v3), pset M2 61 b.toNat ((M2 61 b.toNat) - c)) else none
 else none
 else none
 else none
 else none :=
 (show xF (D + 1) 249 [.inr 62, .inl b, .inl c] M = xE D 249 0 [.inr 62, .inl b, .inl c, .inr 0] [] M from rfl).trans ((x_run D 249 (fun i => C_249.getD i s_none) rfl (fun _ => false) 24 0 [.inr 62, .inl b, .inl c, .inr 0] [] M).trans rfl)
set_option maxRecDepth 10000 in
theorem T_M_way (D : Nat) (b : Int) (c : Int) (M : pM) : xF (D + 1) 250 [.inr 62, .inl b, .inl c] M =
 pbI (xF D 174 [.inr 62, .inl b] (pset M 60 17 0)) fun v2 M1 =>
 if eq32 v2 0 then
 some (some (.inl (-1)), M1)
 else
 (pbI (xF D 173 [.inr 62, .inl c] M1) fun v4 M3 =>
 if ¬ eq32 v4 0 then
 (if 0 ≤ b ∧ b < 10 then
 pbN (xF D 207 [.inr 62, .inl c, .inl (M3 64 b.toNat)] M3) fun M5 =>
 if 0 ≤ b ∧ b < 10 then
 if 0 ≤ M5 66 b.toNat ∧ M5 66 b.toNat < 6 then
 if lt32 (M5 74 ((M5 66 b.toNat).toNat)) 1000000 then
 (if 0 ≤ b ∧ b < 10 then
 xE D 250 45 [.inr 62, .inl b, .inl c, .inl (M5 74 ((M5 66 b.toNat).toNat)), .inl ((pset M5 60 16 0) 66 b.toNat), .inl ((M5 74 ((M5 66 b.toNat).toNat)) - 1), .inr 0] [] (pset M5 60 16 0)
 else none)
 else
 some (some (.inl (-2)), M5)
 else none
 else none
 else none)
 else
 some (some (.inl (-1)), M3)) :=
 (show xF (D + 1) 250 [.inr 62, .inl b, .inl c] M = xE D 250 0 [.inr 62, .inl b, .inl c, .inr 0, .inr 0, .inr 0, .inr 0] [] M from rfl).trans ((x_run D 250 (fun i => C_250.getD i s_none) rfl (fun i => Nat.beq i 45 || Nat.beq i 49) 80 0 [.inr 62, .inl b, .inl c, .inr 0, .inr 0, .inr 0, .inr 0] [] M).trans rfl)
set_option maxRecDepth 10000 in
theorem L_M_way_45 (D : Nat) (x1 : Int) (x2 : Int) (x3 : Int) (x4 : Int) (x5 : Int) (yx6 : pV) (M : pM) : xE D 250 45 [.inr 62, .inl x1, .inl x2, .inl x3, .inl x4, .inl x5, yx6] [] M =
 if lt32 x5 0 then
 some (some (.inl x3), M)
 else
 xE D 250 49 [.inr 62, .inl x1, .inl x2, .inl x3, .inl x4, .inl x5, .inl 0] [] M :=
 (x_run D 250 (fun i => C_250.getD i s_none) rfl (fun i => Nat.beq i 45 || Nat.beq i 49) 80 45 [.inr 62, .inl x1, .inl x2, .inl x3, .inl x4, .inl x5, yx6] [] M).trans rfl
set_option maxRecDepth 10000 in
theorem L_M_way_49 (D : Nat) (x1 : Int) (x2 : Int) (x3 : Int) (x4 : Int) (x5 : Int) (x6 : Int) (M : pM) : xE D 250 49 [.inr 62, .inl x1, .inl x2, .inl x3, .inl x4, .inl x5, .inl x6] [] M =
 if 0 ≤ x6 ∧ x6 < 6 then
 if ¬ eq32 (M 74 x6.toNat) x5 then
 xE D 250 49 [.inr 62, .inl x1, .inl x2, .inl x3, .inl x4, .inl x5, .inl (x6 + 1)] [] M
 else
 (if 0 ≤ (6 * x4) + x6 ∧ (6 * x4) + x6 < 36 then
 if 0 ≤ x1 ∧ x1 < 10 then
 if le32 (M 64 x1.toNat) (M 62 (((6 * x4) + x6).toNat)) then
 (pbN (xF D 172 [.inr 62, .inl x6] M) fun M1 =>
 xE D 250 45 [.inr 62, .inl x1, .inl x2, .inl x3, .inl x6, .inl (x5 + (-1)), .inl x6] [] M1)
 else
 xE D 250 49 [.inr 62, .inl x1, .inl x2, .inl x3, .inl x4, .inl x5, .inl (x6 + 1)] [] M
 else none
 else none)
 else none :=
 (x_run D 250 (fun i => C_250.getD i s_none) rfl (fun i => Nat.beq i 45 || Nat.beq i 49) 80 49 [.inr 62, .inl x1, .inl x2, .inl x3, .inl x4, .inl x5, .inl x6] [] M).trans rfl
set_option maxRecDepth 10000 in
theorem T_M_comeTo (D : Nat) (b : Int) (M : pM) : xF (D + 1) 253 [.inr 62, .inl b] M =
 xE D 253 4 [.inr 62, .inl b, .inl 0, .inl 0] [] M :=
 (show xF (D + 1) 253 [.inr 62, .inl b] M = xE D 253 0 [.inr 62, .inl b, .inr 0, .inr 0] [] M from rfl).trans ((x_run D 253 (fun i => C_253.getD i s_none) rfl (fun i => Nat.beq i 4) 29 0 [.inr 62, .inl b, .inr 0, .inr 0] [] M).trans rfl)
set_option maxRecDepth 10000 in
theorem L_M_comeTo_4 (D : Nat) (x1 : Int) (x2 : Int) (x3 : Int) (M : pM) : xE D 253 4 [.inr 62, .inl x1, .inl x2, .inl x3] [] M =
 if le32 (M 60 3) x3 then
 some (some (.inl x2), M)
 else
 (if 0 ≤ x3 ∧ x3 < 10 then
 pbI (xF D 208 [.inr 62, .inl x3, .inl (M 66 x3.toNat), .inl x1] M) fun v2 M1 =>
 if le32 1000000 v2 then
 xE D 253 4 [.inr 62, .inl x1, .inl (x2 + 0), .inl (x3 + 1)] [] M1
 else
 xE D 253 4 [.inr 62, .inl x1, .inl (x2 + 1), .inl (x3 + 1)] [] M1
 else none) :=
 (x_run D 253 (fun i => C_253.getD i s_none) rfl (fun i => Nat.beq i 4) 29 4 [.inr 62, .inl x1, .inl x2, .inl x3] [] M).trans rfl
set_option maxRecDepth 10000 in
theorem T_M_hinge (D : Nat) (b : Int) (M : pM) : xF (D + 1) 254 [.inr 62, .inl b] M =
 pbI (xF D 173 [.inr 62, .inl b] (pset M 60 17 0)) fun v2 M1 =>
 if ¬ eq32 v2 0 then
 xE D 254 17 [.inr 62, .inl b, .inl (-2), .inl 0, .inl 0, .inl 0, .inr 0, .inr 0, .inr 0] [] M1
 else
 some (some (.inl (-1)), M1) :=
 (show xF (D + 1) 254 [.inr 62, .inl b] M = xE D 254 0 [.inr 62, .inl b, .inr 0, .inr 0, .inr 0, .inr 0, .inr 0, .inr 0, .inr 0] [] M from rfl).trans ((x_run D 254 (fun i => C_254.getD i s_none) rfl (fun i => Nat.beq i 17 || Nat.beq i 25) 87 0 [.inr 62, .inl b, .inr 0, .inr 0, .inr 0, .inr 0, .inr 0, .inr 0, .inr 0] [] M).trans rfl)
set_option maxRecDepth 10000 in
theorem L_M_hinge_17 (D : Nat) (x1 : Int) (x2 : Int) (x3 : Int) (x4 : Int) (x5 : Int) (yx6 : pV) (yx7 : pV) (yx8 : pV) (M : pM) : xE D 254 17 [.inr 62, .inl x1, .inl x2, .inl x3, .inl x4, .inl x5, yx6, yx7, yx8] [] M =
 if le32 (M 60 0) x5 then
 (if le32 0 x2 then
 (pbN (xF D 172 [.inr 62, .inl x3] (pset M 60 16 0)) fun M1 =>
 pbN (xF D 172 [.inr 62, .inl x4] M1) fun M2 =>
 some (some (.inl x2), M2))
 else
 some (some (.inl (-2)), M))
 else
 xE D 254 25 [.inr 62, .inl x1, .inl x2, .inl x3, .inl x4, .inl x5, .inl (x5 + 1), yx7, yx8] [] M :=
 (x_run D 254 (fun i => C_254.getD i s_none) rfl (fun i => Nat.beq i 17 || Nat.beq i 25) 87 17 [.inr 62, .inl x1, .inl x2, .inl x3, .inl x4, .inl x5, yx6, yx7, yx8] [] M).trans rfl
set_option maxRecDepth 10000 in
theorem L_M_hinge_25 (D : Nat) (x1 : Int) (x2 : Int) (x3 : Int) (x4 : Int) (x5 : Int) (x6 : Int) (yx7 : pV) (yx8 : pV) (M : pM) : xE D 254 25 [.inr 62, .inl x1, .inl x2, .inl x3, .inl x4, .inl x5, .inl x6, yx7, yx8] [] M =
 if le32 (M 60 0) x6 then
 xE D 254 17 [.inr 62, .inl x1, .inl x2, .inl x3, .inl x4, .inl (x5 + 1), .inl x6, yx7, yx8] [] M
 else
 (if 0 ≤ (6 * x5) + x6 ∧ (6 * x5) + x6 < 36 then
 if ¬ eq32 (M 62 (((6 * x5) + x6).toNat)) 0 then
 (pbN (xF D 185 [.inr 62, .inl x5, .inl x6, .inl 9] M) fun M1 =>
 pbI (xF D 253 [.inr 62, .inl x1] M1) fun v3 M2 =>
 pbN (xF D 185 [.inr 62, .inl x5, .inl x6, .inl (M 62 (((6 * x5) + x6).toNat))] M2) fun M4 =>
 if lt32 x2 0 then
 xE D 254 25 [.inr 62, .inl x1, .inl x5, .inl x6, .inl v3, .inl x5, .inl (x6 + 1), .inl (M 62 (((6 * x5) + x6).toNat)), .inl v3] [] M4
 else
 (if lt32 x4 v3 then
 xE D 254 25 [.inr 62, .inl x1, .inl x5, .inl x6, .inl v3, .inl x5, .inl (x6 + 1), .inl (M 62 (((6 * x5) + x6).toNat)), .inl v3] [] M4
 else
 xE D 254 25 [.inr 62, .inl x1, .inl x2, .inl x3, .inl x4, .inl x5, .inl (x6 + 1), .inl (M 62 (((6 * x5) + x6).toNat)), .inl v3] [] M4))
 else
 xE D 254 25 [.inr 62, .inl x1, .inl x2, .inl x3, .inl x4, .inl x5, .inl (x6 + 1), .inl (M 62 (((6 * x5) + x6).toNat)), yx8] [] M
 else none) :=
 (x_run D 254 (fun i => C_254.getD i s_none) rfl (fun i => Nat.beq i 17 || Nat.beq i 25) 87 25 [.inr 62, .inl x1, .inl x2, .inl x3, .inl x4, .inl x5, .inl x6, yx7, yx8] [] M).trans rfl
set_option maxRecDepth 10000 in
theorem T_M_aim (D : Nat)  (M : pM) : xF (D + 1) 255 [.inr 62] M =
 if ¬ eq32 ((pset M 60 17 0) 60 14) 0 then
 xE D 255 18 [.inr 62, .inl ((pset M 60 17 0) 60 14), .inl 0] [] (pset (pset M 60 17 0) 60 14 0)
 else
 some (some (.inl 0), pset (pset (pset M 60 17 0) 60 14 0) 60 44 0) :=
 (show xF (D + 1) 255 [.inr 62] M = xE D 255 0 [.inr 62, .inr 0, .inr 0] [] M from rfl).trans ((x_run D 255 (fun i => C_255.getD i s_none) rfl (fun i => Nat.beq i 18 || Nat.beq i 54) 78 0 [.inr 62, .inr 0, .inr 0] [] M).trans rfl)
set_option maxRecDepth 10000 in
theorem L_M_aim_18 (D : Nat) (x1 : Int) (x2 : Int) (M : pM) : xE D 255 18 [.inr 62, .inl x1, .inl x2] [] M =
 if le32 x1 x2 then
 (if le32 (M 60 3) x1 then
 xE D 255 54 [.inr 62, .inl x1, .inl 0] [] M
 else
 some (some (.inl ((-1) - x1)), M))
 else
 (if eq32 x2 (M 60 3) then
 some (some (.inl ((-1) - x2)), M)
 else
 (if 0 ≤ x2 ∧ x2 < 80 then
 pbI (xF D 169 [.inl (M 68 x2.toNat), .inl 48, .inl ((48 + (M 60 0)) - 1)] M) fun v2 M1 =>
 if ¬ eq32 v2 0 then
 xE D 255 18 [.inr 62, .inl x1, .inl (x2 + 1)] [] M1
 else
 some (some (.inl ((-1) - x2)), M1)
 else none)) :=
 (x_run D 255 (fun i => C_255.getD i s_none) rfl (fun i => Nat.beq i 18 || Nat.beq i 54) 78 18 [.inr 62, .inl x1, .inl x2] [] M).trans rfl
set_option maxRecDepth 10000 in
theorem L_M_aim_54 (D : Nat) (x1 : Int) (x2 : Int) (M : pM) : xE D 255 54 [.inr 62, .inl x1, .inl x2] [] M =
 if le32 x1 x2 then
 some (some (.inl x1), pset (pset M 60 43 x1) 60 44 1)
 else
 (if 0 ≤ x2 ∧ x2 < 80 then
 if 0 ≤ x2 ∧ x2 < 10 then
 xE D 255 54 [.inr 62, .inl x1, .inl (x2 + 1)] [] (pset M 81 x2.toNat ((M 68 x2.toNat) - 48))
 else none
 else none) :=
 (x_run D 255 (fun i => C_255.getD i s_none) rfl (fun i => Nat.beq i 18 || Nat.beq i 54) 78 54 [.inr 62, .inl x1, .inl x2] [] M).trans rfl
set_option maxRecDepth 10000 in
theorem T_M_isLawfulWith (D : Nat) (b : Int) (M : pM) : xF (D + 1) 258 [.inr 62, .inl b] M =
 xE D 258 2 [.inr 62, .inl b, .inl 0] [] M :=
 (show xF (D + 1) 258 [.inr 62, .inl b] M = xE D 258 0 [.inr 62, .inl b, .inr 0] [] M from rfl).trans ((x_run D 258 (fun i => C_258.getD i s_none) rfl (fun i => Nat.beq i 2) 34 0 [.inr 62, .inl b, .inr 0] [] M).trans rfl)
set_option maxRecDepth 10000 in
theorem L_M_isLawfulWith_2 (D : Nat) (x1 : Int) (x2 : Int) (M : pM) : xE D 258 2 [.inr 62, .inl x1, .inl x2] [] M =
 if le32 (M 60 3) x2 then
 (pbI (xF D 212 [.inr 62, .inr 80] M) fun v2 M1 =>
 if v2 = 0 ∨ v2 = 1 then some (some (.inl v2), M1) else none)
 else
 (if 0 ≤ x2 ∧ x2 < 10 then
 pbI (xF D 170 [.inl x1, .inl (M 72 x2.toNat)] M) fun v4 M3 =>
 if eq32 v4 0 then
 (if 0 ≤ x2 ∧ x2 < 10 then
 if 0 ≤ x2 ∧ x2 < 10 then
 xE D 258 2 [.inr 62, .inl x1, .inl (x2 + 1)] [] (pset M3 78 x2.toNat (M3 66 x2.toNat))
 else none
 else none)
 else
 (if 0 ≤ x2 ∧ x2 < 10 then
 if 0 ≤ x2 ∧ x2 < 10 then
 xE D 258 2 [.inr 62, .inl x1, .inl (x2 + 1)] [] (pset M3 78 x2.toNat (M3 81 x2.toNat))
 else none
 else none)
 else none) :=
 (x_run D 258 (fun i => C_258.getD i s_none) rfl (fun i => Nat.beq i 2) 34 2 [.inr 62, .inl x1, .inl x2] [] M).trans rfl
set_option maxRecDepth 10000 in
theorem T_M_queue (D : Nat)  (M : pM) : xF (D + 1) 259 [.inr 62] M =
 pbI (xF D 256 [.inr 62] (pset M 60 17 0)) fun v2 M1 =>
 if ¬ eq32 v2 0 then
 (pbI (xF D 210 [.inr 62, .inr 83] M1) fun v4 M3 =>
 if ¬ eq32 v4 0 then
 some (some (.inl (-5)), M3)
 else
 (pbI (xF D 210 [.inr 62, .inr 68] M3) fun v6 M5 =>
 if eq32 v6 0 then
 (pbI (xF D 209 [.inr 62, .inr 68, .inl 0, .inr 83, .inl 0] M5) fun v8 M7 =>
 if lt32 v8 1000000 then
 (pbN (xF D 200 [.inr 62, .inl 0, .inl 0] M7) fun M9 =>
 xE D 259 40 [.inr 62, .inl 0, .inl 0, .inr 0] [] M9)
 else
 some (some (.inl (-2)), M7))
 else
 some (some (.inl (-5)), M5)))
 else
 some (some (.inl (-4)), M1) :=
 (show xF (D + 1) 259 [.inr 62] M = xE D 259 0 [.inr 62, .inr 0, .inr 0, .inr 0] [] M from rfl).trans ((x_run D 259 (fun i => C_259.getD i s_none) rfl (fun i => Nat.beq i 40 || Nat.beq i 68 || Nat.beq i 89 || Nat.beq i 146 || Nat.beq i 151) 192 0 [.inr 62, .inr 0, .inr 0, .inr 0] [] M).trans rfl)
set_option maxRecDepth 10000 in
theorem L_M_queue_40 (D : Nat) (x1 : Int) (x2 : Int) (M : pM) : xE D 259 40 [.inr 62, .inl x1, .inl x2, .inr 0] [] M =
 if le32 (M 60 3) x2 then
 xE D 259 68 [.inr 62, .inl x1, .inl x1, .inr 0] [] M
 else
 (if 0 ≤ x2 ∧ x2 < 10 then
 if 0 ≤ x2 ∧ x2 < 10 then
 if eq32 (M 66 x2.toNat) (M 81 x2.toNat) then
 xE D 259 40 [.inr 62, .inl (jor x1 0), .inl (x2 + 1), .inr 0] [] M
 else
 (if 0 ≤ x2 ∧ x2 < 10 then
 xE D 259 40 [.inr 62, .inl (jor x1 (jshl 1 (M 72 x2.toNat))), .inl (x2 + 1), .inr 0] [] M
 else none)
 else none
 else none) :=
 (x_run D 259 (fun i => C_259.getD i s_none) rfl (fun i => Nat.beq i 40 || Nat.beq i 68 || Nat.beq i 89 || Nat.beq i 146 || Nat.beq i 151) 192 40 [.inr 62, .inl x1, .inl x2, .inr 0] [] M).trans rfl
set_option maxRecDepth 10000 in
theorem L_M_queue_68 (D : Nat) (x1 : Int) (x2 : Int) (yx3 : pV) (M : pM) : xE D 259 68 [.inr 62, .inl x1, .inl x2, yx3] [] M =
 if lt32 x2 0 then
 (if ¬ eq32 (M 82 0) 0 then
 xE D 259 146 [.inr 62, .inl x1, .inl 0, yx3] [] (pset M 60 16 0)
 else
 some (some (.inl (-2)), M))
 else
 (if eq32 (jand x2 (jxor x1 (-1))) 0 then
 (if ¬ eq32 x2 x1 then
 (if 0 ≤ x2 ∧ x2 < 1024 then
 xE D 259 89 [.inr 62, .inl x1, .inl x2, .inl 0] [] (pset M 82 x2.toNat 0)
 else none)
 else
 (if 0 ≤ x2 ∧ x2 < 1024 then
 xE D 259 89 [.inr 62, .inl x1, .inl x2, .inl 0] [] (pset M 82 x2.toNat 1)
 else none))
 else
 xE D 259 68 [.inr 62, .inl x1, .inl (x2 + (-1)), yx3] [] M) :=
 (x_run D 259 (fun i => C_259.getD i s_none) rfl (fun i => Nat.beq i 40 || Nat.beq i 68 || Nat.beq i 89 || Nat.beq i 146 || Nat.beq i 151) 192 68 [.inr 62, .inl x1, .inl x2, yx3] [] M).trans rfl
set_option maxRecDepth 10000 in
theorem L_M_queue_89 (D : Nat) (x1 : Int) (x2 : Int) (x3 : Int) (M : pM) : xE D 259 89 [.inr 62, .inl x1, .inl x2, .inl x3] [] M =
 if le32 (M 60 30) x3 then
 xE D 259 68 [.inr 62, .inl x1, .inl (x2 + (-1)), .inl x3] [] M
 else
 (if 0 ≤ x2 ∧ x2 < 1024 then
 if ¬ eq32 (M 82 x2.toNat) 0 then
 xE D 259 68 [.inr 62, .inl x1, .inl (x2 + (-1)), .inl x3] [] M
 else
 (pbI (xF D 170 [.inl (jand x1 (jxor x2 (-1))), .inl x3] M) fun v2 M1 =>
 if eq32 v2 0 then
 (if 0 ≤ x2 ∧ x2 < 1024 then
 xE D 259 89 [.inr 62, .inl x1, .inl x2, .inl (x3 + 1)] [] (pset M1 82 x2.toNat 0)
 else none)
 else
 (if 0 ≤ jor x2 (jshl 1 x3) ∧ jor x2 (jshl 1 x3) < 1024 then
 if eq32 (M1 82 ((jor x2 (jshl 1 x3)).toNat)) 0 then
 (if 0 ≤ x2 ∧ x2 < 1024 then
 xE D 259 89 [.inr 62, .inl x1, .inl x2, .inl (x3 + 1)] [] (pset M1 82 x2.toNat 0)
 else none)
 else
 (pbI (xF D 258 [.inr 62, .inl (jor x2 (jshl 1 x3))] M1) fun v4 M3 =>
 if eq32 v4 0 then
 (if 0 ≤ x2 ∧ x2 < 1024 then
 xE D 259 89 [.inr 62, .inl x1, .inl x2, .inl (x3 + 1)] [] (pset M3 82 x2.toNat 0)
 else none)
 else
 (if 0 ≤ x2 ∧ x2 < 1024 then
 xE D 259 89 [.inr 62, .inl x1, .inl x2, .inl (x3 + 1)] [] (pset M3 82 x2.toNat 1)
 else none))
 else none))
 else none) :=
 (x_run D 259 (fun i => C_259.getD i s_none) rfl (fun i => Nat.beq i 40 || Nat.beq i 68 || Nat.beq i 89 || Nat.beq i 146 || Nat.beq i 151) 192 89 [.inr 62, .inl x1, .inl x2, .inl x3] [] M).trans rfl
set_option maxRecDepth 10000 in
theorem L_M_queue_146 (D : Nat) (x1 : Int) (x2 : Int) (yx3 : pV) (M : pM) : xE D 259 146 [.inr 62, .inl x1, .inl x2, yx3] [] M =
 if eq32 x2 x1 then
 (pbI (xF D 270 [.inl x1] M) fun v2 M1 =>
 some (some (.inl v2), M1))
 else
 xE D 259 151 [.inr 62, .inl x1, .inl x2, .inl 0] [] M :=
 (x_run D 259 (fun i => C_259.getD i s_none) rfl (fun i => Nat.beq i 40 || Nat.beq i 68 || Nat.beq i 89 || Nat.beq i 146 || Nat.beq i 151) 192 146 [.inr 62, .inl x1, .inl x2, yx3] [] M).trans rfl
set_option maxRecDepth 10000 in
theorem L_M_queue_151 (D : Nat) (x1 : Int) (x2 : Int) (x3 : Int) (M : pM) : xE D 259 151 [.inr 62, .inl x1, .inl x2, .inl x3] [] M =
 pbI (xF D 170 [.inl (jand x1 (jxor x2 (-1))), .inl x3] M) fun v2 M1 =>
 if eq32 v2 0 then
 xE D 259 151 [.inr 62, .inl x1, .inl x2, .inl (x3 + 1)] [] M1
 else
 (if 0 ≤ jor x2 (jshl 1 x3) ∧ jor x2 (jshl 1 x3) < 1024 then
 if eq32 (M1 82 ((jor x2 (jshl 1 x3)).toNat)) 0 then
 xE D 259 151 [.inr 62, .inl x1, .inl x2, .inl (x3 + 1)] [] M1
 else
 (pbI (xF D 258 [.inr 62, .inl (jor x2 (jshl 1 x3))] M1) fun v4 M3 =>
 if ¬ eq32 v4 0 then
 (pbN (xF D 172 [.inr 62, .inl x3] M3) fun M5 =>
 xE D 259 146 [.inr 62, .inl x1, .inl (jor x2 (jshl 1 x3)), .inl x3] [] M5)
 else
 xE D 259 151 [.inr 62, .inl x1, .inl x2, .inl (x3 + 1)] [] M3)
 else none) :=
 (x_run D 259 (fun i => C_259.getD i s_none) rfl (fun i => Nat.beq i 40 || Nat.beq i 68 || Nat.beq i 89 || Nat.beq i 146 || Nat.beq i 151) 192 151 [.inr 62, .inl x1, .inl x2, .inl x3] [] M).trans rfl
set_option maxRecDepth 10000 in
theorem T_M_findAims (D : Nat)  (M : pM) : xF (D + 1) 260 [.inr 62] M =
 pbI (xF D 228 [.inr 62] M) fun v2 M1 =>
 if eq32 v2 0 then
 xE D 260 7 [.inr 62, .inl 0, .inr 0] [] M1
 else
 some (some (.inl 0), M1) :=
 (show xF (D + 1) 260 [.inr 62] M = xE D 260 0 [.inr 62, .inr 0, .inr 0] [] M from rfl).trans ((x_run D 260 (fun i => C_260.getD i s_none) rfl (fun i => Nat.beq i 7 || Nat.beq i 29 || Nat.beq i 42 || Nat.beq i 94 || Nat.beq i 100) 131 0 [.inr 62, .inr 0, .inr 0] [] M).trans rfl)
set_option maxRecDepth 10000 in
theorem L_M_findAims_7 (D : Nat) (x1 : Int) (M : pM) : xE D 260 7 [.inr 62, .inl x1, .inr 0] [] M =
 if le32 (M 60 3) x1 then
 (pbN (xF D 229 [.inr 62] (pset (pset M 60 48 1) 60 49 (-1))) fun M1 =>
 xE D 260 29 [.inr 62, .inl x1, .inr 0] [] M1)
 else
 (if 0 ≤ x1 ∧ x1 < 10 then
 if 0 ≤ x1 ∧ x1 < 3010 then
 xE D 260 7 [.inr 62, .inl (x1 + 1), .inr 0] [] (pset M 83 x1.toNat (M 66 x1.toNat))
 else none
 else none) :=
 (x_run D 260 (fun i => C_260.getD i s_none) rfl (fun i => Nat.beq i 7 || Nat.beq i 29 || Nat.beq i 42 || Nat.beq i 94 || Nat.beq i 100) 131 7 [.inr 62, .inl x1, .inr 0] [] M).trans rfl
set_option maxRecDepth 10000 in
theorem L_M_findAims_29 (D : Nat) (x1 : Int) (yx2 : pV) (M : pM) : xE D 260 29 [.inr 62, .inl x1, yx2] [] M =
 pbI (xF D 230 [.inr 62] M) fun v2 M1 =>
 if eq32 v2 0 then
 xE D 260 94 [.inr 62, .inl 0, yx2] [] M1
 else
 (if le32 (M1 60 48) 300 then
 xE D 260 42 [.inr 62, .inl 1, .inl 0] [] M1
 else
 some (some (.inl 0), M1)) :=
 (x_run D 260 (fun i => C_260.getD i s_none) rfl (fun i => Nat.beq i 7 || Nat.beq i 29 || Nat.beq i 42 || Nat.beq i 94 || Nat.beq i 100) 131 29 [.inr 62, .inl x1, yx2] [] M).trans rfl
set_option maxRecDepth 10000 in
theorem L_M_findAims_42 (D : Nat) (x1 : Int) (x2 : Int) (M : pM) : xE D 260 42 [.inr 62, .inl x1, .inl x2] [] M =
 if le32 (M 60 3) x2 then
 (if eq32 x1 0 then
 xE D 260 29 [.inr 62, .inl x1, .inl x2] [] (pset (pset M 60 49 (M 60 49)) 60 48 (((pset M 60 49 (M 60 49)) 60 48) + 1))
 else
 xE D 260 29 [.inr 62, .inl x1, .inl x2] [] (pset (pset M 60 49 (M 60 48)) 60 48 (((pset M 60 49 (M 60 48)) 60 48) + 1)))
 else
 (if 0 ≤ x2 ∧ x2 < 10 then
 if 0 ≤ (10 * (M 60 48)) + x2 ∧ (10 * (M 60 48)) + x2 < 3010 then
 if eq32 x1 0 then
 xE D 260 42 [.inr 62, .inl 0, .inl (x2 + 1)] [] (pset M 83 (((10 * (M 60 48)) + x2).toNat) (M 78 x2.toNat))
 else
 (if 0 ≤ x2 ∧ x2 < 10 then
 if 0 ≤ x2 ∧ x2 < 10 then
 if ¬ eq32 ((pset M 83 (((10 * (M 60 48)) + x2).toNat) (M 78 x2.toNat)) 78 x2.toNat) ((pset M 83 (((10 * (M 60 48)) + x2).toNat) (M 78 x2.toNat)) 81 x2.toNat) then
 xE D 260 42 [.inr 62, .inl 0, .inl (x2 + 1)] [] (pset M 83 (((10 * (M 60 48)) + x2).toNat) (M 78 x2.toNat))
 else
 xE D 260 42 [.inr 62, .inl 1, .inl (x2 + 1)] [] (pset M 83 (((10 * (M 60 48)) + x2).toNat) (M 78 x2.toNat))
 else none
 else none)
 else none
 else none) :=
 (x_run D 260 (fun i => C_260.getD i s_none) rfl (fun i => Nat.beq i 7 || Nat.beq i 29 || Nat.beq i 42 || Nat.beq i 94 || Nat.beq i 100) 131 42 [.inr 62, .inl x1, .inl x2] [] M).trans rfl
set_option maxRecDepth 10000 in
theorem L_M_findAims_94 (D : Nat) (x1 : Int) (yx2 : pV) (M : pM) : xE D 260 94 [.inr 62, .inl x1, yx2] [] M =
 if le32 (M 60 48) x1 then
 some (some (.inl 1), M)
 else
 xE D 260 100 [.inr 62, .inl x1, .inl 1] [] M :=
 (x_run D 260 (fun i => C_260.getD i s_none) rfl (fun i => Nat.beq i 7 || Nat.beq i 29 || Nat.beq i 42 || Nat.beq i 94 || Nat.beq i 100) 131 94 [.inr 62, .inl x1, yx2] [] M).trans rfl
set_option maxRecDepth 10000 in
theorem L_M_findAims_100 (D : Nat) (x1 : Int) (x2 : Int) (M : pM) : xE D 260 100 [.inr 62, .inl x1, .inl x2] [] M =
 if le32 (M 60 48) x2 then
 xE D 260 94 [.inr 62, .inl (x1 + 1), .inl x2] [] M
 else
 (pbI (xF D 209 [.inr 62, .inr 85, .inl (10 * x1), .inr 85, .inl (10 * x2)] M) fun v2 M1 =>
 if 0 ≤ (301 * x1) + x2 ∧ (301 * x1) + x2 < 90601 then
 xE D 260 100 [.inr 62, .inl x1, .inl (x2 + 1)] [] (pset M1 84 (((301 * x1) + x2).toNat) v2)
 else none) :=
 (x_run D 260 (fun i => C_260.getD i s_none) rfl (fun i => Nat.beq i 7 || Nat.beq i 29 || Nat.beq i 42 || Nat.beq i 94 || Nat.beq i 100) 131 100 [.inr 62, .inl x1, .inl x2] [] M).trans rfl
set_option maxRecDepth 10000 in
theorem T_M_findEvenings (D : Nat) (b : Int) (M : pM) : xF (D + 1) 262 [.inr 62, .inl b] M =
 xE D 262 2 [.inr 62, .inl b, .inl 0, .inr 0, .inr 0, .inr 0, .inr 0] [] M :=
 (show xF (D + 1) 262 [.inr 62, .inl b] M = xE D 262 0 [.inr 62, .inl b, .inr 0, .inr 0, .inr 0, .inr 0, .inr 0] [] M from rfl).trans ((x_run D 262 (fun i => C_262.getD i s_none) rfl (fun i => Nat.beq i 2 || Nat.beq i 34 || Nat.beq i 40 || Nat.beq i 53) 111 0 [.inr 62, .inl b, .inr 0, .inr 0, .inr 0, .inr 0, .inr 0] [] M).trans rfl)
set_option maxRecDepth 10000 in
theorem L_M_findEvenings_2 (D : Nat) (x1 : Int) (x2 : Int) (M : pM) : xE D 262 2 [.inr 62, .inl x1, .inl x2, .inr 0, .inr 0, .inr 0, .inr 0] [] M =
 if le32 (M 60 48) x2 then
 xE D 262 34 [.inr 62, .inl x1, .inl 1, .inl 1, .inr 0, .inr 0, .inr 0] [] M
 else
 (if ¬ eq32 x2 (M 60 49) then
 (if 0 ≤ x2 ∧ x2 < 301 then
 if ¬ eq32 x2 ((pset M 85 x2.toNat 1000000) 60 49) then
 (if 0 ≤ x2 ∧ x2 < 301 then
 xE D 262 2 [.inr 62, .inl x1, .inl (x2 + 1), .inr 0, .inr 0, .inr 0, .inr 0] [] (pset (pset M 85 x2.toNat 1000000) 86 x2.toNat 1000000)
 else none)
 else
 (if 0 ≤ x2 ∧ x2 < 301 then
 xE D 262 2 [.inr 62, .inl x1, .inl (x2 + 1), .inr 0, .inr 0, .inr 0, .inr 0] [] (pset (pset M 85 x2.toNat 1000000) 86 x2.toNat 0)
 else none)
 else none)
 else
 (if 0 ≤ x2 ∧ x2 < 301 then
 if ¬ eq32 x2 ((pset M 85 x2.toNat 0) 60 49) then
 (if 0 ≤ x2 ∧ x2 < 301 then
 xE D 262 2 [.inr 62, .inl x1, .inl (x2 + 1), .inr 0, .inr 0, .inr 0, .inr 0] [] (pset (pset M 85 x2.toNat 0) 86 x2.toNat 1000000)
 else none)
 else
 (if 0 ≤ x2 ∧ x2 < 301 then
 xE D 262 2 [.inr 62, .inl x1, .inl (x2 + 1), .inr 0, .inr 0, .inr 0, .inr 0] [] (pset (pset M 85 x2.toNat 0) 86 x2.toNat 0)
 else none)
 else none)) :=
 (x_run D 262 (fun i => C_262.getD i s_none) rfl (fun i => Nat.beq i 2 || Nat.beq i 34 || Nat.beq i 40 || Nat.beq i 53) 111 2 [.inr 62, .inl x1, .inl x2, .inr 0, .inr 0, .inr 0, .inr 0] [] M).trans rfl
set_option maxRecDepth 10000 in
theorem L_M_findEvenings_34 (D : Nat) (x1 : Int) (x2 : Int) (x3 : Int) (yx4 : pV) (yx5 : pV) (yx6 : pV) (M : pM) : xE D 262 34 [.inr 62, .inl x1, .inl x2, .inl x3, yx4, yx5, yx6] [] M =
 if eq32 x2 0 then
 some (none, M)
 else
 xE D 262 40 [.inr 62, .inl x1, .inl 0, .inl x3, .inl 0, yx5, yx6] [] M :=
 (x_run D 262 (fun i => C_262.getD i s_none) rfl (fun i => Nat.beq i 2 || Nat.beq i 34 || Nat.beq i 40 || Nat.beq i 53) 111 34 [.inr 62, .inl x1, .inl x2, .inl x3, yx4, yx5, yx6] [] M).trans rfl
set_option maxRecDepth 10000 in
theorem L_M_findEvenings_40 (D : Nat) (x1 : Int) (x2 : Int) (x3 : Int) (x4 : Int) (yx5 : pV) (yx6 : pV) (M : pM) : xE D 262 40 [.inr 62, .inl x1, .inl x2, .inl x3, .inl x4, yx5, yx6] [] M =
 if le32 (M 60 48) x4 then
 xE D 262 34 [.inr 62, .inl x1, .inl x2, .inl (x3 + 1), .inl x4, yx5, yx6] [] M
 else
 (if 0 ≤ x4 ∧ x4 < 301 then
 if le32 x3 (M 85 x4.toNat) then
 xE D 262 53 [.inr 62, .inl x1, .inl x2, .inl x3, .inl x4, .inl 1, yx6] [] M
 else
 xE D 262 40 [.inr 62, .inl x1, .inl x2, .inl x3, .inl (x4 + 1), yx5, yx6] [] M
 else none) :=
 (x_run D 262 (fun i => C_262.getD i s_none) rfl (fun i => Nat.beq i 2 || Nat.beq i 34 || Nat.beq i 40 || Nat.beq i 53) 111 40 [.inr 62, .inl x1, .inl x2, .inl x3, .inl x4, yx5, yx6] [] M).trans rfl
set_option maxRecDepth 10000 in
theorem L_M_findEvenings_53 (D : Nat) (x1 : Int) (x2 : Int) (x3 : Int) (x4 : Int) (x5 : Int) (yx6 : pV) (M : pM) : xE D 262 53 [.inr 62, .inl x1, .inl x2, .inl x3, .inl x4, .inl x5, yx6] [] M =
 if le32 (M 60 48) x5 then
 xE D 262 40 [.inr 62, .inl x1, .inl x2, .inl x3, .inl (x4 + 1), .inl x5, yx6] [] M
 else
 (if 0 ≤ (301 * x4) + x5 ∧ (301 * x4) + x5 < 90601 then
 if 0 ≤ x5 ∧ x5 < 301 then
 if ¬ eq32 (M 85 x5.toNat) (x3 - 1) then
 xE D 262 53 [.inr 62, .inl x1, .inl x2, .inl x3, .inl x4, .inl (x5 + 1), .inl (M 84 (((301 * x4) + x5).toNat))] [] M
 else
 (if lt32 x1 (M 84 (((301 * x4) + x5).toNat)) then
 xE D 262 53 [.inr 62, .inl x1, .inl x2, .inl x3, .inl x4, .inl (x5 + 1), .inl (M 84 (((301 * x4) + x5).toNat))] [] M
 else
 (if lt32 (M 84 (((301 * x4) + x5).toNat)) 1000000 then
 (if 0 ≤ x4 ∧ x4 < 301 then
 if 0 ≤ x4 ∧ x4 < 301 then
 if 0 ≤ x5 ∧ x5 < 301 then
 if 0 ≤ x4 ∧ x4 < 301 then
 xE D 262 53 [.inr 62, .inl x1, .inl 1, .inl x3, .inl x4, .inl (x5 + 1), .inl (M 84 (((301 * x4) + x5).toNat))] [] (pset (pset M 85 x4.toNat x3) 86 x4.toNat (jmin ((pset M 85 x4.toNat x3) 86 x4.toNat) (((pset M 85 x4.toNat x3) 86 x5.toNat) + (M 84 (((301 * x4) + x5).toNat)))))
 else none
 else none
 else none
 else none)
 else
 xE D 262 53 [.inr 62, .inl x1, .inl x2, .inl x3, .inl x4, .inl (x5 + 1), .inl (M 84 (((301 * x4) + x5).toNat))] [] M))
 else none
 else none) :=
 (x_run D 262 (fun i => C_262.getD i s_none) rfl (fun i => Nat.beq i 2 || Nat.beq i 34 || Nat.beq i 40 || Nat.beq i 53) 111 53 [.inr 62, .inl x1, .inl x2, .inl x3, .inl x4, .inl x5, yx6] [] M).trans rfl
set_option maxRecDepth 10000 in
theorem T_M_evenings (D : Nat)  (M : pM) : xF (D + 1) 263 [.inr 62] M =
 pbI (xF D 256 [.inr 62] (pset M 60 17 0)) fun v2 M1 =>
 if ¬ eq32 v2 0 then
 (pbI (xF D 261 [.inr 62] M1) fun v4 M3 =>
 if eq32 v4 0 then
 (pbI (xF D 260 [.inr 62] M3) fun v6 M5 =>
 if ¬ eq32 v6 0 then
 (if ¬ eq32 (M5 60 49) (-1) then
 (pbN (xF D 262 [.inr 62, .inl (M5 60 12)] M5) fun M7 =>
 if lt32 (M7 85 0) 1000000 then
 xE D 263 44 [.inr 62, .inl 1, .inr 0] [] M7
 else
 some (some (.inl (-2)), M7))
 else
 some (some (.inl (-2)), M5))
 else
 some (some (.inl (-3)), M5))
 else
 (pbN (xF D 172 [.inr 62, .inl 0] (pset M3 60 16 0)) fun M8 =>
 some (some (.inl 0), M8)))
 else
 some (some (.inl (-4)), M1) :=
 (show xF (D + 1) 263 [.inr 62] M = xE D 263 0 [.inr 62, .inr 0, .inr 0] [] M from rfl).trans ((x_run D 263 (fun i => C_263.getD i s_none) rfl (fun i => Nat.beq i 44 || Nat.beq i 89) 111 0 [.inr 62, .inr 0, .inr 0] [] M).trans rfl)
set_option maxRecDepth 10000 in
theorem L_M_evenings_44 (D : Nat) (x1 : Int) (M : pM) : xE D 263 44 [.inr 62, .inl x1, .inr 0] [] M =
 if 0 ≤ x1 ∧ x1 < 301 then
 if ¬ eq32 (M 85 x1.toNat) ((M 85 0) - 1) then
 xE D 263 44 [.inr 62, .inl (x1 + 1), .inr 0] [] M
 else
 (if 0 ≤ x1 ∧ x1 < 90601 then
 if lt32 (M 60 12) (M 84 x1.toNat) then
 xE D 263 44 [.inr 62, .inl (x1 + 1), .inr 0] [] M
 else
 (if 0 ≤ x1 ∧ x1 < 301 then
 if 0 ≤ x1 ∧ x1 < 90601 then
 if eq32 ((M 86 x1.toNat) + (M 84 x1.toNat)) (M 86 0) then
 (pbN (xF D 172 [.inr 62, .inl ((pset M 60 16 0) 86 0)] (pset M 60 16 0)) fun M1 =>
 xE D 263 89 [.inr 62, .inl x1, .inl 0] [] M1)
 else
 xE D 263 44 [.inr 62, .inl (x1 + 1), .inr 0] [] M
 else none
 else none)
 else none)
 else none :=
 (x_run D 263 (fun i => C_263.getD i s_none) rfl (fun i => Nat.beq i 44 || Nat.beq i 89) 111 44 [.inr 62, .inl x1, .inr 0] [] M).trans rfl
set_option maxRecDepth 10000 in
theorem L_M_evenings_89 (D : Nat) (x1 : Int) (x2 : Int) (M : pM) : xE D 263 89 [.inr 62, .inl x1, .inl x2] [] M =
 if le32 (M 60 3) x2 then
 some (some (.inl (M 85 0)), M)
 else
 (if 0 ≤ (10 * x1) + x2 ∧ (10 * x1) + x2 < 3010 then
 pbN (xF D 172 [.inr 62, .inl (M 83 (((10 * x1) + x2).toNat))] M) fun M1 =>
 xE D 263 89 [.inr 62, .inl x1, .inl (x2 + 1)] [] M1
 else none) :=
 (x_run D 263 (fun i => C_263.getD i s_none) rfl (fun i => Nat.beq i 44 || Nat.beq i 89) 111 89 [.inr 62, .inl x1, .inl x2] [] M).trans rfl
set_option maxRecDepth 10000 in
theorem T_M_weakest (D : Nat)  (M : pM) : xF (D + 1) 264 [.inr 62] M =
 pbI (xF D 256 [.inr 62] (pset M 60 17 0)) fun v2 M1 =>
 if ¬ eq32 v2 0 then
 (pbI (xF D 261 [.inr 62] M1) fun v4 M3 =>
 if eq32 v4 0 then
 (pbI (xF D 260 [.inr 62] M3) fun v6 M5 =>
 if ¬ eq32 v6 0 then
 (if ¬ eq32 (M5 60 49) (-1) then
 xE D 264 32 [.inr 62, .inl 1] [] M5
 else
 some (some (.inl (-2)), M5))
 else
 some (some (.inl (-3)), M5))
 else
 (pbN (xF D 172 [.inr 62, .inl 0] (pset M3 60 16 0)) fun M7 =>
 some (some (.inl 0), M7)))
 else
 some (some (.inl (-4)), M1) :=
 (show xF (D + 1) 264 [.inr 62] M = xE D 264 0 [.inr 62, .inr 0] [] M from rfl).trans ((x_run D 264 (fun i => C_264.getD i s_none) rfl (fun i => Nat.beq i 32) 66 0 [.inr 62, .inr 0] [] M).trans rfl)
set_option maxRecDepth 10000 in
theorem L_M_weakest_32 (D : Nat) (x1 : Int) (M : pM) : xE D 264 32 [.inr 62, .inl x1] [] M =
 if lt32 999 x1 then
 some (some (.inl (-2)), M)
 else
 (pbI (xF D 265 [.inr 62, .inl x1] M) fun v2 M1 =>
 if ¬ eq32 v2 0 then
 (pbN (xF D 262 [.inr 62, .inl x1] M1) fun M3 =>
 if lt32 (M3 85 0) 1000000 then
 (pbN (xF D 172 [.inr 62, .inl ((pset M3 60 16 0) 85 0)] (pset M3 60 16 0)) fun M4 =>
 some (some (.inl x1), M4))
 else
 xE D 264 32 [.inr 62, .inl (x1 + 1)] [] M3)
 else
 xE D 264 32 [.inr 62, .inl (x1 + 1)] [] M1) :=
 (x_run D 264 (fun i => C_264.getD i s_none) rfl (fun i => Nat.beq i 32) 66 32 [.inr 62, .inl x1] [] M).trans rfl
set_option maxRecDepth 10000 in
theorem T_M_keep (D : Nat) (b : Int) (M : pM) : xF (D + 1) 266 [.inr 62, .inl b] M =
 pbI (xF D 169 [.inl b, .inl 0, .inl 1] (pset M 60 17 0)) fun v2 M1 =>
 if ¬ eq32 v2 0 then
 (if 0 ≤ b ∧ b < 2 then
 if 0 ≤ b ∧ b < 2 then
 xE D 266 23 [.inr 62, .inl b, .inl 0] [] (pset (pset M1 88 b.toNat 1) 89 b.toNat ((pset M1 88 b.toNat 1) 60 52))
 else none
 else none)
 else
 some (some (.inl 0), M1) :=
 (show xF (D + 1) 266 [.inr 62, .inl b] M = xE D 266 0 [.inr 62, .inl b, .inr 0] [] M from rfl).trans ((x_run D 266 (fun i => C_266.getD i s_none) rfl (fun i => Nat.beq i 23) 65 0 [.inr 62, .inl b, .inr 0] [] M).trans rfl)
set_option maxRecDepth 10000 in
theorem L_M_keep_23 (D : Nat) (x1 : Int) (x2 : Int) (M : pM) : xE D 266 23 [.inr 62, .inl x1, .inl x2] [] M =
 if le32 10 x2 then
 (if 0 ≤ (12 * x1) + 10 ∧ (12 * x1) + 10 < 24 then
 if 0 ≤ ((12 * x1) + 10) + 1 ∧ ((12 * x1) + 10) + 1 < 24 then
 some (some (.inl 1), pset (pset M 87 (((12 * x1) + 10).toNat) (M 60 10)) 87 ((((12 * x1) + 10) + 1).toNat) ((pset M 87 (((12 * x1) + 10).toNat) (M 60 10)) 60 11))
 else none
 else none)
 else
 (if 0 ≤ x2 ∧ x2 < 10 then
 if 0 ≤ (12 * x1) + x2 ∧ (12 * x1) + x2 < 24 then
 xE D 266 23 [.inr 62, .inl x1, .inl (x2 + 1)] [] (pset M 87 (((12 * x1) + x2).toNat) (M 66 x2.toNat))
 else none
 else none) :=
 (x_run D 266 (fun i => C_266.getD i s_none) rfl (fun i => Nat.beq i 23) 65 23 [.inr 62, .inl x1, .inl x2] [] M).trans rfl
set_option maxRecDepth 10000 in
theorem T_M_again (D : Nat) (b : Int) (M : pM) : xF (D + 1) 267 [.inr 62, .inl b] M =
 pbI (xF D 169 [.inl b, .inl 0, .inl 1] (pset M 60 17 0)) fun v2 M1 =>
 if eq32 v2 0 then
 some (some (.inl 0), M1)
 else
 (if 0 ≤ b ∧ b < 2 then
 if eq32 (M1 88 b.toNat) 0 then
 some (some (.inl 0), M1)
 else
 (if 0 ≤ b ∧ b < 2 then
 if eq32 (M1 89 b.toNat) (M1 60 52) then
 xE D 267 24 [.inr 62, .inl b, .inl 0] [] M1
 else
 some (some (.inl 0), M1)
 else none)
 else none) :=
 (show xF (D + 1) 267 [.inr 62, .inl b] M = xE D 267 0 [.inr 62, .inl b, .inr 0] [] M from rfl).trans ((x_run D 267 (fun i => C_267.getD i s_none) rfl (fun i => Nat.beq i 24) 70 0 [.inr 62, .inl b, .inr 0] [] M).trans rfl)
set_option maxRecDepth 10000 in
theorem L_M_again_24 (D : Nat) (x1 : Int) (x2 : Int) (M : pM) : xE D 267 24 [.inr 62, .inl x1, .inl x2] [] M =
 if le32 (M 60 3) x2 then
 (if 0 ≤ (12 * x1) + 10 ∧ (12 * x1) + 10 < 24 then
 if 0 ≤ ((12 * x1) + 10) + 1 ∧ ((12 * x1) + 10) + 1 < 24 then
 some (some (.inl 1), pset (pset (pset M 60 10 (M 87 (((12 * x1) + 10).toNat))) 60 11 ((pset M 60 10 (M 87 (((12 * x1) + 10).toNat))) 87 ((((12 * x1) + 10) + 1).toNat))) 60 33 0)
 else none
 else none)
 else
 (if 0 ≤ (12 * x1) + x2 ∧ (12 * x1) + x2 < 24 then
 if 0 ≤ x2 ∧ x2 < 10 then
 xE D 267 24 [.inr 62, .inl x1, .inl (x2 + 1)] [] (pset M 66 x2.toNat (M 87 (((12 * x1) + x2).toNat)))
 else none
 else none) :=
 (x_run D 267 (fun i => C_267.getD i s_none) rfl (fun i => Nat.beq i 24) 70 24 [.inr 62, .inl x1, .inl x2] [] M).trans rfl
set_option maxRecDepth 10000 in
theorem T_I_bitCount (D : Nat) (a : Int) (M : pM) : xF (D + 1) 270 [.inl a] M =
 some (some (.inl (jand (((jand (((jand (a - (jand (jushr a 1) 1431655765)) 858993459) + (jand (jushr (a - (jand (jushr a 1) 1431655765)) 2) 858993459)) + (jushr ((jand (a - (jand (jushr a 1) 1431655765)) 858993459) + (jand (jushr (a - (jand (jushr a 1) 1431655765)) 2) 858993459)) 4)) 252645135) + (jushr (jand (((jand (a - (jand (jushr a 1) 1431655765)) 858993459) + (jand (jushr (a - (jand (jushr a 1) 1431655765)) 2) 858993459)) + (jushr ((jand (a - (jand (jushr a 1) 1431655765)) 858993459) + (jand (jushr (a - (jand (jushr a 1) 1431655765)) 2) 858993459)) 4)) 252645135) 8)) + (jushr ((jand (((jand (a - (jand (jushr a 1) 1431655765)) 858993459) + (jand (jushr (a - (jand (jushr a 1) 1431655765)) 2) 858993459)) + (jushr ((jand (a - (jand (jushr a 1) 1431655765)) 858993459) + (jand (jushr (a - (jand (jushr a 1) 1431655765)) 2) 858993459)) 4)) 252645135) + (jushr (jand (((jand (a - (jand (jushr a 1) 1431655765)) 858993459) + (jand (jushr (a - (jand (jushr a 1) 1431655765)) 2) 858993459)) + (jushr ((jand (a - (jand (jushr a 1) 1431655765)) 858993459) + (jand (jushr (a - (jand (jushr a 1) 1431655765)) 2) 858993459)) 4)) 252645135) 8)) 16)) 63)), M) :=
 (show xF (D + 1) 270 [.inl a] M = xE D 270 0 [.inl a] [] M from rfl).trans ((x_run D 270 (fun i => C_270.getD i s_none) rfl (fun _ => false) 43 0 [.inl a] [] M).trans rfl)
set_option maxRecDepth 10000 in
theorem T_I_numberOfTrailingZeros (D : Nat) (a : Int) (M : pM) : xF (D + 1) 271 [.inl a] M =
 if lt32 0 (jand (jxor a (-1)) (a - 1)) then
 (if le32 (jand (jxor a (-1)) (a - 1)) 65536 then
 (if le32 (jand (jxor a (-1)) (a - 1)) 256 then
 (if le32 (jand (jxor a (-1)) (a - 1)) 16 then
 (if le32 (jand (jxor a (-1)) (a - 1)) 4 then
 some (some (.inl (1 + (jushr (jand (jxor a (-1)) (a - 1)) 1))), M)
 else
 some (some (.inl ((1 + 2) + (jushr (jushr (jand (jxor a (-1)) (a - 1)) 2) 1))), M))
 else
 (if le32 (jushr (jand (jxor a (-1)) (a - 1)) 4) 4 then
 some (some (.inl ((1 + 4) + (jushr (jushr (jand (jxor a (-1)) (a - 1)) 4) 1))), M)
 else
 some (some (.inl (((1 + 4) + 2) + (jushr (jushr (jushr (jand (jxor a (-1)) (a - 1)) 4) 2) 1))), M)))
 else
 (if le32 (jushr (jand (jxor a (-1)) (a - 1)) 8) 16 then
 (if le32 (jushr (jand (jxor a (-1)) (a - 1)) 8) 4 then
 some (some (.inl ((1 + 8) + (jushr (jushr (jand (jxor a (-1)) (a - 1)) 8) 1))), M)
 else
 some (some (.inl (((1 + 8) + 2) + (jushr (jushr (jushr (jand (jxor a (-1)) (a - 1)) 8) 2) 1))), M))
 else
 (if le32 (jushr (jushr (jand (jxor a (-1)) (a - 1)) 8) 4) 4 then
 some (some (.inl (((1 + 8) + 4) + (jushr (jushr (jushr (jand (jxor a (-1)) (a - 1)) 8) 4) 1))), M)
 else
 some (some (.inl ((((1 + 8) + 4) + 2) + (jushr (jushr (jushr (jushr (jand (jxor a (-1)) (a - 1)) 8) 4) 2) 1))), M))))
 else
 (if le32 (jushr (jand (jxor a (-1)) (a - 1)) 16) 256 then
 (if le32 (jushr (jand (jxor a (-1)) (a - 1)) 16) 16 then
 (if le32 (jushr (jand (jxor a (-1)) (a - 1)) 16) 4 then
 some (some (.inl ((1 + 16) + (jushr (jushr (jand (jxor a (-1)) (a - 1)) 16) 1))), M)
 else
 some (some (.inl (((1 + 16) + 2) + (jushr (jushr (jushr (jand (jxor a (-1)) (a - 1)) 16) 2) 1))), M))
 else
 (if le32 (jushr (jushr (jand (jxor a (-1)) (a - 1)) 16) 4) 4 then
 some (some (.inl (((1 + 16) + 4) + (jushr (jushr (jushr (jand (jxor a (-1)) (a - 1)) 16) 4) 1))), M)
 else
 some (some (.inl ((((1 + 16) + 4) + 2) + (jushr (jushr (jushr (jushr (jand (jxor a (-1)) (a - 1)) 16) 4) 2) 1))), M)))
 else
 (if le32 (jushr (jushr (jand (jxor a (-1)) (a - 1)) 16) 8) 16 then
 (if le32 (jushr (jushr (jand (jxor a (-1)) (a - 1)) 16) 8) 4 then
 some (some (.inl (((1 + 16) + 8) + (jushr (jushr (jushr (jand (jxor a (-1)) (a - 1)) 16) 8) 1))), M)
 else
 some (some (.inl ((((1 + 16) + 8) + 2) + (jushr (jushr (jushr (jushr (jand (jxor a (-1)) (a - 1)) 16) 8) 2) 1))), M))
 else
 (if le32 (jushr (jushr (jushr (jand (jxor a (-1)) (a - 1)) 16) 8) 4) 4 then
 some (some (.inl ((((1 + 16) + 8) + 4) + (jushr (jushr (jushr (jushr (jand (jxor a (-1)) (a - 1)) 16) 8) 4) 1))), M)
 else
 some (some (.inl (((((1 + 16) + 8) + 4) + 2) + (jushr (jushr (jushr (jushr (jushr (jand (jxor a (-1)) (a - 1)) 16) 8) 4) 2) 1))), M)))))
 else
 some (some (.inl (jand (jand (jxor a (-1)) (a - 1)) 32)), M) :=
 (show xF (D + 1) 271 [.inl a] M = xE D 271 0 [.inl a, .inr 0] [] M from rfl).trans ((x_run D 271 (fun i => C_271.getD i s_none) rfl (fun _ => false) 55 0 [.inl a, .inr 0] [] M).trans rfl)
