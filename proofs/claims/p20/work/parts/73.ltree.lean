/-! the equations of the law (by program) -/
def lstT (i : Nat) : Bool := Nat.beq i 25 || Nat.beq i 42 || Nat.beq i 59 || Nat.beq i 66 || Nat.beq i 73 || Nat.beq i 101 || Nat.beq i 129 || Nat.beq i 146 || Nat.beq i 173 || Nat.beq i 210 || Nat.beq i 227 || Nat.beq i 274 || Nat.beq i 301 || Nat.beq i 308 || Nat.beq i 315 || Nat.beq i 322 || Nat.beq i 349 || Nat.beq i 356 || Nat.beq i 363 || Nat.beq i 380 || Nat.beq i 397 || Nat.beq i 404 || Nat.beq i 411 || Nat.beq i 418 || Nat.beq i 425 || Nat.beq i 432 || Nat.beq i 459 || Nat.beq i 466 || Nat.beq i 493 || Nat.beq i 510 || Nat.beq i 537 || Nat.beq i 554 || Nat.beq i 581 || Nat.beq i 588 || Nat.beq i 595 || Nat.beq i 622 || Nat.beq i 649 || Nat.beq i 656 || Nat.beq i 673 || Nat.beq i 680 || Nat.beq i 687 || Nat.beq i 694 || Nat.beq i 701 || Nat.beq i 708 || Nat.beq i 725 || Nat.beq i 742 || Nat.beq i 759 || Nat.beq i 777
def lstH (i : Nat) : Bool := Nat.beq i 13
def lstC (i : Nat) : Bool := Nat.beq i 13 || Nat.beq i 85 || Nat.beq i 113 || Nat.beq i 766
set_option maxRecDepth 100000 in
theorem LT_top (D : Nat) (X : pX) (L : Nat) (xs : Nat → Int32) (z : Int) (u5 : pV) (u6 : pV) (M : pM) : prun (lawc L xs) (lstT) X (xF D) 90 13 [.inr 95, .inr 2, .inr 62, .inr 92, .inl z, u5, u6] [] M =
 if lt32 ((Int.ofNat L) - 5) z then
 some (some (.inl 1), M)
 else
 (if 0 ≤ z ∧ z < Int.ofNat L then
 if eq32 (jand ((xs z.toNat).toInt) 63) 0 then
 X 25 [.inr 95, .inr 2, .inr 62, .inr 92, .inl z, u5, u6] [] M
 else
 if eq32 (jand ((xs z.toNat).toInt) 63) 1 then
 X 42 [.inr 95, .inr 2, .inr 62, .inr 92, .inl z, u5, u6] [] M
 else
 if eq32 (jand ((xs z.toNat).toInt) 63) 2 then
 X 59 [.inr 95, .inr 2, .inr 62, .inr 92, .inl z, u5, u6] [] M
 else
 if eq32 (jand ((xs z.toNat).toInt) 63) 3 then
 X 66 [.inr 95, .inr 2, .inr 62, .inr 92, .inl z, u5, u6] [] M
 else
 if eq32 (jand ((xs z.toNat).toInt) 63) 4 then
 X 73 [.inr 95, .inr 2, .inr 62, .inr 92, .inl z, u5, u6] [] M
 else
 if eq32 (jand ((xs z.toNat).toInt) 63) 5 then
 X 101 [.inr 95, .inr 2, .inr 62, .inr 92, .inl z, u5, u6] [] M
 else
 if eq32 (jand ((xs z.toNat).toInt) 63) 6 then
 X 129 [.inr 95, .inr 2, .inr 62, .inr 92, .inl z, u5, u6] [] M
 else
 if eq32 (jand ((xs z.toNat).toInt) 63) 7 then
 X 146 [.inr 95, .inr 2, .inr 62, .inr 92, .inl z, u5, u6] [] M
 else
 if eq32 (jand ((xs z.toNat).toInt) 63) 8 then
 X 173 [.inr 95, .inr 2, .inr 62, .inr 92, .inl z, u5, u6] [] M
 else
 if eq32 (jand ((xs z.toNat).toInt) 63) 9 then
 X 210 [.inr 95, .inr 2, .inr 62, .inr 92, .inl z, u5, u6] [] M
 else
 if eq32 (jand ((xs z.toNat).toInt) 63) 10 then
 X 227 [.inr 95, .inr 2, .inr 62, .inr 92, .inl z, u5, u6] [] M
 else
 if eq32 (jand ((xs z.toNat).toInt) 63) 11 then
 X 274 [.inr 95, .inr 2, .inr 62, .inr 92, .inl z, u5, u6] [] M
 else
 if eq32 (jand ((xs z.toNat).toInt) 63) 12 then
 X 301 [.inr 95, .inr 2, .inr 62, .inr 92, .inl z, u5, u6] [] M
 else
 if eq32 (jand ((xs z.toNat).toInt) 63) 13 then
 X 308 [.inr 95, .inr 2, .inr 62, .inr 92, .inl z, u5, u6] [] M
 else
 if eq32 (jand ((xs z.toNat).toInt) 63) 14 then
 X 315 [.inr 95, .inr 2, .inr 62, .inr 92, .inl z, u5, u6] [] M
 else
 if eq32 (jand ((xs z.toNat).toInt) 63) 15 then
 X 322 [.inr 95, .inr 2, .inr 62, .inr 92, .inl z, u5, u6] [] M
 else
 if eq32 (jand ((xs z.toNat).toInt) 63) 16 then
 X 349 [.inr 95, .inr 2, .inr 62, .inr 92, .inl z, u5, u6] [] M
 else
 if eq32 (jand ((xs z.toNat).toInt) 63) 17 then
 X 356 [.inr 95, .inr 2, .inr 62, .inr 92, .inl z, u5, u6] [] M
 else
 if eq32 (jand ((xs z.toNat).toInt) 63) 18 then
 X 363 [.inr 95, .inr 2, .inr 62, .inr 92, .inl z, u5, u6] [] M
 else
 if eq32 (jand ((xs z.toNat).toInt) 63) 19 then
 X 380 [.inr 95, .inr 2, .inr 62, .inr 92, .inl z, u5, u6] [] M
 else
 if eq32 (jand ((xs z.toNat).toInt) 63) 20 then
 X 397 [.inr 95, .inr 2, .inr 62, .inr 92, .inl z, u5, u6] [] M
 else
 if eq32 (jand ((xs z.toNat).toInt) 63) 21 then
 X 404 [.inr 95, .inr 2, .inr 62, .inr 92, .inl z, u5, u6] [] M
 else
 if eq32 (jand ((xs z.toNat).toInt) 63) 22 then
 X 411 [.inr 95, .inr 2, .inr 62, .inr 92, .inl z, u5, u6] [] M
 else
 if eq32 (jand ((xs z.toNat).toInt) 63) 23 then
 X 418 [.inr 95, .inr 2, .inr 62, .inr 92, .inl z, u5, u6] [] M
 else
 if eq32 (jand ((xs z.toNat).toInt) 63) 24 then
 X 425 [.inr 95, .inr 2, .inr 62, .inr 92, .inl z, u5, u6] [] M
 else
 if eq32 (jand ((xs z.toNat).toInt) 63) 25 then
 X 432 [.inr 95, .inr 2, .inr 62, .inr 92, .inl z, u5, u6] [] M
 else
 if eq32 (jand ((xs z.toNat).toInt) 63) 26 then
 X 459 [.inr 95, .inr 2, .inr 62, .inr 92, .inl z, u5, u6] [] M
 else
 if eq32 (jand ((xs z.toNat).toInt) 63) 27 then
 X 466 [.inr 95, .inr 2, .inr 62, .inr 92, .inl z, u5, u6] [] M
 else
 if eq32 (jand ((xs z.toNat).toInt) 63) 28 then
 X 493 [.inr 95, .inr 2, .inr 62, .inr 92, .inl z, u5, u6] [] M
 else
 if eq32 (jand ((xs z.toNat).toInt) 63) 29 then
 X 510 [.inr 95, .inr 2, .inr 62, .inr 92, .inl z, u5, u6] [] M
 else
 if eq32 (jand ((xs z.toNat).toInt) 63) 30 then
 X 537 [.inr 95, .inr 2, .inr 62, .inr 92, .inl z, u5, u6] [] M
 else
 if eq32 (jand ((xs z.toNat).toInt) 63) 31 then
 X 554 [.inr 95, .inr 2, .inr 62, .inr 92, .inl z, u5, u6] [] M
 else
 if eq32 (jand ((xs z.toNat).toInt) 63) 32 then
 X 581 [.inr 95, .inr 2, .inr 62, .inr 92, .inl z, u5, u6] [] M
 else
 if eq32 (jand ((xs z.toNat).toInt) 63) 33 then
 X 588 [.inr 95, .inr 2, .inr 62, .inr 92, .inl z, u5, u6] [] M
 else
 if eq32 (jand ((xs z.toNat).toInt) 63) 34 then
 X 595 [.inr 95, .inr 2, .inr 62, .inr 92, .inl z, u5, u6] [] M
 else
 if eq32 (jand ((xs z.toNat).toInt) 63) 35 then
 X 622 [.inr 95, .inr 2, .inr 62, .inr 92, .inl z, u5, u6] [] M
 else
 if eq32 (jand ((xs z.toNat).toInt) 63) 36 then
 X 649 [.inr 95, .inr 2, .inr 62, .inr 92, .inl z, u5, u6] [] M
 else
 if eq32 (jand ((xs z.toNat).toInt) 63) 37 then
 X 656 [.inr 95, .inr 2, .inr 62, .inr 92, .inl z, u5, u6] [] M
 else
 if eq32 (jand ((xs z.toNat).toInt) 63) 38 then
 X 673 [.inr 95, .inr 2, .inr 62, .inr 92, .inl z, u5, u6] [] M
 else
 if eq32 (jand ((xs z.toNat).toInt) 63) 39 then
 X 680 [.inr 95, .inr 2, .inr 62, .inr 92, .inl z, u5, u6] [] M
 else
 if eq32 (jand ((xs z.toNat).toInt) 63) 40 then
 X 687 [.inr 95, .inr 2, .inr 62, .inr 92, .inl z, u5, u6] [] M
 else
 if eq32 (jand ((xs z.toNat).toInt) 63) 41 then
 X 694 [.inr 95, .inr 2, .inr 62, .inr 92, .inl z, u5, u6] [] M
 else
 if eq32 (jand ((xs z.toNat).toInt) 63) 42 then
 X 701 [.inr 95, .inr 2, .inr 62, .inr 92, .inl z, u5, u6] [] M
 else
 if eq32 (jand ((xs z.toNat).toInt) 63) 43 then
 X 708 [.inr 95, .inr 2, .inr 62, .inr 92, .inl z, u5, u6] [] M
 else
 if eq32 (jand ((xs z.toNat).toInt) 63) 44 then
 X 725 [.inr 95, .inr 2, .inr 62, .inr 92, .inl z, u5, u6] [] M
 else
 if eq32 (jand ((xs z.toNat).toInt) 63) 45 then
 X 742 [.inr 95, .inr 2, .inr 62, .inr 92, .inl z, u5, u6] [] M
 else
 if eq32 (jand ((xs z.toNat).toInt) 63) 46 then
 X 759 [.inr 95, .inr 2, .inr 62, .inr 92, .inl z, u5, u6] [] M
 else
 X 777 [.inr 95, .inr 2, .inr 62, .inr 92, .inl z, u5, u6] [] M
 else none) := rfl
set_option maxRecDepth 100000 in
theorem LT_0 (D : Nat) (X : pX) (L : Nat) (xs : Nat → Int32) (z : Int) (u5 : pV) (u6 : pV) (M : pM) : prun (lawc L xs) (lstC) X (xF D) 90 25 [.inr 95, .inr 2, .inr 62, .inr 92, .inl z, u5, u6] [] M =
 if 0 ≤ z + 1 ∧ z + 1 < Int.ofNat L then
 pbI (xF D 0 [.inr 2, .inl ((xs (z + 1).toNat).toInt)] M) fun v2 M1 =>
 if 0 ≤ z + 1 ∧ z + 1 < Int.ofNat L then
 pbI (xF D 175 [.inr 62, .inl ((xs (z + 1).toNat).toInt)] M1) fun v4 M3 =>
 X 13 [.inr 95, .inr 2, .inr 62, .inr 92, .inl (z + 5), u5, u6] [] M3
 else none
 else none := rfl
set_option maxRecDepth 100000 in
theorem LT_1 (D : Nat) (X : pX) (L : Nat) (xs : Nat → Int32) (z : Int) (u5 : pV) (u6 : pV) (M : pM) : prun (lawc L xs) (lstC) X (xF D) 90 42 [.inr 95, .inr 2, .inr 62, .inr 92, .inl z, u5, u6] [] M =
 if 0 ≤ z + 1 ∧ z + 1 < Int.ofNat L then
 pbI (xF D 1 [.inr 2, .inl ((xs (z + 1).toNat).toInt)] M) fun v2 M1 =>
 if 0 ≤ z + 1 ∧ z + 1 < Int.ofNat L then
 pbI (xF D 176 [.inr 62, .inl ((xs (z + 1).toNat).toInt)] M1) fun v4 M3 =>
 X 13 [.inr 95, .inr 2, .inr 62, .inr 92, .inl (z + 5), u5, u6] [] M3
 else none
 else none := rfl
set_option maxRecDepth 100000 in
theorem LT_2 (D : Nat) (X : pX) (L : Nat) (xs : Nat → Int32) (z : Int) (u5 : pV) (u6 : pV) (M : pM) : prun (lawc L xs) (lstC) X (xF D) 90 59 [.inr 95, .inr 2, .inr 62, .inr 92, .inl z, u5, u6] [] M =
 pbI (xF D 2 [.inr 2] M) fun v2 M1 =>
 pbI (xF D 184 [.inr 62] M1) fun v4 M3 =>
 X 13 [.inr 95, .inr 2, .inr 62, .inr 92, .inl (z + 5), u5, u6] [] M3 := rfl
set_option maxRecDepth 100000 in
theorem LT_3 (D : Nat) (X : pX) (L : Nat) (xs : Nat → Int32) (z : Int) (u5 : pV) (u6 : pV) (M : pM) : prun (lawc L xs) (lstC) X (xF D) 90 66 [.inr 95, .inr 2, .inr 62, .inr 92, .inl z, u5, u6] [] M =
 pbI (xF D 3 [.inr 2] M) fun v2 M1 =>
 pbI (xF D 193 [.inr 62] M1) fun v4 M3 =>
 X 13 [.inr 95, .inr 2, .inr 62, .inr 92, .inl (z + 5), u5, u6] [] M3 := rfl
set_option maxRecDepth 100000 in
theorem LT_4 (D : Nat) (X : pX) (L : Nat) (xs : Nat → Int32) (z : Int) (u5 : pV) (u6 : pV) (M : pM) : prun (lawc L xs) (lstC) X (xF D) 90 73 [.inr 95, .inr 2, .inr 62, .inr 92, .inl z, u5, u6] [] M =
 if 0 ≤ z + 1 ∧ z + 1 < Int.ofNat L then
 if 0 ≤ z + 2 ∧ z + 2 < Int.ofNat L then
 X 85 [.inr 95, .inr 2, .inr 62, .inr 92, .inl z, u5, u6] [.inr 92, .inl ((xs (z + 2).toNat).toInt), .inl ((xs (z + 1).toNat).toInt), .inr 2] M
 else none
 else none := rfl
set_option maxRecDepth 100000 in
theorem LT_5 (D : Nat) (X : pX) (L : Nat) (xs : Nat → Int32) (z : Int) (u5 : pV) (u6 : pV) (M : pM) : prun (lawc L xs) (lstC) X (xF D) 90 101 [.inr 95, .inr 2, .inr 62, .inr 92, .inl z, u5, u6] [] M =
 if 0 ≤ z + 1 ∧ z + 1 < Int.ofNat L then
 if 0 ≤ z + 2 ∧ z + 2 < Int.ofNat L then
 X 113 [.inr 95, .inr 2, .inr 62, .inr 92, .inl z, u5, u6] [.inr 92, .inl ((xs (z + 2).toNat).toInt), .inl ((xs (z + 1).toNat).toInt), .inr 2] M
 else none
 else none := rfl
set_option maxRecDepth 100000 in
theorem LT_6 (D : Nat) (X : pX) (L : Nat) (xs : Nat → Int32) (z : Int) (u5 : pV) (u6 : pV) (M : pM) : prun (lawc L xs) (lstC) X (xF D) 90 129 [.inr 95, .inr 2, .inr 62, .inr 92, .inl z, u5, u6] [] M =
 if 0 ≤ z + 1 ∧ z + 1 < Int.ofNat L then
 pbI (xF D 6 [.inr 2, .inl ((xs (z + 1).toNat).toInt)] M) fun v2 M1 =>
 if 0 ≤ z + 1 ∧ z + 1 < Int.ofNat L then
 pbI (xF D 202 [.inr 62, .inl ((xs (z + 1).toNat).toInt)] M1) fun v4 M3 =>
 X 13 [.inr 95, .inr 2, .inr 62, .inr 92, .inl (z + 5), u5, u6] [] M3
 else none
 else none := rfl
set_option maxRecDepth 100000 in
theorem LT_7 (D : Nat) (X : pX) (L : Nat) (xs : Nat → Int32) (z : Int) (u5 : pV) (u6 : pV) (M : pM) : prun (lawc L xs) (lstC) X (xF D) 90 146 [.inr 95, .inr 2, .inr 62, .inr 92, .inl z, u5, u6] [] M =
 if 0 ≤ z + 1 ∧ z + 1 < Int.ofNat L then
 if 0 ≤ z + 2 ∧ z + 2 < Int.ofNat L then
 pbI (xF D 7 [.inr 2, .inl ((xs (z + 1).toNat).toInt), .inl ((xs (z + 2).toNat).toInt)] M) fun v2 M1 =>
 if 0 ≤ z + 1 ∧ z + 1 < Int.ofNat L then
 if 0 ≤ z + 2 ∧ z + 2 < Int.ofNat L then
 pbI (xF D 203 [.inr 62, .inl ((xs (z + 1).toNat).toInt), .inl ((xs (z + 2).toNat).toInt)] M1) fun v4 M3 =>
 X 13 [.inr 95, .inr 2, .inr 62, .inr 92, .inl (z + 5), u5, u6] [] M3
 else none
 else none
 else none
 else none := rfl
set_option maxRecDepth 100000 in
theorem LT_8 (D : Nat) (X : pX) (L : Nat) (xs : Nat → Int32) (z : Int) (u5 : pV) (u6 : pV) (M : pM) : prun (lawc L xs) (lstC) X (xF D) 90 173 [.inr 95, .inr 2, .inr 62, .inr 92, .inl z, u5, u6] [] M =
 if 0 ≤ z + 1 ∧ z + 1 < Int.ofNat L then
 if 0 ≤ z + 2 ∧ z + 2 < Int.ofNat L then
 if 0 ≤ z + 3 ∧ z + 3 < Int.ofNat L then
 pbI (xF D 8 [.inr 2, .inl ((xs (z + 1).toNat).toInt), .inl ((xs (z + 2).toNat).toInt), .inl ((xs (z + 3).toNat).toInt)] M) fun v2 M1 =>
 if 0 ≤ z + 1 ∧ z + 1 < Int.ofNat L then
 if 0 ≤ z + 2 ∧ z + 2 < Int.ofNat L then
 if 0 ≤ z + 3 ∧ z + 3 < Int.ofNat L then
 pbI (xF D 204 [.inr 62, .inl ((xs (z + 1).toNat).toInt), .inl ((xs (z + 2).toNat).toInt), .inl ((xs (z + 3).toNat).toInt)] M1) fun v4 M3 =>
 X 13 [.inr 95, .inr 2, .inr 62, .inr 92, .inl (z + 5), u5, u6] [] M3
 else none
 else none
 else none
 else none
 else none
 else none := rfl
set_option maxRecDepth 100000 in
theorem LT_9 (D : Nat) (X : pX) (L : Nat) (xs : Nat → Int32) (z : Int) (u5 : pV) (u6 : pV) (M : pM) : prun (lawc L xs) (lstC) X (xF D) 90 210 [.inr 95, .inr 2, .inr 62, .inr 92, .inl z, u5, u6] [] M =
 if 0 ≤ z + 1 ∧ z + 1 < Int.ofNat L then
 pbI (xF D 9 [.inr 2, .inl ((xs (z + 1).toNat).toInt)] M) fun v2 M1 =>
 if 0 ≤ z + 1 ∧ z + 1 < Int.ofNat L then
 pbI (xF D 205 [.inr 62, .inl ((xs (z + 1).toNat).toInt)] M1) fun v4 M3 =>
 X 13 [.inr 95, .inr 2, .inr 62, .inr 92, .inl (z + 5), u5, u6] [] M3
 else none
 else none := rfl
set_option maxRecDepth 100000 in
theorem LT_10 (D : Nat) (X : pX) (L : Nat) (xs : Nat → Int32) (z : Int) (u5 : pV) (u6 : pV) (M : pM) : prun (lawc L xs) (lstC) X (xF D) 90 227 [.inr 95, .inr 2, .inr 62, .inr 92, .inl z, u5, u6] [] M =
 if 0 ≤ z + 1 ∧ z + 1 < Int.ofNat L then
 if 0 ≤ z + 2 ∧ z + 2 < Int.ofNat L then
 if 0 ≤ z + 3 ∧ z + 3 < Int.ofNat L then
 if 0 ≤ z + 4 ∧ z + 4 < Int.ofNat L then
 pbI (xF D 10 [.inr 2, .inl ((xs (z + 1).toNat).toInt), .inl ((xs (z + 2).toNat).toInt), .inl ((xs (z + 3).toNat).toInt), .inl ((xs (z + 4).toNat).toInt)] M) fun v2 M1 =>
 if 0 ≤ z + 1 ∧ z + 1 < Int.ofNat L then
 if 0 ≤ z + 2 ∧ z + 2 < Int.ofNat L then
 if 0 ≤ z + 3 ∧ z + 3 < Int.ofNat L then
 if 0 ≤ z + 4 ∧ z + 4 < Int.ofNat L then
 pbI (xF D 206 [.inr 62, .inl ((xs (z + 1).toNat).toInt), .inl ((xs (z + 2).toNat).toInt), .inl ((xs (z + 3).toNat).toInt), .inl ((xs (z + 4).toNat).toInt)] M1) fun v4 M3 =>
 X 13 [.inr 95, .inr 2, .inr 62, .inr 92, .inl (z + 5), u5, u6] [] M3
 else none
 else none
 else none
 else none
 else none
 else none
 else none
 else none := rfl
set_option maxRecDepth 100000 in
theorem LT_11 (D : Nat) (X : pX) (L : Nat) (xs : Nat → Int32) (z : Int) (u5 : pV) (u6 : pV) (M : pM) : prun (lawc L xs) (lstC) X (xF D) 90 274 [.inr 95, .inr 2, .inr 62, .inr 92, .inl z, u5, u6] [] M =
 if 0 ≤ z + 1 ∧ z + 1 < Int.ofNat L then
 if 0 ≤ z + 2 ∧ z + 2 < Int.ofNat L then
 pbI (xF D 11 [.inr 2, .inl ((xs (z + 1).toNat).toInt), .inl ((xs (z + 2).toNat).toInt)] M) fun v2 M1 =>
 if 0 ≤ z + 1 ∧ z + 1 < Int.ofNat L then
 if 0 ≤ z + 2 ∧ z + 2 < Int.ofNat L then
 pbI (xF D 216 [.inr 62, .inl ((xs (z + 1).toNat).toInt), .inl ((xs (z + 2).toNat).toInt)] M1) fun v4 M3 =>
 X 13 [.inr 95, .inr 2, .inr 62, .inr 92, .inl (z + 5), u5, u6] [] M3
 else none
 else none
 else none
 else none := rfl
set_option maxRecDepth 100000 in
theorem LT_12 (D : Nat) (X : pX) (L : Nat) (xs : Nat → Int32) (z : Int) (u5 : pV) (u6 : pV) (M : pM) : prun (lawc L xs) (lstC) X (xF D) 90 301 [.inr 95, .inr 2, .inr 62, .inr 92, .inl z, u5, u6] [] M =
 pbI (xF D 12 [.inr 2] M) fun v2 M1 =>
 pbI (xF D 218 [.inr 62] M1) fun v4 M3 =>
 X 13 [.inr 95, .inr 2, .inr 62, .inr 92, .inl (z + 5), u5, u6] [] M3 := rfl
set_option maxRecDepth 100000 in
theorem LT_13 (D : Nat) (X : pX) (L : Nat) (xs : Nat → Int32) (z : Int) (u5 : pV) (u6 : pV) (M : pM) : prun (lawc L xs) (lstC) X (xF D) 90 308 [.inr 95, .inr 2, .inr 62, .inr 92, .inl z, u5, u6] [] M =
 pbI (xF D 13 [.inr 2] M) fun v2 M1 =>
 pbI (xF D 219 [.inr 62] M1) fun v4 M3 =>
 X 13 [.inr 95, .inr 2, .inr 62, .inr 92, .inl (z + 5), u5, u6] [] M3 := rfl
set_option maxRecDepth 100000 in
theorem LT_14 (D : Nat) (X : pX) (L : Nat) (xs : Nat → Int32) (z : Int) (u5 : pV) (u6 : pV) (M : pM) : prun (lawc L xs) (lstC) X (xF D) 90 315 [.inr 95, .inr 2, .inr 62, .inr 92, .inl z, u5, u6] [] M =
 pbI (xF D 14 [.inr 2] M) fun v2 M1 =>
 pbI (xF D 220 [.inr 62] M1) fun v4 M3 =>
 X 13 [.inr 95, .inr 2, .inr 62, .inr 92, .inl (z + 5), u5, u6] [] M3 := rfl
set_option maxRecDepth 100000 in
theorem LT_15 (D : Nat) (X : pX) (L : Nat) (xs : Nat → Int32) (z : Int) (u5 : pV) (u6 : pV) (M : pM) : prun (lawc L xs) (lstC) X (xF D) 90 322 [.inr 95, .inr 2, .inr 62, .inr 92, .inl z, u5, u6] [] M =
 if 0 ≤ z + 1 ∧ z + 1 < Int.ofNat L then
 if 0 ≤ z + 2 ∧ z + 2 < Int.ofNat L then
 pbI (xF D 15 [.inr 2, .inl ((xs (z + 1).toNat).toInt), .inl ((xs (z + 2).toNat).toInt)] M) fun v2 M1 =>
 if 0 ≤ z + 1 ∧ z + 1 < Int.ofNat L then
 if 0 ≤ z + 2 ∧ z + 2 < Int.ofNat L then
 pbI (xF D 221 [.inr 62, .inl ((xs (z + 1).toNat).toInt), .inl ((xs (z + 2).toNat).toInt)] M1) fun v4 M3 =>
 X 13 [.inr 95, .inr 2, .inr 62, .inr 92, .inl (z + 5), u5, u6] [] M3
 else none
 else none
 else none
 else none := rfl
set_option maxRecDepth 100000 in
theorem LT_16 (D : Nat) (X : pX) (L : Nat) (xs : Nat → Int32) (z : Int) (u5 : pV) (u6 : pV) (M : pM) : prun (lawc L xs) (lstC) X (xF D) 90 349 [.inr 95, .inr 2, .inr 62, .inr 92, .inl z, u5, u6] [] M =
 pbI (xF D 16 [.inr 2] M) fun v2 M1 =>
 pbI (xF D 222 [.inr 62] M1) fun v4 M3 =>
 X 13 [.inr 95, .inr 2, .inr 62, .inr 92, .inl (z + 5), u5, u6] [] M3 := rfl
set_option maxRecDepth 100000 in
theorem LT_17 (D : Nat) (X : pX) (L : Nat) (xs : Nat → Int32) (z : Int) (u5 : pV) (u6 : pV) (M : pM) : prun (lawc L xs) (lstC) X (xF D) 90 356 [.inr 95, .inr 2, .inr 62, .inr 92, .inl z, u5, u6] [] M =
 pbI (xF D 17 [.inr 2] M) fun v2 M1 =>
 pbI (xF D 224 [.inr 62] M1) fun v4 M3 =>
 X 13 [.inr 95, .inr 2, .inr 62, .inr 92, .inl (z + 5), u5, u6] [] M3 := rfl
set_option maxRecDepth 100000 in
theorem LT_18 (D : Nat) (X : pX) (L : Nat) (xs : Nat → Int32) (z : Int) (u5 : pV) (u6 : pV) (M : pM) : prun (lawc L xs) (lstC) X (xF D) 90 363 [.inr 95, .inr 2, .inr 62, .inr 92, .inl z, u5, u6] [] M =
 if 0 ≤ z + 1 ∧ z + 1 < Int.ofNat L then
 pbI (xF D 18 [.inr 2, .inl ((xs (z + 1).toNat).toInt)] M) fun v2 M1 =>
 if 0 ≤ z + 1 ∧ z + 1 < Int.ofNat L then
 pbI (xF D 225 [.inr 62, .inl ((xs (z + 1).toNat).toInt)] M1) fun v4 M3 =>
 if eq32 v2 v4 then
 X 13 [.inr 95, .inr 2, .inr 62, .inr 92, .inl (z + 5), u5, u6] [] M3
 else
 some (some (.inl 0), M3)
 else none
 else none := rfl
set_option maxRecDepth 100000 in
theorem LT_19 (D : Nat) (X : pX) (L : Nat) (xs : Nat → Int32) (z : Int) (u5 : pV) (u6 : pV) (M : pM) : prun (lawc L xs) (lstC) X (xF D) 90 380 [.inr 95, .inr 2, .inr 62, .inr 92, .inl z, u5, u6] [] M =
 if 0 ≤ z + 1 ∧ z + 1 < Int.ofNat L then
 pbI (xF D 19 [.inr 2, .inl ((xs (z + 1).toNat).toInt)] M) fun v2 M1 =>
 if 0 ≤ z + 1 ∧ z + 1 < Int.ofNat L then
 pbI (xF D 226 [.inr 62, .inl ((xs (z + 1).toNat).toInt)] M1) fun v4 M3 =>
 X 13 [.inr 95, .inr 2, .inr 62, .inr 92, .inl (z + 5), u5, u6] [] M3
 else none
 else none := rfl
set_option maxRecDepth 100000 in
theorem LT_20 (D : Nat) (X : pX) (L : Nat) (xs : Nat → Int32) (z : Int) (u5 : pV) (u6 : pV) (M : pM) : prun (lawc L xs) (lstC) X (xF D) 90 397 [.inr 95, .inr 2, .inr 62, .inr 92, .inl z, u5, u6] [] M =
 pbI (xF D 20 [.inr 2] M) fun v2 M1 =>
 pbI (xF D 227 [.inr 62] M1) fun v4 M3 =>
 X 13 [.inr 95, .inr 2, .inr 62, .inr 92, .inl (z + 5), u5, u6] [] M3 := rfl
set_option maxRecDepth 100000 in
theorem LT_21 (D : Nat) (X : pX) (L : Nat) (xs : Nat → Int32) (z : Int) (u5 : pV) (u6 : pV) (M : pM) : prun (lawc L xs) (lstC) X (xF D) 90 404 [.inr 95, .inr 2, .inr 62, .inr 92, .inl z, u5, u6] [] M =
 pbI (xF D 21 [.inr 2] M) fun v2 M1 =>
 pbI (xF D 234 [.inr 62] M1) fun v4 M3 =>
 X 13 [.inr 95, .inr 2, .inr 62, .inr 92, .inl (z + 5), u5, u6] [] M3 := rfl
set_option maxRecDepth 100000 in
theorem LT_22 (D : Nat) (X : pX) (L : Nat) (xs : Nat → Int32) (z : Int) (u5 : pV) (u6 : pV) (M : pM) : prun (lawc L xs) (lstC) X (xF D) 90 411 [.inr 95, .inr 2, .inr 62, .inr 92, .inl z, u5, u6] [] M =
 pbI (xF D 22 [.inr 2] M) fun v2 M1 =>
 pbI (xF D 235 [.inr 62] M1) fun v4 M3 =>
 X 13 [.inr 95, .inr 2, .inr 62, .inr 92, .inl (z + 5), u5, u6] [] M3 := rfl
set_option maxRecDepth 100000 in
theorem LT_23 (D : Nat) (X : pX) (L : Nat) (xs : Nat → Int32) (z : Int) (u5 : pV) (u6 : pV) (M : pM) : prun (lawc L xs) (lstC) X (xF D) 90 418 [.inr 95, .inr 2, .inr 62, .inr 92, .inl z, u5, u6] [] M =
 pbI (xF D 23 [.inr 2] M) fun v2 M1 =>
 pbI (xF D 236 [.inr 62] M1) fun v4 M3 =>
 X 13 [.inr 95, .inr 2, .inr 62, .inr 92, .inl (z + 5), u5, u6] [] M3 := rfl
set_option maxRecDepth 100000 in
theorem LT_24 (D : Nat) (X : pX) (L : Nat) (xs : Nat → Int32) (z : Int) (u5 : pV) (u6 : pV) (M : pM) : prun (lawc L xs) (lstC) X (xF D) 90 425 [.inr 95, .inr 2, .inr 62, .inr 92, .inl z, u5, u6] [] M =
 pbI (xF D 24 [.inr 2] M) fun v2 M1 =>
 pbI (xF D 238 [.inr 62] M1) fun v4 M3 =>
 X 13 [.inr 95, .inr 2, .inr 62, .inr 92, .inl (z + 5), u5, u6] [] M3 := rfl
set_option maxRecDepth 100000 in
theorem LT_25 (D : Nat) (X : pX) (L : Nat) (xs : Nat → Int32) (z : Int) (u5 : pV) (u6 : pV) (M : pM) : prun (lawc L xs) (lstC) X (xF D) 90 432 [.inr 95, .inr 2, .inr 62, .inr 92, .inl z, u5, u6] [] M =
 if 0 ≤ z + 1 ∧ z + 1 < Int.ofNat L then
 if 0 ≤ z + 2 ∧ z + 2 < Int.ofNat L then
 pbI (xF D 25 [.inr 2, .inl ((xs (z + 1).toNat).toInt), .inl ((xs (z + 2).toNat).toInt)] M) fun v2 M1 =>
 if 0 ≤ z + 1 ∧ z + 1 < Int.ofNat L then
 if 0 ≤ z + 2 ∧ z + 2 < Int.ofNat L then
 pbI (xF D 239 [.inr 62, .inl ((xs (z + 1).toNat).toInt), .inl ((xs (z + 2).toNat).toInt)] M1) fun v4 M3 =>
 X 13 [.inr 95, .inr 2, .inr 62, .inr 92, .inl (z + 5), u5, u6] [] M3
 else none
 else none
 else none
 else none := rfl
set_option maxRecDepth 100000 in
theorem LT_26 (D : Nat) (X : pX) (L : Nat) (xs : Nat → Int32) (z : Int) (u5 : pV) (u6 : pV) (M : pM) : prun (lawc L xs) (lstC) X (xF D) 90 459 [.inr 95, .inr 2, .inr 62, .inr 92, .inl z, u5, u6] [] M =
 pbI (xF D 26 [.inr 2] M) fun v2 M1 =>
 pbI (xF D 240 [.inr 62] M1) fun v4 M3 =>
 X 13 [.inr 95, .inr 2, .inr 62, .inr 92, .inl (z + 5), u5, u6] [] M3 := rfl
set_option maxRecDepth 100000 in
theorem LT_27 (D : Nat) (X : pX) (L : Nat) (xs : Nat → Int32) (z : Int) (u5 : pV) (u6 : pV) (M : pM) : prun (lawc L xs) (lstC) X (xF D) 90 466 [.inr 95, .inr 2, .inr 62, .inr 92, .inl z, u5, u6] [] M =
 if 0 ≤ z + 1 ∧ z + 1 < Int.ofNat L then
 if 0 ≤ z + 2 ∧ z + 2 < Int.ofNat L then
 pbI (xF D 27 [.inr 2, .inl ((xs (z + 1).toNat).toInt), .inl ((xs (z + 2).toNat).toInt)] M) fun v2 M1 =>
 if 0 ≤ z + 1 ∧ z + 1 < Int.ofNat L then
 if 0 ≤ z + 2 ∧ z + 2 < Int.ofNat L then
 pbI (xF D 241 [.inr 62, .inl ((xs (z + 1).toNat).toInt), .inl ((xs (z + 2).toNat).toInt)] M1) fun v4 M3 =>
 X 13 [.inr 95, .inr 2, .inr 62, .inr 92, .inl (z + 5), u5, u6] [] M3
 else none
 else none
 else none
 else none := rfl
set_option maxRecDepth 100000 in
theorem LT_28 (D : Nat) (X : pX) (L : Nat) (xs : Nat → Int32) (z : Int) (u5 : pV) (u6 : pV) (M : pM) : prun (lawc L xs) (lstC) X (xF D) 90 493 [.inr 95, .inr 2, .inr 62, .inr 92, .inl z, u5, u6] [] M =
 if 0 ≤ z + 1 ∧ z + 1 < Int.ofNat L then
 pbI (xF D 28 [.inr 2, .inl ((xs (z + 1).toNat).toInt)] M) fun v2 M1 =>
 if 0 ≤ z + 1 ∧ z + 1 < Int.ofNat L then
 pbI (xF D 242 [.inr 62, .inl ((xs (z + 1).toNat).toInt)] M1) fun v4 M3 =>
 X 13 [.inr 95, .inr 2, .inr 62, .inr 92, .inl (z + 5), u5, u6] [] M3
 else none
 else none := rfl
set_option maxRecDepth 100000 in
theorem LT_29 (D : Nat) (X : pX) (L : Nat) (xs : Nat → Int32) (z : Int) (u5 : pV) (u6 : pV) (M : pM) : prun (lawc L xs) (lstC) X (xF D) 90 510 [.inr 95, .inr 2, .inr 62, .inr 92, .inl z, u5, u6] [] M =
 if 0 ≤ z + 1 ∧ z + 1 < Int.ofNat L then
 if 0 ≤ z + 2 ∧ z + 2 < Int.ofNat L then
 pbI (xF D 29 [.inr 2, .inl ((xs (z + 1).toNat).toInt), .inl ((xs (z + 2).toNat).toInt)] M) fun v2 M1 =>
 if 0 ≤ z + 1 ∧ z + 1 < Int.ofNat L then
 if 0 ≤ z + 2 ∧ z + 2 < Int.ofNat L then
 pbI (xF D 243 [.inr 62, .inl ((xs (z + 1).toNat).toInt), .inl ((xs (z + 2).toNat).toInt)] M1) fun v4 M3 =>
 X 13 [.inr 95, .inr 2, .inr 62, .inr 92, .inl (z + 5), u5, u6] [] M3
 else none
 else none
 else none
 else none := rfl
set_option maxRecDepth 100000 in
theorem LT_30 (D : Nat) (X : pX) (L : Nat) (xs : Nat → Int32) (z : Int) (u5 : pV) (u6 : pV) (M : pM) : prun (lawc L xs) (lstC) X (xF D) 90 537 [.inr 95, .inr 2, .inr 62, .inr 92, .inl z, u5, u6] [] M =
 if 0 ≤ z + 1 ∧ z + 1 < Int.ofNat L then
 pbI (xF D 30 [.inr 2, .inl ((xs (z + 1).toNat).toInt)] M) fun v2 M1 =>
 if 0 ≤ z + 1 ∧ z + 1 < Int.ofNat L then
 pbI (xF D 244 [.inr 62, .inl ((xs (z + 1).toNat).toInt)] M1) fun v4 M3 =>
 X 13 [.inr 95, .inr 2, .inr 62, .inr 92, .inl (z + 5), u5, u6] [] M3
 else none
 else none := rfl
set_option maxRecDepth 100000 in
theorem LT_31 (D : Nat) (X : pX) (L : Nat) (xs : Nat → Int32) (z : Int) (u5 : pV) (u6 : pV) (M : pM) : prun (lawc L xs) (lstC) X (xF D) 90 554 [.inr 95, .inr 2, .inr 62, .inr 92, .inl z, u5, u6] [] M =
 if 0 ≤ z + 1 ∧ z + 1 < Int.ofNat L then
 if 0 ≤ z + 2 ∧ z + 2 < Int.ofNat L then
 pbI (xF D 31 [.inr 2, .inl ((xs (z + 1).toNat).toInt), .inl ((xs (z + 2).toNat).toInt)] M) fun v2 M1 =>
 if 0 ≤ z + 1 ∧ z + 1 < Int.ofNat L then
 if 0 ≤ z + 2 ∧ z + 2 < Int.ofNat L then
 pbI (xF D 245 [.inr 62, .inl ((xs (z + 1).toNat).toInt), .inl ((xs (z + 2).toNat).toInt)] M1) fun v4 M3 =>
 X 13 [.inr 95, .inr 2, .inr 62, .inr 92, .inl (z + 5), u5, u6] [] M3
 else none
 else none
 else none
 else none := rfl
set_option maxRecDepth 100000 in
theorem LT_32 (D : Nat) (X : pX) (L : Nat) (xs : Nat → Int32) (z : Int) (u5 : pV) (u6 : pV) (M : pM) : prun (lawc L xs) (lstC) X (xF D) 90 581 [.inr 95, .inr 2, .inr 62, .inr 92, .inl z, u5, u6] [] M =
 pbI (xF D 32 [.inr 2] M) fun v2 M1 =>
 pbI (xF D 246 [.inr 62] M1) fun v4 M3 =>
 X 13 [.inr 95, .inr 2, .inr 62, .inr 92, .inl (z + 5), u5, u6] [] M3 := rfl
set_option maxRecDepth 100000 in
theorem LT_33 (D : Nat) (X : pX) (L : Nat) (xs : Nat → Int32) (z : Int) (u5 : pV) (u6 : pV) (M : pM) : prun (lawc L xs) (lstC) X (xF D) 90 588 [.inr 95, .inr 2, .inr 62, .inr 92, .inl z, u5, u6] [] M =
 pbI (xF D 33 [.inr 2] M) fun v2 M1 =>
 pbI (xF D 248 [.inr 62] M1) fun v4 M3 =>
 X 13 [.inr 95, .inr 2, .inr 62, .inr 92, .inl (z + 5), u5, u6] [] M3 := rfl
set_option maxRecDepth 100000 in
theorem LT_34 (D : Nat) (X : pX) (L : Nat) (xs : Nat → Int32) (z : Int) (u5 : pV) (u6 : pV) (M : pM) : prun (lawc L xs) (lstC) X (xF D) 90 595 [.inr 95, .inr 2, .inr 62, .inr 92, .inl z, u5, u6] [] M =
 if 0 ≤ z + 1 ∧ z + 1 < Int.ofNat L then
 if 0 ≤ z + 2 ∧ z + 2 < Int.ofNat L then
 pbI (xF D 34 [.inr 2, .inl ((xs (z + 1).toNat).toInt), .inl ((xs (z + 2).toNat).toInt)] M) fun v2 M1 =>
 if 0 ≤ z + 1 ∧ z + 1 < Int.ofNat L then
 if 0 ≤ z + 2 ∧ z + 2 < Int.ofNat L then
 pbI (xF D 250 [.inr 62, .inl ((xs (z + 1).toNat).toInt), .inl ((xs (z + 2).toNat).toInt)] M1) fun v4 M3 =>
 X 13 [.inr 95, .inr 2, .inr 62, .inr 92, .inl (z + 5), u5, u6] [] M3
 else none
 else none
 else none
 else none := rfl
set_option maxRecDepth 100000 in
theorem LT_35 (D : Nat) (X : pX) (L : Nat) (xs : Nat → Int32) (z : Int) (u5 : pV) (u6 : pV) (M : pM) : prun (lawc L xs) (lstC) X (xF D) 90 622 [.inr 95, .inr 2, .inr 62, .inr 92, .inl z, u5, u6] [] M =
 if 0 ≤ z + 1 ∧ z + 1 < Int.ofNat L then
 if 0 ≤ z + 2 ∧ z + 2 < Int.ofNat L then
 pbI (xF D 35 [.inr 2, .inl ((xs (z + 1).toNat).toInt), .inl ((xs (z + 2).toNat).toInt)] M) fun v2 M1 =>
 if 0 ≤ z + 1 ∧ z + 1 < Int.ofNat L then
 if 0 ≤ z + 2 ∧ z + 2 < Int.ofNat L then
 pbI (xF D 251 [.inr 62, .inl ((xs (z + 1).toNat).toInt), .inl ((xs (z + 2).toNat).toInt)] M1) fun v4 M3 =>
 X 13 [.inr 95, .inr 2, .inr 62, .inr 92, .inl (z + 5), u5, u6] [] M3
 else none
 else none
 else none
 else none := rfl
set_option maxRecDepth 100000 in
theorem LT_36 (D : Nat) (X : pX) (L : Nat) (xs : Nat → Int32) (z : Int) (u5 : pV) (u6 : pV) (M : pM) : prun (lawc L xs) (lstC) X (xF D) 90 649 [.inr 95, .inr 2, .inr 62, .inr 92, .inl z, u5, u6] [] M =
 pbI (xF D 36 [.inr 2] M) fun v2 M1 =>
 pbI (xF D 252 [.inr 62] M1) fun v4 M3 =>
 X 13 [.inr 95, .inr 2, .inr 62, .inr 92, .inl (z + 5), u5, u6] [] M3 := rfl
set_option maxRecDepth 100000 in
theorem LT_37 (D : Nat) (X : pX) (L : Nat) (xs : Nat → Int32) (z : Int) (u5 : pV) (u6 : pV) (M : pM) : prun (lawc L xs) (lstC) X (xF D) 90 656 [.inr 95, .inr 2, .inr 62, .inr 92, .inl z, u5, u6] [] M =
 if 0 ≤ z + 1 ∧ z + 1 < Int.ofNat L then
 pbI (xF D 37 [.inr 2, .inl ((xs (z + 1).toNat).toInt)] M) fun v2 M1 =>
 if 0 ≤ z + 1 ∧ z + 1 < Int.ofNat L then
 pbI (xF D 254 [.inr 62, .inl ((xs (z + 1).toNat).toInt)] M1) fun v4 M3 =>
 X 13 [.inr 95, .inr 2, .inr 62, .inr 92, .inl (z + 5), u5, u6] [] M3
 else none
 else none := rfl
set_option maxRecDepth 100000 in
theorem LT_38 (D : Nat) (X : pX) (L : Nat) (xs : Nat → Int32) (z : Int) (u5 : pV) (u6 : pV) (M : pM) : prun (lawc L xs) (lstC) X (xF D) 90 673 [.inr 95, .inr 2, .inr 62, .inr 92, .inl z, u5, u6] [] M =
 pbI (xF D 38 [.inr 2] M) fun v2 M1 =>
 pbI (xF D 255 [.inr 62] M1) fun v4 M3 =>
 X 13 [.inr 95, .inr 2, .inr 62, .inr 92, .inl (z + 5), u5, u6] [] M3 := rfl
set_option maxRecDepth 100000 in
theorem LT_39 (D : Nat) (X : pX) (L : Nat) (xs : Nat → Int32) (z : Int) (u5 : pV) (u6 : pV) (M : pM) : prun (lawc L xs) (lstC) X (xF D) 90 680 [.inr 95, .inr 2, .inr 62, .inr 92, .inl z, u5, u6] [] M =
 pbI (xF D 39 [.inr 2] M) fun v2 M1 =>
 pbI (xF D 257 [.inr 62] M1) fun v4 M3 =>
 X 13 [.inr 95, .inr 2, .inr 62, .inr 92, .inl (z + 5), u5, u6] [] M3 := rfl
set_option maxRecDepth 100000 in
theorem LT_40 (D : Nat) (X : pX) (L : Nat) (xs : Nat → Int32) (z : Int) (u5 : pV) (u6 : pV) (M : pM) : prun (lawc L xs) (lstC) X (xF D) 90 687 [.inr 95, .inr 2, .inr 62, .inr 92, .inl z, u5, u6] [] M =
 pbI (xF D 40 [.inr 2] M) fun v2 M1 =>
 pbI (xF D 259 [.inr 62] M1) fun v4 M3 =>
 X 13 [.inr 95, .inr 2, .inr 62, .inr 92, .inl (z + 5), u5, u6] [] M3 := rfl
set_option maxRecDepth 100000 in
theorem LT_41 (D : Nat) (X : pX) (L : Nat) (xs : Nat → Int32) (z : Int) (u5 : pV) (u6 : pV) (M : pM) : prun (lawc L xs) (lstC) X (xF D) 90 694 [.inr 95, .inr 2, .inr 62, .inr 92, .inl z, u5, u6] [] M =
 pbI (xF D 41 [.inr 2] M) fun v2 M1 =>
 pbI (xF D 263 [.inr 62] M1) fun v4 M3 =>
 X 13 [.inr 95, .inr 2, .inr 62, .inr 92, .inl (z + 5), u5, u6] [] M3 := rfl
set_option maxRecDepth 100000 in
theorem LT_42 (D : Nat) (X : pX) (L : Nat) (xs : Nat → Int32) (z : Int) (u5 : pV) (u6 : pV) (M : pM) : prun (lawc L xs) (lstC) X (xF D) 90 701 [.inr 95, .inr 2, .inr 62, .inr 92, .inl z, u5, u6] [] M =
 pbI (xF D 42 [.inr 2] M) fun v2 M1 =>
 pbI (xF D 264 [.inr 62] M1) fun v4 M3 =>
 X 13 [.inr 95, .inr 2, .inr 62, .inr 92, .inl (z + 5), u5, u6] [] M3 := rfl
set_option maxRecDepth 100000 in
theorem LT_43 (D : Nat) (X : pX) (L : Nat) (xs : Nat → Int32) (z : Int) (u5 : pV) (u6 : pV) (M : pM) : prun (lawc L xs) (lstC) X (xF D) 90 708 [.inr 95, .inr 2, .inr 62, .inr 92, .inl z, u5, u6] [] M =
 if 0 ≤ z + 1 ∧ z + 1 < Int.ofNat L then
 pbI (xF D 43 [.inr 2, .inl ((xs (z + 1).toNat).toInt)] M) fun v2 M1 =>
 if 0 ≤ z + 1 ∧ z + 1 < Int.ofNat L then
 pbI (xF D 266 [.inr 62, .inl ((xs (z + 1).toNat).toInt)] M1) fun v4 M3 =>
 X 13 [.inr 95, .inr 2, .inr 62, .inr 92, .inl (z + 5), u5, u6] [] M3
 else none
 else none := rfl
set_option maxRecDepth 100000 in
theorem LT_44 (D : Nat) (X : pX) (L : Nat) (xs : Nat → Int32) (z : Int) (u5 : pV) (u6 : pV) (M : pM) : prun (lawc L xs) (lstC) X (xF D) 90 725 [.inr 95, .inr 2, .inr 62, .inr 92, .inl z, u5, u6] [] M =
 if 0 ≤ z + 1 ∧ z + 1 < Int.ofNat L then
 pbI (xF D 44 [.inr 2, .inl ((xs (z + 1).toNat).toInt)] M) fun v2 M1 =>
 if 0 ≤ z + 1 ∧ z + 1 < Int.ofNat L then
 pbI (xF D 267 [.inr 62, .inl ((xs (z + 1).toNat).toInt)] M1) fun v4 M3 =>
 X 13 [.inr 95, .inr 2, .inr 62, .inr 92, .inl (z + 5), u5, u6] [] M3
 else none
 else none := rfl
set_option maxRecDepth 100000 in
theorem LT_45 (D : Nat) (X : pX) (L : Nat) (xs : Nat → Int32) (z : Int) (u5 : pV) (u6 : pV) (M : pM) : prun (lawc L xs) (lstC) X (xF D) 90 742 [.inr 95, .inr 2, .inr 62, .inr 92, .inl z, u5, u6] [] M =
 if 0 ≤ z + 1 ∧ z + 1 < Int.ofNat L then
 pbI (xF D 45 [.inr 2, .inl ((xs (z + 1).toNat).toInt)] M) fun v2 M1 =>
 if 0 ≤ z + 1 ∧ z + 1 < Int.ofNat L then
 pbI (xF D 268 [.inr 62, .inl ((xs (z + 1).toNat).toInt)] M1) fun v4 M3 =>
 X 13 [.inr 95, .inr 2, .inr 62, .inr 92, .inl (z + 5), u5, u6] [] M3
 else none
 else none := rfl
set_option maxRecDepth 100000 in
theorem LT_46 (D : Nat) (X : pX) (L : Nat) (xs : Nat → Int32) (z : Int) (u5 : pV) (u6 : pV) (M : pM) : prun (lawc L xs) (lstC) X (xF D) 90 759 [.inr 95, .inr 2, .inr 62, .inr 92, .inl z, u5, u6] [] M =
 if 0 ≤ z + 1 ∧ z + 1 < Int.ofNat L then
 X 766 [.inr 95, .inr 2, .inr 62, .inr 92, .inl z, u5, u6] [.inr 92, .inl ((xs (z + 1).toNat).toInt), .inr 2] M
 else none := rfl
set_option maxRecDepth 100000 in
theorem LT_99 (D : Nat) (X : pX) (L : Nat) (xs : Nat → Int32) (z : Int) (u5 : pV) (u6 : pV) (M : pM) : prun (lawc L xs) (lstC) X (xF D) 90 777 [.inr 95, .inr 2, .inr 62, .inr 92, .inl z, u5, u6] [] M =
 X 13 [.inr 95, .inr 2, .inr 62, .inr 92, .inl (z + 5), u5, u6] [] M := rfl
set_option maxRecDepth 100000 in
theorem LT_after_85 (D : Nat) (X : pX) (L : Nat) (xs : Nat → Int32) (z : Int) (v : Int) (u5 : pV) (u6 : pV) (M : pM) : prun (lawc L xs) (lstH) X (xF D) 90 86 [.inr 95, .inr 2, .inr 62, .inr 92, .inl z, u5, u6] [.inl v] M =
 if 0 ≤ z + 1 ∧ z + 1 < Int.ofNat L then
 if 0 ≤ z + 2 ∧ z + 2 < Int.ofNat L then
 pbI (xF D 199 [.inr 62, .inl ((xs (z + 1).toNat).toInt), .inl ((xs (z + 2).toNat).toInt)] M) fun v2 M1 =>
 X 13 [.inr 95, .inr 2, .inr 62, .inr 92, .inl (z + 5), .inl v, .inl v2] [] M1
 else none
 else none := rfl
set_option maxRecDepth 100000 in
theorem LT_after_113 (D : Nat) (X : pX) (L : Nat) (xs : Nat → Int32) (z : Int) (v : Int) (u5 : pV) (u6 : pV) (M : pM) : prun (lawc L xs) (lstH) X (xF D) 90 114 [.inr 95, .inr 2, .inr 62, .inr 92, .inl z, u5, u6] [.inl v] M =
 if 0 ≤ z + 1 ∧ z + 1 < Int.ofNat L then
 if 0 ≤ z + 2 ∧ z + 2 < Int.ofNat L then
 pbI (xF D 201 [.inr 62, .inl ((xs (z + 1).toNat).toInt), .inl ((xs (z + 2).toNat).toInt)] M) fun v2 M1 =>
 X 13 [.inr 95, .inr 2, .inr 62, .inr 92, .inl (z + 5), .inl v, .inl v2] [] M1
 else none
 else none := rfl
set_option maxRecDepth 100000 in
theorem LT_after_766 (D : Nat) (X : pX) (L : Nat) (xs : Nat → Int32) (z : Int) (v : Int) (u5 : pV) (u6 : pV) (M : pM) : prun (lawc L xs) (lstH) X (xF D) 90 767 [.inr 95, .inr 2, .inr 62, .inr 92, .inl z, u5, u6] [.inl v] M =
 if 0 ≤ z + 1 ∧ z + 1 < Int.ofNat L then
 pbI (xF D 269 [.inr 62, .inl ((xs (z + 1).toNat).toInt)] M) fun v2 M1 =>
 X 13 [.inr 95, .inr 2, .inr 62, .inr 92, .inl (z + 5), .inl v, .inl v2] [] M1
 else none := rfl
