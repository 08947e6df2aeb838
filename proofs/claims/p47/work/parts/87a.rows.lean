/-! how many numbers are told (by program) -/
theorem nu_X_heaviest_0 {d : Nat} (hd : 4 ≤ d) {M : pM} (hM : gM gAll M) (p0 : 0 ≤ M 5 1 ∧ M 5 1 ≤ 0) : ∃ z M', xF d 17 [.inr 2] M = rI z M' ∧ ((-2 ≤ z ∧ z ≤ -2 ∧ 0 ≤ M' 5 1 ∧ M' 5 1 ≤ 0) ∨ (0 ≤ z ∧ z ≤ 9 ∧ 2 ≤ M' 5 1 ∧ M' 5 1 ≤ 2)) := by
  have c0 : cOK gAll (xF d) 17 K_618 := (ct_of (d := d) ct_ok (show K_618 ∈ CT.getD 17 [] from (show CT.getD 17 [] = [K_618, K_619, K_620, K_621, K_622, K_623, K_624, K_625, K_626, K_627, K_628, K_629, K_282] from rfl) ▸ by simp) hd)
  obtain ⟨z, M', e, -, -, alt, ha, q, p⟩ := cOK_I c0 (A := [.inr 2]) (show aF2 gW [aRef 2] [.inr 2] from ⟨gW_o, trivial⟩) hM (show gP0 [(5, 1, (0, 0, 0, 0, 0, 0))] M from fun e he => by
    simp only [List.mem_cons, List.not_mem_nil, or_false] at he
    rcases he with rfl
    · exact gR_i p0.1 p0.2) rfl
  refine ⟨z, M', e, ?_⟩
  have ha : alt ∈ [(some (0, -2, -2, 0, 0, 0), [], [(5, 1, (0, 0, 0, 0, 0, 0)), (7, 10, (0, 0, 0, 0, 0, 0))]), (some (0, 0, 9, 0, 0, 0), [], [(5, 1, (0, 2, 2, 0, 0, 0)), (6, 1, (0, -2147483648, 2147483647, 0, 0, 0)), (7, 10, (0, 1, 10, 0, 0, 0))])] := ha
  simp only [List.mem_cons, List.not_mem_nil, or_false] at ha
  rcases ha with rfl | rfl
  · obtain ⟨z2, e2, r⟩ := gW_int (show gW _ _ from q) (Nat.le_of_ble_eq_true rfl)
    cases e2
    have := gR0 r
    have w := gR0 (show gR (0, 0, 0, 0, 0, 0) (M' 5 1) from (p _ List.mem_cons_self).1)
    omega
  · obtain ⟨z2, e2, r⟩ := gW_int (show gW _ _ from q) (Nat.le_of_ble_eq_true rfl)
    cases e2
    have := gR0 r
    have w := gR0 (show gR (0, 2, 2, 0, 0, 0) (M' 5 1) from (p _ List.mem_cons_self).1)
    omega
theorem nu_X_heaviest_1 {d : Nat} (hd : 4 ≤ d) {M : pM} (hM : gM gAll M) (p0 : 1 ≤ M 5 1 ∧ M 5 1 ≤ 1) : ∃ z M', xF d 17 [.inr 2] M = rI z M' ∧ ((-2 ≤ z ∧ z ≤ -2 ∧ 1 ≤ M' 5 1 ∧ M' 5 1 ≤ 1) ∨ (0 ≤ z ∧ z ≤ 9 ∧ 2 ≤ M' 5 1 ∧ M' 5 1 ≤ 2)) := by
  have c0 : cOK gAll (xF d) 17 K_619 := (ct_of (d := d) ct_ok (show K_619 ∈ CT.getD 17 [] from (show CT.getD 17 [] = [K_618, K_619, K_620, K_621, K_622, K_623, K_624, K_625, K_626, K_627, K_628, K_629, K_282] from rfl) ▸ by simp) hd)
  obtain ⟨z, M', e, -, -, alt, ha, q, p⟩ := cOK_I c0 (A := [.inr 2]) (show aF2 gW [aRef 2] [.inr 2] from ⟨gW_o, trivial⟩) hM (show gP0 [(5, 1, (0, 1, 1, 0, 0, 0))] M from fun e he => by
    simp only [List.mem_cons, List.not_mem_nil, or_false] at he
    rcases he with rfl
    · exact gR_i p0.1 p0.2) rfl
  refine ⟨z, M', e, ?_⟩
  have ha : alt ∈ [(some (0, -2, -2, 0, 0, 0), [], [(5, 1, (0, 1, 1, 0, 0, 0)), (7, 10, (0, 0, 0, 0, 0, 0))]), (some (0, 0, 9, 0, 0, 0), [], [(5, 1, (0, 2, 2, 0, 0, 0)), (6, 1, (0, -2147483648, 2147483647, 0, 0, 0)), (7, 10, (0, 1, 10, 0, 0, 0))])] := ha
  simp only [List.mem_cons, List.not_mem_nil, or_false] at ha
  rcases ha with rfl | rfl
  · obtain ⟨z2, e2, r⟩ := gW_int (show gW _ _ from q) (Nat.le_of_ble_eq_true rfl)
    cases e2
    have := gR0 r
    have w := gR0 (show gR (0, 1, 1, 0, 0, 0) (M' 5 1) from (p _ List.mem_cons_self).1)
    omega
  · obtain ⟨z2, e2, r⟩ := gW_int (show gW _ _ from q) (Nat.le_of_ble_eq_true rfl)
    cases e2
    have := gR0 r
    have w := gR0 (show gR (0, 2, 2, 0, 0, 0) (M' 5 1) from (p _ List.mem_cons_self).1)
    omega
theorem nu_X_heaviest_2 {d : Nat} (hd : 4 ≤ d) {M : pM} (hM : gM gAll M) (p0 : 2 ≤ M 5 1 ∧ M 5 1 ≤ 2) : ∃ z M', xF d 17 [.inr 2] M = rI z M' ∧ ((-2 ≤ z ∧ z ≤ -2 ∧ 2 ≤ M' 5 1 ∧ M' 5 1 ≤ 2) ∨ (0 ≤ z ∧ z ≤ 9 ∧ 2 ≤ M' 5 1 ∧ M' 5 1 ≤ 2)) := by
  have c0 : cOK gAll (xF d) 17 K_620 := (ct_of (d := d) ct_ok (show K_620 ∈ CT.getD 17 [] from (show CT.getD 17 [] = [K_618, K_619, K_620, K_621, K_622, K_623, K_624, K_625, K_626, K_627, K_628, K_629, K_282] from rfl) ▸ by simp) hd)
  obtain ⟨z, M', e, -, -, alt, ha, q, p⟩ := cOK_I c0 (A := [.inr 2]) (show aF2 gW [aRef 2] [.inr 2] from ⟨gW_o, trivial⟩) hM (show gP0 [(5, 1, (0, 2, 2, 0, 0, 0))] M from fun e he => by
    simp only [List.mem_cons, List.not_mem_nil, or_false] at he
    rcases he with rfl
    · exact gR_i p0.1 p0.2) rfl
  refine ⟨z, M', e, ?_⟩
  have ha : alt ∈ [(some (0, -2, -2, 0, 0, 0), [], [(5, 1, (0, 2, 2, 0, 0, 0)), (7, 10, (0, 0, 0, 0, 0, 0))]), (some (0, 0, 9, 0, 0, 0), [], [(5, 1, (0, 2, 2, 0, 0, 0)), (6, 1, (0, -2147483648, 2147483647, 0, 0, 0)), (7, 10, (0, 1, 10, 0, 0, 0))])] := ha
  simp only [List.mem_cons, List.not_mem_nil, or_false] at ha
  rcases ha with rfl | rfl
  · obtain ⟨z2, e2, r⟩ := gW_int (show gW _ _ from q) (Nat.le_of_ble_eq_true rfl)
    cases e2
    have := gR0 r
    have w := gR0 (show gR (0, 2, 2, 0, 0, 0) (M' 5 1) from (p _ List.mem_cons_self).1)
    omega
  · obtain ⟨z2, e2, r⟩ := gW_int (show gW _ _ from q) (Nat.le_of_ble_eq_true rfl)
    cases e2
    have := gR0 r
    have w := gR0 (show gR (0, 2, 2, 0, 0, 0) (M' 5 1) from (p _ List.mem_cons_self).1)
    omega
theorem nu_X_heaviest_3 {d : Nat} (hd : 4 ≤ d) {M : pM} (hM : gM gAll M) (p0 : 3 ≤ M 5 1 ∧ M 5 1 ≤ 3) : ∃ z M', xF d 17 [.inr 2] M = rI z M' ∧ ((-2 ≤ z ∧ z ≤ -2 ∧ 3 ≤ M' 5 1 ∧ M' 5 1 ≤ 3) ∨ (0 ≤ z ∧ z ≤ 9 ∧ 2 ≤ M' 5 1 ∧ M' 5 1 ≤ 2)) := by
  have c0 : cOK gAll (xF d) 17 K_621 := (ct_of (d := d) ct_ok (show K_621 ∈ CT.getD 17 [] from (show CT.getD 17 [] = [K_618, K_619, K_620, K_621, K_622, K_623, K_624, K_625, K_626, K_627, K_628, K_629, K_282] from rfl) ▸ by simp) hd)
  obtain ⟨z, M', e, -, -, alt, ha, q, p⟩ := cOK_I c0 (A := [.inr 2]) (show aF2 gW [aRef 2] [.inr 2] from ⟨gW_o, trivial⟩) hM (show gP0 [(5, 1, (0, 3, 3, 0, 0, 0))] M from fun e he => by
    simp only [List.mem_cons, List.not_mem_nil, or_false] at he
    rcases he with rfl
    · exact gR_i p0.1 p0.2) rfl
  refine ⟨z, M', e, ?_⟩
  have ha : alt ∈ [(some (0, -2, -2, 0, 0, 0), [], [(5, 1, (0, 3, 3, 0, 0, 0)), (7, 10, (0, 0, 0, 0, 0, 0))]), (some (0, 0, 9, 0, 0, 0), [], [(5, 1, (0, 2, 2, 0, 0, 0)), (6, 1, (0, -2147483648, 2147483647, 0, 0, 0)), (7, 10, (0, 1, 10, 0, 0, 0))])] := ha
  simp only [List.mem_cons, List.not_mem_nil, or_false] at ha
  rcases ha with rfl | rfl
  · obtain ⟨z2, e2, r⟩ := gW_int (show gW _ _ from q) (Nat.le_of_ble_eq_true rfl)
    cases e2
    have := gR0 r
    have w := gR0 (show gR (0, 3, 3, 0, 0, 0) (M' 5 1) from (p _ List.mem_cons_self).1)
    omega
  · obtain ⟨z2, e2, r⟩ := gW_int (show gW _ _ from q) (Nat.le_of_ble_eq_true rfl)
    cases e2
    have := gR0 r
    have w := gR0 (show gR (0, 2, 2, 0, 0, 0) (M' 5 1) from (p _ List.mem_cons_self).1)
    omega
theorem nu_X_heaviest_4 {d : Nat} (hd : 4 ≤ d) {M : pM} (hM : gM gAll M) (p0 : 4 ≤ M 5 1 ∧ M 5 1 ≤ 4) : ∃ z M', xF d 17 [.inr 2] M = rI z M' ∧ ((-2 ≤ z ∧ z ≤ -2 ∧ 4 ≤ M' 5 1 ∧ M' 5 1 ≤ 4) ∨ (0 ≤ z ∧ z ≤ 9 ∧ 2 ≤ M' 5 1 ∧ M' 5 1 ≤ 2)) := by
  have c0 : cOK gAll (xF d) 17 K_622 := (ct_of (d := d) ct_ok (show K_622 ∈ CT.getD 17 [] from (show CT.getD 17 [] = [K_618, K_619, K_620, K_621, K_622, K_623, K_624, K_625, K_626, K_627, K_628, K_629, K_282] from rfl) ▸ by simp) hd)
  obtain ⟨z, M', e, -, -, alt, ha, q, p⟩ := cOK_I c0 (A := [.inr 2]) (show aF2 gW [aRef 2] [.inr 2] from ⟨gW_o, trivial⟩) hM (show gP0 [(5, 1, (0, 4, 4, 0, 0, 0))] M from fun e he => by
    simp only [List.mem_cons, List.not_mem_nil, or_false] at he
    rcases he with rfl
    · exact gR_i p0.1 p0.2) rfl
  refine ⟨z, M', e, ?_⟩
  have ha : alt ∈ [(some (0, -2, -2, 0, 0, 0), [], [(5, 1, (0, 4, 4, 0, 0, 0)), (7, 10, (0, 0, 0, 0, 0, 0))]), (some (0, 0, 9, 0, 0, 0), [], [(5, 1, (0, 2, 2, 0, 0, 0)), (6, 1, (0, -2147483648, 2147483647, 0, 0, 0)), (7, 10, (0, 1, 10, 0, 0, 0))])] := ha
  simp only [List.mem_cons, List.not_mem_nil, or_false] at ha
  rcases ha with rfl | rfl
  · obtain ⟨z2, e2, r⟩ := gW_int (show gW _ _ from q) (Nat.le_of_ble_eq_true rfl)
    cases e2
    have := gR0 r
    have w := gR0 (show gR (0, 4, 4, 0, 0, 0) (M' 5 1) from (p _ List.mem_cons_self).1)
    omega
  · obtain ⟨z2, e2, r⟩ := gW_int (show gW _ _ from q) (Nat.le_of_ble_eq_true rfl)
    cases e2
    have := gR0 r
    have w := gR0 (show gR (0, 2, 2, 0, 0, 0) (M' 5 1) from (p _ List.mem_cons_self).1)
    omega
theorem nu_X_heaviest_5 {d : Nat} (hd : 4 ≤ d) {M : pM} (hM : gM gAll M) (p0 : 5 ≤ M 5 1 ∧ M 5 1 ≤ 5) : ∃ z M', xF d 17 [.inr 2] M = rI z M' ∧ ((-2 ≤ z ∧ z ≤ -2 ∧ 5 ≤ M' 5 1 ∧ M' 5 1 ≤ 5) ∨ (0 ≤ z ∧ z ≤ 9 ∧ 2 ≤ M' 5 1 ∧ M' 5 1 ≤ 2)) := by
  have c0 : cOK gAll (xF d) 17 K_623 := (ct_of (d := d) ct_ok (show K_623 ∈ CT.getD 17 [] from (show CT.getD 17 [] = [K_618, K_619, K_620, K_621, K_622, K_623, K_624, K_625, K_626, K_627, K_628, K_629, K_282] from rfl) ▸ by simp) hd)
  obtain ⟨z, M', e, -, -, alt, ha, q, p⟩ := cOK_I c0 (A := [.inr 2]) (show aF2 gW [aRef 2] [.inr 2] from ⟨gW_o, trivial⟩) hM (show gP0 [(5, 1, (0, 5, 5, 0, 0, 0))] M from fun e he => by
    simp only [List.mem_cons, List.not_mem_nil, or_false] at he
    rcases he with rfl
    · exact gR_i p0.1 p0.2) rfl
  refine ⟨z, M', e, ?_⟩
  have ha : alt ∈ [(some (0, -2, -2, 0, 0, 0), [], [(5, 1, (0, 5, 5, 0, 0, 0)), (7, 10, (0, 0, 0, 0, 0, 0))]), (some (0, 0, 9, 0, 0, 0), [], [(5, 1, (0, 2, 2, 0, 0, 0)), (6, 1, (0, -2147483648, 2147483647, 0, 0, 0)), (7, 10, (0, 1, 10, 0, 0, 0))])] := ha
  simp only [List.mem_cons, List.not_mem_nil, or_false] at ha
  rcases ha with rfl | rfl
  · obtain ⟨z2, e2, r⟩ := gW_int (show gW _ _ from q) (Nat.le_of_ble_eq_true rfl)
    cases e2
    have := gR0 r
    have w := gR0 (show gR (0, 5, 5, 0, 0, 0) (M' 5 1) from (p _ List.mem_cons_self).1)
    omega
  · obtain ⟨z2, e2, r⟩ := gW_int (show gW _ _ from q) (Nat.le_of_ble_eq_true rfl)
    cases e2
    have := gR0 r
    have w := gR0 (show gR (0, 2, 2, 0, 0, 0) (M' 5 1) from (p _ List.mem_cons_self).1)
    omega
theorem nu_X_heaviest_6 {d : Nat} (hd : 4 ≤ d) {M : pM} (hM : gM gAll M) (p0 : 6 ≤ M 5 1 ∧ M 5 1 ≤ 6) : ∃ z M', xF d 17 [.inr 2] M = rI z M' ∧ ((-2 ≤ z ∧ z ≤ -2 ∧ 6 ≤ M' 5 1 ∧ M' 5 1 ≤ 6) ∨ (0 ≤ z ∧ z ≤ 9 ∧ 2 ≤ M' 5 1 ∧ M' 5 1 ≤ 2)) := by
  have c0 : cOK gAll (xF d) 17 K_624 := (ct_of (d := d) ct_ok (show K_624 ∈ CT.getD 17 [] from (show CT.getD 17 [] = [K_618, K_619, K_620, K_621, K_622, K_623, K_624, K_625, K_626, K_627, K_628, K_629, K_282] from rfl) ▸ by simp) hd)
  obtain ⟨z, M', e, -, -, alt, ha, q, p⟩ := cOK_I c0 (A := [.inr 2]) (show aF2 gW [aRef 2] [.inr 2] from ⟨gW_o, trivial⟩) hM (show gP0 [(5, 1, (0, 6, 6, 0, 0, 0))] M from fun e he => by
    simp only [List.mem_cons, List.not_mem_nil, or_false] at he
    rcases he with rfl
    · exact gR_i p0.1 p0.2) rfl
  refine ⟨z, M', e, ?_⟩
  have ha : alt ∈ [(some (0, -2, -2, 0, 0, 0), [], [(5, 1, (0, 6, 6, 0, 0, 0)), (7, 10, (0, 0, 0, 0, 0, 0))]), (some (0, 0, 9, 0, 0, 0), [], [(5, 1, (0, 2, 2, 0, 0, 0)), (6, 1, (0, -2147483648, 2147483647, 0, 0, 0)), (7, 10, (0, 1, 10, 0, 0, 0))])] := ha
  simp only [List.mem_cons, List.not_mem_nil, or_false] at ha
  rcases ha with rfl | rfl
  · obtain ⟨z2, e2, r⟩ := gW_int (show gW _ _ from q) (Nat.le_of_ble_eq_true rfl)
    cases e2
    have := gR0 r
    have w := gR0 (show gR (0, 6, 6, 0, 0, 0) (M' 5 1) from (p _ List.mem_cons_self).1)
    omega
  · obtain ⟨z2, e2, r⟩ := gW_int (show gW _ _ from q) (Nat.le_of_ble_eq_true rfl)
    cases e2
    have := gR0 r
    have w := gR0 (show gR (0, 2, 2, 0, 0, 0) (M' 5 1) from (p _ List.mem_cons_self).1)
    omega
theorem nu_X_heaviest_7 {d : Nat} (hd : 4 ≤ d) {M : pM} (hM : gM gAll M) (p0 : 7 ≤ M 5 1 ∧ M 5 1 ≤ 7) : ∃ z M', xF d 17 [.inr 2] M = rI z M' ∧ ((-2 ≤ z ∧ z ≤ -2 ∧ 7 ≤ M' 5 1 ∧ M' 5 1 ≤ 7) ∨ (0 ≤ z ∧ z ≤ 9 ∧ 2 ≤ M' 5 1 ∧ M' 5 1 ≤ 2)) := by
  have c0 : cOK gAll (xF d) 17 K_625 := (ct_of (d := d) ct_ok (show K_625 ∈ CT.getD 17 [] from (show CT.getD 17 [] = [K_618, K_619, K_620, K_621, K_622, K_623, K_624, K_625, K_626, K_627, K_628, K_629, K_282] from rfl) ▸ by simp) hd)
  obtain ⟨z, M', e, -, -, alt, ha, q, p⟩ := cOK_I c0 (A := [.inr 2]) (show aF2 gW [aRef 2] [.inr 2] from ⟨gW_o, trivial⟩) hM (show gP0 [(5, 1, (0, 7, 7, 0, 0, 0))] M from fun e he => by
    simp only [List.mem_cons, List.not_mem_nil, or_false] at he
    rcases he with rfl
    · exact gR_i p0.1 p0.2) rfl
  refine ⟨z, M', e, ?_⟩
  have ha : alt ∈ [(some (0, -2, -2, 0, 0, 0), [], [(5, 1, (0, 7, 7, 0, 0, 0)), (7, 10, (0, 0, 0, 0, 0, 0))]), (some (0, 0, 9, 0, 0, 0), [], [(5, 1, (0, 2, 2, 0, 0, 0)), (6, 1, (0, -2147483648, 2147483647, 0, 0, 0)), (7, 10, (0, 1, 10, 0, 0, 0))])] := ha
  simp only [List.mem_cons, List.not_mem_nil, or_false] at ha
  rcases ha with rfl | rfl
  · obtain ⟨z2, e2, r⟩ := gW_int (show gW _ _ from q) (Nat.le_of_ble_eq_true rfl)
    cases e2
    have := gR0 r
    have w := gR0 (show gR (0, 7, 7, 0, 0, 0) (M' 5 1) from (p _ List.mem_cons_self).1)
    omega
  · obtain ⟨z2, e2, r⟩ := gW_int (show gW _ _ from q) (Nat.le_of_ble_eq_true rfl)
    cases e2
    have := gR0 r
    have w := gR0 (show gR (0, 2, 2, 0, 0, 0) (M' 5 1) from (p _ List.mem_cons_self).1)
    omega
theorem nu_X_heaviest_8 {d : Nat} (hd : 4 ≤ d) {M : pM} (hM : gM gAll M) (p0 : 8 ≤ M 5 1 ∧ M 5 1 ≤ 8) : ∃ z M', xF d 17 [.inr 2] M = rI z M' ∧ ((-2 ≤ z ∧ z ≤ -2 ∧ 8 ≤ M' 5 1 ∧ M' 5 1 ≤ 8) ∨ (0 ≤ z ∧ z ≤ 9 ∧ 2 ≤ M' 5 1 ∧ M' 5 1 ≤ 2)) := by
  have c0 : cOK gAll (xF d) 17 K_626 := (ct_of (d := d) ct_ok (show K_626 ∈ CT.getD 17 [] from (show CT.getD 17 [] = [K_618, K_619, K_620, K_621, K_622, K_623, K_624, K_625, K_626, K_627, K_628, K_629, K_282] from rfl) ▸ by simp) hd)
  obtain ⟨z, M', e, -, -, alt, ha, q, p⟩ := cOK_I c0 (A := [.inr 2]) (show aF2 gW [aRef 2] [.inr 2] from ⟨gW_o, trivial⟩) hM (show gP0 [(5, 1, (0, 8, 8, 0, 0, 0))] M from fun e he => by
    simp only [List.mem_cons, List.not_mem_nil, or_false] at he
    rcases he with rfl
    · exact gR_i p0.1 p0.2) rfl
  refine ⟨z, M', e, ?_⟩
  have ha : alt ∈ [(some (0, -2, -2, 0, 0, 0), [], [(5, 1, (0, 8, 8, 0, 0, 0)), (7, 10, (0, 0, 0, 0, 0, 0))]), (some (0, 0, 9, 0, 0, 0), [], [(5, 1, (0, 2, 2, 0, 0, 0)), (6, 1, (0, -2147483648, 2147483647, 0, 0, 0)), (7, 10, (0, 1, 10, 0, 0, 0))])] := ha
  simp only [List.mem_cons, List.not_mem_nil, or_false] at ha
  rcases ha with rfl | rfl
  · obtain ⟨z2, e2, r⟩ := gW_int (show gW _ _ from q) (Nat.le_of_ble_eq_true rfl)
    cases e2
    have := gR0 r
    have w := gR0 (show gR (0, 8, 8, 0, 0, 0) (M' 5 1) from (p _ List.mem_cons_self).1)
    omega
  · obtain ⟨z2, e2, r⟩ := gW_int (show gW _ _ from q) (Nat.le_of_ble_eq_true rfl)
    cases e2
    have := gR0 r
    have w := gR0 (show gR (0, 2, 2, 0, 0, 0) (M' 5 1) from (p _ List.mem_cons_self).1)
    omega
theorem nu_X_heaviest_9 {d : Nat} (hd : 4 ≤ d) {M : pM} (hM : gM gAll M) (p0 : 9 ≤ M 5 1 ∧ M 5 1 ≤ 9) : ∃ z M', xF d 17 [.inr 2] M = rI z M' ∧ ((-2 ≤ z ∧ z ≤ -2 ∧ 9 ≤ M' 5 1 ∧ M' 5 1 ≤ 9) ∨ (0 ≤ z ∧ z ≤ 9 ∧ 2 ≤ M' 5 1 ∧ M' 5 1 ≤ 2)) := by
  have c0 : cOK gAll (xF d) 17 K_627 := (ct_of (d := d) ct_ok (show K_627 ∈ CT.getD 17 [] from (show CT.getD 17 [] = [K_618, K_619, K_620, K_621, K_622, K_623, K_624, K_625, K_626, K_627, K_628, K_629, K_282] from rfl) ▸ by simp) hd)
  obtain ⟨z, M', e, -, -, alt, ha, q, p⟩ := cOK_I c0 (A := [.inr 2]) (show aF2 gW [aRef 2] [.inr 2] from ⟨gW_o, trivial⟩) hM (show gP0 [(5, 1, (0, 9, 9, 0, 0, 0))] M from fun e he => by
    simp only [List.mem_cons, List.not_mem_nil, or_false] at he
    rcases he with rfl
    · exact gR_i p0.1 p0.2) rfl
  refine ⟨z, M', e, ?_⟩
  have ha : alt ∈ [(some (0, -2, -2, 0, 0, 0), [], [(5, 1, (0, 9, 9, 0, 0, 0)), (7, 10, (0, 0, 0, 0, 0, 0))]), (some (0, 0, 9, 0, 0, 0), [], [(5, 1, (0, 2, 2, 0, 0, 0)), (6, 1, (0, -2147483648, 2147483647, 0, 0, 0)), (7, 10, (0, 1, 10, 0, 0, 0))])] := ha
  simp only [List.mem_cons, List.not_mem_nil, or_false] at ha
  rcases ha with rfl | rfl
  · obtain ⟨z2, e2, r⟩ := gW_int (show gW _ _ from q) (Nat.le_of_ble_eq_true rfl)
    cases e2
    have := gR0 r
    have w := gR0 (show gR (0, 9, 9, 0, 0, 0) (M' 5 1) from (p _ List.mem_cons_self).1)
    omega
  · obtain ⟨z2, e2, r⟩ := gW_int (show gW _ _ from q) (Nat.le_of_ble_eq_true rfl)
    cases e2
    have := gR0 r
    have w := gR0 (show gR (0, 2, 2, 0, 0, 0) (M' 5 1) from (p _ List.mem_cons_self).1)
    omega
theorem nu_X_heaviest_10 {d : Nat} (hd : 4 ≤ d) {M : pM} (hM : gM gAll M) (p0 : 10 ≤ M 5 1 ∧ M 5 1 ≤ 10) : ∃ z M', xF d 17 [.inr 2] M = rI z M' ∧ ((-2 ≤ z ∧ z ≤ -2 ∧ 10 ≤ M' 5 1 ∧ M' 5 1 ≤ 10) ∨ (0 ≤ z ∧ z ≤ 9 ∧ 2 ≤ M' 5 1 ∧ M' 5 1 ≤ 2)) := by
  have c0 : cOK gAll (xF d) 17 K_628 := (ct_of (d := d) ct_ok (show K_628 ∈ CT.getD 17 [] from (show CT.getD 17 [] = [K_618, K_619, K_620, K_621, K_622, K_623, K_624, K_625, K_626, K_627, K_628, K_629, K_282] from rfl) ▸ by simp) hd)
  obtain ⟨z, M', e, -, -, alt, ha, q, p⟩ := cOK_I c0 (A := [.inr 2]) (show aF2 gW [aRef 2] [.inr 2] from ⟨gW_o, trivial⟩) hM (show gP0 [(5, 1, (0, 10, 10, 0, 0, 0))] M from fun e he => by
    simp only [List.mem_cons, List.not_mem_nil, or_false] at he
    rcases he with rfl
    · exact gR_i p0.1 p0.2) rfl
  refine ⟨z, M', e, ?_⟩
  have ha : alt ∈ [(some (0, -2, -2, 0, 0, 0), [], [(5, 1, (0, 10, 10, 0, 0, 0)), (7, 10, (0, 0, 0, 0, 0, 0))]), (some (0, 0, 9, 0, 0, 0), [], [(5, 1, (0, 2, 2, 0, 0, 0)), (6, 1, (0, -2147483648, 2147483647, 0, 0, 0)), (7, 10, (0, 1, 10, 0, 0, 0))])] := ha
  simp only [List.mem_cons, List.not_mem_nil, or_false] at ha
  rcases ha with rfl | rfl
  · obtain ⟨z2, e2, r⟩ := gW_int (show gW _ _ from q) (Nat.le_of_ble_eq_true rfl)
    cases e2
    have := gR0 r
    have w := gR0 (show gR (0, 10, 10, 0, 0, 0) (M' 5 1) from (p _ List.mem_cons_self).1)
    omega
  · obtain ⟨z2, e2, r⟩ := gW_int (show gW _ _ from q) (Nat.le_of_ble_eq_true rfl)
    cases e2
    have := gR0 r
    have w := gR0 (show gR (0, 2, 2, 0, 0, 0) (M' 5 1) from (p _ List.mem_cons_self).1)
    omega
theorem nu_X_heaviest_11 {d : Nat} (hd : 4 ≤ d) {M : pM} (hM : gM gAll M) (p0 : 11 ≤ M 5 1 ∧ M 5 1 ≤ 11) : ∃ z M', xF d 17 [.inr 2] M = rI z M' ∧ ((-2 ≤ z ∧ z ≤ -2 ∧ 11 ≤ M' 5 1 ∧ M' 5 1 ≤ 11) ∨ (0 ≤ z ∧ z ≤ 9 ∧ 2 ≤ M' 5 1 ∧ M' 5 1 ≤ 2)) := by
  have c0 : cOK gAll (xF d) 17 K_629 := (ct_of (d := d) ct_ok (show K_629 ∈ CT.getD 17 [] from (show CT.getD 17 [] = [K_618, K_619, K_620, K_621, K_622, K_623, K_624, K_625, K_626, K_627, K_628, K_629, K_282] from rfl) ▸ by simp) hd)
  obtain ⟨z, M', e, -, -, alt, ha, q, p⟩ := cOK_I c0 (A := [.inr 2]) (show aF2 gW [aRef 2] [.inr 2] from ⟨gW_o, trivial⟩) hM (show gP0 [(5, 1, (0, 11, 11, 0, 0, 0))] M from fun e he => by
    simp only [List.mem_cons, List.not_mem_nil, or_false] at he
    rcases he with rfl
    · exact gR_i p0.1 p0.2) rfl
  refine ⟨z, M', e, ?_⟩
  have ha : alt ∈ [(some (0, -2, -2, 0, 0, 0), [], [(5, 1, (0, 11, 11, 0, 0, 0)), (7, 10, (0, 0, 0, 0, 0, 0))]), (some (0, 0, 9, 0, 0, 0), [], [(5, 1, (0, 2, 2, 0, 0, 0)), (6, 1, (0, -2147483648, 2147483647, 0, 0, 0)), (7, 10, (0, 1, 10, 0, 0, 0))])] := ha
  simp only [List.mem_cons, List.not_mem_nil, or_false] at ha
  rcases ha with rfl | rfl
  · obtain ⟨z2, e2, r⟩ := gW_int (show gW _ _ from q) (Nat.le_of_ble_eq_true rfl)
    cases e2
    have := gR0 r
    have w := gR0 (show gR (0, 11, 11, 0, 0, 0) (M' 5 1) from (p _ List.mem_cons_self).1)
    omega
  · obtain ⟨z2, e2, r⟩ := gW_int (show gW _ _ from q) (Nat.le_of_ble_eq_true rfl)
    cases e2
    have := gR0 r
    have w := gR0 (show gR (0, 2, 2, 0, 0, 0) (M' 5 1) from (p _ List.mem_cons_self).1)
    omega
theorem nu_X_heaviest {d : Nat} (hd : 4 ≤ d) {M M' : pM} {v : Int} (hM : gM gAll M) {n : Nat} (hn : n ≤ 11) (hc : M 5 1 = (n : Int)) (e : xF d 17 [.inr 2] M = rI v M') : (-2 ≤ v ∧ v ≤ -2 ∧ M' 5 1 = (n : Int)) ∨ (0 ≤ v ∧ v ≤ 9 ∧ M' 5 1 = 2) := by
  rcases (show n = 0 ∨ n = 1 ∨ n = 2 ∨ n = 3 ∨ n = 4 ∨ n = 5 ∨ n = 6 ∨ n = 7 ∨ n = 8 ∨ n = 9 ∨ n = 10 ∨ n = 11 by omega) with rfl | rfl | rfl | rfl | rfl | rfl | rfl | rfl | rfl | rfl | rfl | rfl
  · obtain ⟨z, M2, e2, r⟩ := nu_X_heaviest_0 (d := d) (by omega) hM (by omega)
    obtain ⟨y1, y2⟩ := rI_inj (e.symm.trans e2)
    rw [y1, y2]
    omega
  · obtain ⟨z, M2, e2, r⟩ := nu_X_heaviest_1 (d := d) (by omega) hM (by omega)
    obtain ⟨y1, y2⟩ := rI_inj (e.symm.trans e2)
    rw [y1, y2]
    omega
  · obtain ⟨z, M2, e2, r⟩ := nu_X_heaviest_2 (d := d) (by omega) hM (by omega)
    obtain ⟨y1, y2⟩ := rI_inj (e.symm.trans e2)
    rw [y1, y2]
    omega
  · obtain ⟨z, M2, e2, r⟩ := nu_X_heaviest_3 (d := d) (by omega) hM (by omega)
    obtain ⟨y1, y2⟩ := rI_inj (e.symm.trans e2)
    rw [y1, y2]
    omega
  · obtain ⟨z, M2, e2, r⟩ := nu_X_heaviest_4 (d := d) (by omega) hM (by omega)
    obtain ⟨y1, y2⟩ := rI_inj (e.symm.trans e2)
    rw [y1, y2]
    omega
  · obtain ⟨z, M2, e2, r⟩ := nu_X_heaviest_5 (d := d) (by omega) hM (by omega)
    obtain ⟨y1, y2⟩ := rI_inj (e.symm.trans e2)
    rw [y1, y2]
    omega
  · obtain ⟨z, M2, e2, r⟩ := nu_X_heaviest_6 (d := d) (by omega) hM (by omega)
    obtain ⟨y1, y2⟩ := rI_inj (e.symm.trans e2)
    rw [y1, y2]
    omega
  · obtain ⟨z, M2, e2, r⟩ := nu_X_heaviest_7 (d := d) (by omega) hM (by omega)
    obtain ⟨y1, y2⟩ := rI_inj (e.symm.trans e2)
    rw [y1, y2]
    omega
  · obtain ⟨z, M2, e2, r⟩ := nu_X_heaviest_8 (d := d) (by omega) hM (by omega)
    obtain ⟨y1, y2⟩ := rI_inj (e.symm.trans e2)
    rw [y1, y2]
    omega
  · obtain ⟨z, M2, e2, r⟩ := nu_X_heaviest_9 (d := d) (by omega) hM (by omega)
    obtain ⟨y1, y2⟩ := rI_inj (e.symm.trans e2)
    rw [y1, y2]
    omega
  · obtain ⟨z, M2, e2, r⟩ := nu_X_heaviest_10 (d := d) (by omega) hM (by omega)
    obtain ⟨y1, y2⟩ := rI_inj (e.symm.trans e2)
    rw [y1, y2]
    omega
  · obtain ⟨z, M2, e2, r⟩ := nu_X_heaviest_11 (d := d) (by omega) hM (by omega)
    obtain ⟨y1, y2⟩ := rI_inj (e.symm.trans e2)
    rw [y1, y2]
    omega
theorem nu_X_without_0 {d : Nat} (hd : 4 ≤ d) {M : pM} {a1 : Int} (hM : gM gAll M) (h1 : -2147483648 ≤ a1 ∧ a1 ≤ 2147483647) (p0 : 0 ≤ M 5 1 ∧ M 5 1 ≤ 0) : ∃ z M', xF d 18 [.inr 2, .inl a1] M = rI z M' ∧ ((-1 ≤ z ∧ z ≤ -1 ∧ 0 ≤ M' 5 1 ∧ M' 5 1 ≤ 0) ∨ (0 ≤ z ∧ z ≤ 10 ∧ 1 ≤ M' 5 1 ∧ M' 5 1 ≤ 1)) := by
  have c0 : cOK gAll (xF d) 18 K_630 := (ct_of (d := d) ct_ok (show K_630 ∈ CT.getD 18 [] from (show CT.getD 18 [] = [K_630, K_631, K_632, K_633, K_634, K_635, K_636, K_637, K_638, K_639, K_640, K_641, K_295] from rfl) ▸ by simp) hd)
  obtain ⟨z, M', e, -, -, alt, ha, q, p⟩ := cOK_I c0 (A := [.inr 2, .inl a1]) (show aF2 gW [aRef 2, (0, -2147483648, 2147483647, 0, 0, 0)] [.inr 2, .inl a1] from ⟨gW_o, gW_i h1.1 h1.2, trivial⟩) hM (show gP0 [(5, 1, (0, 0, 0, 0, 0, 0))] M from fun e he => by
    simp only [List.mem_cons, List.not_mem_nil, or_false] at he
    rcases he with rfl
    · exact gR_i p0.1 p0.2) rfl
  refine ⟨z, M', e, ?_⟩
  have ha : alt ∈ [(some (0, -1, -1, 0, 0, 0), [], [(5, 1, (0, 0, 0, 0, 0, 0))]), (some (0, 0, 10, 0, 0, 0), [(4, 0, 0, 0, 0, 0), (0, 0, 9, 0, 0, 0)], [(5, 1, (0, 1, 1, 0, 0, 0)), (6, 0, (0, -2147483648, 2147483647, 0, 0, 0)), (7, 10, (0, 1, 10, 0, 0, 0))])] := ha
  simp only [List.mem_cons, List.not_mem_nil, or_false] at ha
  rcases ha with rfl | rfl
  · obtain ⟨z2, e2, r⟩ := gW_int (show gW _ _ from q) (Nat.le_of_ble_eq_true rfl)
    cases e2
    have := gR0 r
    have w := gR0 (show gR (0, 0, 0, 0, 0, 0) (M' 5 1) from (p _ List.mem_cons_self).1)
    omega
  · obtain ⟨z2, e2, r⟩ := gW_int (show gW _ _ from q) (Nat.le_of_ble_eq_true rfl)
    cases e2
    have := gR0 r
    have w := gR0 (show gR (0, 1, 1, 0, 0, 0) (M' 5 1) from (p _ List.mem_cons_self).1)
    omega
theorem nu_X_without_1 {d : Nat} (hd : 4 ≤ d) {M : pM} {a1 : Int} (hM : gM gAll M) (h1 : -2147483648 ≤ a1 ∧ a1 ≤ 2147483647) (p0 : 1 ≤ M 5 1 ∧ M 5 1 ≤ 1) : ∃ z M', xF d 18 [.inr 2, .inl a1] M = rI z M' ∧ ((-1 ≤ z ∧ z ≤ -1 ∧ 1 ≤ M' 5 1 ∧ M' 5 1 ≤ 1) ∨ (0 ≤ z ∧ z ≤ 10 ∧ 1 ≤ M' 5 1 ∧ M' 5 1 ≤ 1)) := by
  have c0 : cOK gAll (xF d) 18 K_631 := (ct_of (d := d) ct_ok (show K_631 ∈ CT.getD 18 [] from (show CT.getD 18 [] = [K_630, K_631, K_632, K_633, K_634, K_635, K_636, K_637, K_638, K_639, K_640, K_641, K_295] from rfl) ▸ by simp) hd)
  obtain ⟨z, M', e, -, -, alt, ha, q, p⟩ := cOK_I c0 (A := [.inr 2, .inl a1]) (show aF2 gW [aRef 2, (0, -2147483648, 2147483647, 0, 0, 0)] [.inr 2, .inl a1] from ⟨gW_o, gW_i h1.1 h1.2, trivial⟩) hM (show gP0 [(5, 1, (0, 1, 1, 0, 0, 0))] M from fun e he => by
    simp only [List.mem_cons, List.not_mem_nil, or_false] at he
    rcases he with rfl
    · exact gR_i p0.1 p0.2) rfl
  refine ⟨z, M', e, ?_⟩
  have ha : alt ∈ [(some (0, -1, -1, 0, 0, 0), [], [(5, 1, (0, 1, 1, 0, 0, 0))]), (some (0, 0, 10, 0, 0, 0), [(4, 0, 0, 0, 0, 0), (0, 0, 9, 0, 0, 0)], [(5, 1, (0, 1, 1, 0, 0, 0)), (6, 0, (0, -2147483648, 2147483647, 0, 0, 0)), (7, 10, (0, 1, 10, 0, 0, 0))])] := ha
  simp only [List.mem_cons, List.not_mem_nil, or_false] at ha
  rcases ha with rfl | rfl
  · obtain ⟨z2, e2, r⟩ := gW_int (show gW _ _ from q) (Nat.le_of_ble_eq_true rfl)
    cases e2
    have := gR0 r
    have w := gR0 (show gR (0, 1, 1, 0, 0, 0) (M' 5 1) from (p _ List.mem_cons_self).1)
    omega
  · obtain ⟨z2, e2, r⟩ := gW_int (show gW _ _ from q) (Nat.le_of_ble_eq_true rfl)
    cases e2
    have := gR0 r
    have w := gR0 (show gR (0, 1, 1, 0, 0, 0) (M' 5 1) from (p _ List.mem_cons_self).1)
    omega
theorem nu_X_without_2 {d : Nat} (hd : 4 ≤ d) {M : pM} {a1 : Int} (hM : gM gAll M) (h1 : -2147483648 ≤ a1 ∧ a1 ≤ 2147483647) (p0 : 2 ≤ M 5 1 ∧ M 5 1 ≤ 2) : ∃ z M', xF d 18 [.inr 2, .inl a1] M = rI z M' ∧ ((-1 ≤ z ∧ z ≤ -1 ∧ 2 ≤ M' 5 1 ∧ M' 5 1 ≤ 2) ∨ (0 ≤ z ∧ z ≤ 10 ∧ 1 ≤ M' 5 1 ∧ M' 5 1 ≤ 1)) := by
  have c0 : cOK gAll (xF d) 18 K_632 := (ct_of (d := d) ct_ok (show K_632 ∈ CT.getD 18 [] from (show CT.getD 18 [] = [K_630, K_631, K_632, K_633, K_634, K_635, K_636, K_637, K_638, K_639, K_640, K_641, K_295] from rfl) ▸ by simp) hd)
  obtain ⟨z, M', e, -, -, alt, ha, q, p⟩ := cOK_I c0 (A := [.inr 2, .inl a1]) (show aF2 gW [aRef 2, (0, -2147483648, 2147483647, 0, 0, 0)] [.inr 2, .inl a1] from ⟨gW_o, gW_i h1.1 h1.2, trivial⟩) hM (show gP0 [(5, 1, (0, 2, 2, 0, 0, 0))] M from fun e he => by
    simp only [List.mem_cons, List.not_mem_nil, or_false] at he
    rcases he with rfl
    · exact gR_i p0.1 p0.2) rfl
  refine ⟨z, M', e, ?_⟩
  have ha : alt ∈ [(some (0, -1, -1, 0, 0, 0), [], [(5, 1, (0, 2, 2, 0, 0, 0))]), (some (0, 0, 10, 0, 0, 0), [(4, 0, 0, 0, 0, 0), (0, 0, 9, 0, 0, 0)], [(5, 1, (0, 1, 1, 0, 0, 0)), (6, 0, (0, -2147483648, 2147483647, 0, 0, 0)), (7, 10, (0, 1, 10, 0, 0, 0))])] := ha
  simp only [List.mem_cons, List.not_mem_nil, or_false] at ha
  rcases ha with rfl | rfl
  · obtain ⟨z2, e2, r⟩ := gW_int (show gW _ _ from q) (Nat.le_of_ble_eq_true rfl)
    cases e2
    have := gR0 r
    have w := gR0 (show gR (0, 2, 2, 0, 0, 0) (M' 5 1) from (p _ List.mem_cons_self).1)
    omega
  · obtain ⟨z2, e2, r⟩ := gW_int (show gW _ _ from q) (Nat.le_of_ble_eq_true rfl)
    cases e2
    have := gR0 r
    have w := gR0 (show gR (0, 1, 1, 0, 0, 0) (M' 5 1) from (p _ List.mem_cons_self).1)
    omega
theorem nu_X_without_3 {d : Nat} (hd : 4 ≤ d) {M : pM} {a1 : Int} (hM : gM gAll M) (h1 : -2147483648 ≤ a1 ∧ a1 ≤ 2147483647) (p0 : 3 ≤ M 5 1 ∧ M 5 1 ≤ 3) : ∃ z M', xF d 18 [.inr 2, .inl a1] M = rI z M' ∧ ((-1 ≤ z ∧ z ≤ -1 ∧ 3 ≤ M' 5 1 ∧ M' 5 1 ≤ 3) ∨ (0 ≤ z ∧ z ≤ 10 ∧ 1 ≤ M' 5 1 ∧ M' 5 1 ≤ 1)) := by
  have c0 : cOK gAll (xF d) 18 K_633 := (ct_of (d := d) ct_ok (show K_633 ∈ CT.getD 18 [] from (show CT.getD 18 [] = [K_630, K_631, K_632, K_633, K_634, K_635, K_636, K_637, K_638, K_639, K_640, K_641, K_295] from rfl) ▸ by simp) hd)
  obtain ⟨z, M', e, -, -, alt, ha, q, p⟩ := cOK_I c0 (A := [.inr 2, .inl a1]) (show aF2 gW [aRef 2, (0, -2147483648, 2147483647, 0, 0, 0)] [.inr 2, .inl a1] from ⟨gW_o, gW_i h1.1 h1.2, trivial⟩) hM (show gP0 [(5, 1, (0, 3, 3, 0, 0, 0))] M from fun e he => by
    simp only [List.mem_cons, List.not_mem_nil, or_false] at he
    rcases he with rfl
    · exact gR_i p0.1 p0.2) rfl
  refine ⟨z, M', e, ?_⟩
  have ha : alt ∈ [(some (0, -1, -1, 0, 0, 0), [], [(5, 1, (0, 3, 3, 0, 0, 0))]), (some (0, 0, 10, 0, 0, 0), [(4, 0, 0, 0, 0, 0), (0, 0, 9, 0, 0, 0)], [(5, 1, (0, 1, 1, 0, 0, 0)), (6, 0, (0, -2147483648, 2147483647, 0, 0, 0)), (7, 10, (0, 1, 10, 0, 0, 0))])] := ha
  simp only [List.mem_cons, List.not_mem_nil, or_false] at ha
  rcases ha with rfl | rfl
  · obtain ⟨z2, e2, r⟩ := gW_int (show gW _ _ from q) (Nat.le_of_ble_eq_true rfl)
    cases e2
    have := gR0 r
    have w := gR0 (show gR (0, 3, 3, 0, 0, 0) (M' 5 1) from (p _ List.mem_cons_self).1)
    omega
  · obtain ⟨z2, e2, r⟩ := gW_int (show gW _ _ from q) (Nat.le_of_ble_eq_true rfl)
    cases e2
    have := gR0 r
    have w := gR0 (show gR (0, 1, 1, 0, 0, 0) (M' 5 1) from (p _ List.mem_cons_self).1)
    omega
theorem nu_X_without_4 {d : Nat} (hd : 4 ≤ d) {M : pM} {a1 : Int} (hM : gM gAll M) (h1 : -2147483648 ≤ a1 ∧ a1 ≤ 2147483647) (p0 : 4 ≤ M 5 1 ∧ M 5 1 ≤ 4) : ∃ z M', xF d 18 [.inr 2, .inl a1] M = rI z M' ∧ ((-1 ≤ z ∧ z ≤ -1 ∧ 4 ≤ M' 5 1 ∧ M' 5 1 ≤ 4) ∨ (0 ≤ z ∧ z ≤ 10 ∧ 1 ≤ M' 5 1 ∧ M' 5 1 ≤ 1)) := by
  have c0 : cOK gAll (xF d) 18 K_634 := (ct_of (d := d) ct_ok (show K_634 ∈ CT.getD 18 [] from (show CT.getD 18 [] = [K_630, K_631, K_632, K_633, K_634, K_635, K_636, K_637, K_638, K_639, K_640, K_641, K_295] from rfl) ▸ by simp) hd)
  obtain ⟨z, M', e, -, -, alt, ha, q, p⟩ := cOK_I c0 (A := [.inr 2, .inl a1]) (show aF2 gW [aRef 2, (0, -2147483648, 2147483647, 0, 0, 0)] [.inr 2, .inl a1] from ⟨gW_o, gW_i h1.1 h1.2, trivial⟩) hM (show gP0 [(5, 1, (0, 4, 4, 0, 0, 0))] M from fun e he => by
    simp only [List.mem_cons, List.not_mem_nil, or_false] at he
    rcases he with rfl
    · exact gR_i p0.1 p0.2) rfl
  refine ⟨z, M', e, ?_⟩
  have ha : alt ∈ [(some (0, -1, -1, 0, 0, 0), [], [(5, 1, (0, 4, 4, 0, 0, 0))]), (some (0, 0, 10, 0, 0, 0), [(4, 0, 0, 0, 0, 0), (0, 0, 9, 0, 0, 0)], [(5, 1, (0, 1, 1, 0, 0, 0)), (6, 0, (0, -2147483648, 2147483647, 0, 0, 0)), (7, 10, (0, 1, 10, 0, 0, 0))])] := ha
  simp only [List.mem_cons, List.not_mem_nil, or_false] at ha
  rcases ha with rfl | rfl
  · obtain ⟨z2, e2, r⟩ := gW_int (show gW _ _ from q) (Nat.le_of_ble_eq_true rfl)
    cases e2
    have := gR0 r
    have w := gR0 (show gR (0, 4, 4, 0, 0, 0) (M' 5 1) from (p _ List.mem_cons_self).1)
    omega
  · obtain ⟨z2, e2, r⟩ := gW_int (show gW _ _ from q) (Nat.le_of_ble_eq_true rfl)
    cases e2
    have := gR0 r
    have w := gR0 (show gR (0, 1, 1, 0, 0, 0) (M' 5 1) from (p _ List.mem_cons_self).1)
    omega
theorem nu_X_without_5 {d : Nat} (hd : 4 ≤ d) {M : pM} {a1 : Int} (hM : gM gAll M) (h1 : -2147483648 ≤ a1 ∧ a1 ≤ 2147483647) (p0 : 5 ≤ M 5 1 ∧ M 5 1 ≤ 5) : ∃ z M', xF d 18 [.inr 2, .inl a1] M = rI z M' ∧ ((-1 ≤ z ∧ z ≤ -1 ∧ 5 ≤ M' 5 1 ∧ M' 5 1 ≤ 5) ∨ (0 ≤ z ∧ z ≤ 10 ∧ 1 ≤ M' 5 1 ∧ M' 5 1 ≤ 1)) := by
  have c0 : cOK gAll (xF d) 18 K_635 := (ct_of (d := d) ct_ok (show K_635 ∈ CT.getD 18 [] from (show CT.getD 18 [] = [K_630, K_631, K_632, K_633, K_634, K_635, K_636, K_637, K_638, K_639, K_640, K_641, K_295] from rfl) ▸ by simp) hd)
  obtain ⟨z, M', e, -, -, alt, ha, q, p⟩ := cOK_I c0 (A := [.inr 2, .inl a1]) (show aF2 gW [aRef 2, (0, -2147483648, 2147483647, 0, 0, 0)] [.inr 2, .inl a1] from ⟨gW_o, gW_i h1.1 h1.2, trivial⟩) hM (show gP0 [(5, 1, (0, 5, 5, 0, 0, 0))] M from fun e he => by
    simp only [List.mem_cons, List.not_mem_nil, or_false] at he
    rcases he with rfl
    · exact gR_i p0.1 p0.2) rfl
  refine ⟨z, M', e, ?_⟩
  have ha : alt ∈ [(some (0, -1, -1, 0, 0, 0), [], [(5, 1, (0, 5, 5, 0, 0, 0))]), (some (0, 0, 10, 0, 0, 0), [(4, 0, 0, 0, 0, 0), (0, 0, 9, 0, 0, 0)], [(5, 1, (0, 1, 1, 0, 0, 0)), (6, 0, (0, -2147483648, 2147483647, 0, 0, 0)), (7, 10, (0, 1, 10, 0, 0, 0))])] := ha
  simp only [List.mem_cons, List.not_mem_nil, or_false] at ha
  rcases ha with rfl | rfl
  · obtain ⟨z2, e2, r⟩ := gW_int (show gW _ _ from q) (Nat.le_of_ble_eq_true rfl)
    cases e2
    have := gR0 r
    have w := gR0 (show gR (0, 5, 5, 0, 0, 0) (M' 5 1) from (p _ List.mem_cons_self).1)
    omega
  · obtain ⟨z2, e2, r⟩ := gW_int (show gW _ _ from q) (Nat.le_of_ble_eq_true rfl)
    cases e2
    have := gR0 r
    have w := gR0 (show gR (0, 1, 1, 0, 0, 0) (M' 5 1) from (p _ List.mem_cons_self).1)
    omega
theorem nu_X_without_6 {d : Nat} (hd : 4 ≤ d) {M : pM} {a1 : Int} (hM : gM gAll M) (h1 : -2147483648 ≤ a1 ∧ a1 ≤ 2147483647) (p0 : 6 ≤ M 5 1 ∧ M 5 1 ≤ 6) : ∃ z M', xF d 18 [.inr 2, .inl a1] M = rI z M' ∧ ((-1 ≤ z ∧ z ≤ -1 ∧ 6 ≤ M' 5 1 ∧ M' 5 1 ≤ 6) ∨ (0 ≤ z ∧ z ≤ 10 ∧ 1 ≤ M' 5 1 ∧ M' 5 1 ≤ 1)) := by
  have c0 : cOK gAll (xF d) 18 K_636 := (ct_of (d := d) ct_ok (show K_636 ∈ CT.getD 18 [] from (show CT.getD 18 [] = [K_630, K_631, K_632, K_633, K_634, K_635, K_636, K_637, K_638, K_639, K_640, K_641, K_295] from rfl) ▸ by simp) hd)
  obtain ⟨z, M', e, -, -, alt, ha, q, p⟩ := cOK_I c0 (A := [.inr 2, .inl a1]) (show aF2 gW [aRef 2, (0, -2147483648, 2147483647, 0, 0, 0)] [.inr 2, .inl a1] from ⟨gW_o, gW_i h1.1 h1.2, trivial⟩) hM (show gP0 [(5, 1, (0, 6, 6, 0, 0, 0))] M from fun e he => by
    simp only [List.mem_cons, List.not_mem_nil, or_false] at he
    rcases he with rfl
    · exact gR_i p0.1 p0.2) rfl
  refine ⟨z, M', e, ?_⟩
  have ha : alt ∈ [(some (0, -1, -1, 0, 0, 0), [], [(5, 1, (0, 6, 6, 0, 0, 0))]), (some (0, 0, 10, 0, 0, 0), [(4, 0, 0, 0, 0, 0), (0, 0, 9, 0, 0, 0)], [(5, 1, (0, 1, 1, 0, 0, 0)), (6, 0, (0, -2147483648, 2147483647, 0, 0, 0)), (7, 10, (0, 1, 10, 0, 0, 0))])] := ha
  simp only [List.mem_cons, List.not_mem_nil, or_false] at ha
  rcases ha with rfl | rfl
  · obtain ⟨z2, e2, r⟩ := gW_int (show gW _ _ from q) (Nat.le_of_ble_eq_true rfl)
    cases e2
    have := gR0 r
    have w := gR0 (show gR (0, 6, 6, 0, 0, 0) (M' 5 1) from (p _ List.mem_cons_self).1)
    omega
  · obtain ⟨z2, e2, r⟩ := gW_int (show gW _ _ from q) (Nat.le_of_ble_eq_true rfl)
    cases e2
    have := gR0 r
    have w := gR0 (show gR (0, 1, 1, 0, 0, 0) (M' 5 1) from (p _ List.mem_cons_self).1)
    omega
theorem nu_X_without_7 {d : Nat} (hd : 4 ≤ d) {M : pM} {a1 : Int} (hM : gM gAll M) (h1 : -2147483648 ≤ a1 ∧ a1 ≤ 2147483647) (p0 : 7 ≤ M 5 1 ∧ M 5 1 ≤ 7) : ∃ z M', xF d 18 [.inr 2, .inl a1] M = rI z M' ∧ ((-1 ≤ z ∧ z ≤ -1 ∧ 7 ≤ M' 5 1 ∧ M' 5 1 ≤ 7) ∨ (0 ≤ z ∧ z ≤ 10 ∧ 1 ≤ M' 5 1 ∧ M' 5 1 ≤ 1)) := by
  have c0 : cOK gAll (xF d) 18 K_637 := (ct_of (d := d) ct_ok (show K_637 ∈ CT.getD 18 [] from (show CT.getD 18 [] = [K_630, K_631, K_632, K_633, K_634, K_635, K_636, K_637, K_638, K_639, K_640, K_641, K_295] from rfl) ▸ by simp) hd)
  obtain ⟨z, M', e, -, -, alt, ha, q, p⟩ := cOK_I c0 (A := [.inr 2, .inl a1]) (show aF2 gW [aRef 2, (0, -2147483648, 2147483647, 0, 0, 0)] [.inr 2, .inl a1] from ⟨gW_o, gW_i h1.1 h1.2, trivial⟩) hM (show gP0 [(5, 1, (0, 7, 7, 0, 0, 0))] M from fun e he => by
    simp only [List.mem_cons, List.not_mem_nil, or_false] at he
    rcases he with rfl
    · exact gR_i p0.1 p0.2) rfl
  refine ⟨z, M', e, ?_⟩
  have ha : alt ∈ [(some (0, -1, -1, 0, 0, 0), [], [(5, 1, (0, 7, 7, 0, 0, 0))]), (some (0, 0, 10, 0, 0, 0), [(4, 0, 0, 0, 0, 0), (0, 0, 9, 0, 0, 0)], [(5, 1, (0, 1, 1, 0, 0, 0)), (6, 0, (0, -2147483648, 2147483647, 0, 0, 0)), (7, 10, (0, 1, 10, 0, 0, 0))])] := ha
  simp only [List.mem_cons, List.not_mem_nil, or_false] at ha
  rcases ha with rfl | rfl
  · obtain ⟨z2, e2, r⟩ := gW_int (show gW _ _ from q) (Nat.le_of_ble_eq_true rfl)
    cases e2
    have := gR0 r
    have w := gR0 (show gR (0, 7, 7, 0, 0, 0) (M' 5 1) from (p _ List.mem_cons_self).1)
    omega
  · obtain ⟨z2, e2, r⟩ := gW_int (show gW _ _ from q) (Nat.le_of_ble_eq_true rfl)
    cases e2
    have := gR0 r
    have w := gR0 (show gR (0, 1, 1, 0, 0, 0) (M' 5 1) from (p _ List.mem_cons_self).1)
    omega
theorem nu_X_without_8 {d : Nat} (hd : 4 ≤ d) {M : pM} {a1 : Int} (hM : gM gAll M) (h1 : -2147483648 ≤ a1 ∧ a1 ≤ 2147483647) (p0 : 8 ≤ M 5 1 ∧ M 5 1 ≤ 8) : ∃ z M', xF d 18 [.inr 2, .inl a1] M = rI z M' ∧ ((-1 ≤ z ∧ z ≤ -1 ∧ 8 ≤ M' 5 1 ∧ M' 5 1 ≤ 8) ∨ (0 ≤ z ∧ z ≤ 10 ∧ 1 ≤ M' 5 1 ∧ M' 5 1 ≤ 1)) := by
  have c0 : cOK gAll (xF d) 18 K_638 := (ct_of (d := d) ct_ok (show K_638 ∈ CT.getD 18 [] from (show CT.getD 18 [] = [K_630, K_631, K_632, K_633, K_634, K_635, K_636, K_637, K_638, K_639, K_640, K_641, K_295] from rfl) ▸ by simp) hd)
  obtain ⟨z, M', e, -, -, alt, ha, q, p⟩ := cOK_I c0 (A := [.inr 2, .inl a1]) (show aF2 gW [aRef 2, (0, -2147483648, 2147483647, 0, 0, 0)] [.inr 2, .inl a1] from ⟨gW_o, gW_i h1.1 h1.2, trivial⟩) hM (show gP0 [(5, 1, (0, 8, 8, 0, 0, 0))] M from fun e he => by
    simp only [List.mem_cons, List.not_mem_nil, or_false] at he
    rcases he with rfl
    · exact gR_i p0.1 p0.2) rfl
  refine ⟨z, M', e, ?_⟩
  have ha : alt ∈ [(some (0, -1, -1, 0, 0, 0), [], [(5, 1, (0, 8, 8, 0, 0, 0))]), (some (0, 0, 10, 0, 0, 0), [(4, 0, 0, 0, 0, 0), (0, 0, 9, 0, 0, 0)], [(5, 1, (0, 1, 1, 0, 0, 0)), (6, 0, (0, -2147483648, 2147483647, 0, 0, 0)), (7, 10, (0, 1, 10, 0, 0, 0))])] := ha
  simp only [List.mem_cons, List.not_mem_nil, or_false] at ha
  rcases ha with rfl | rfl
  · obtain ⟨z2, e2, r⟩ := gW_int (show gW _ _ from q) (Nat.le_of_ble_eq_true rfl)
    cases e2
    have := gR0 r
    have w := gR0 (show gR (0, 8, 8, 0, 0, 0) (M' 5 1) from (p _ List.mem_cons_self).1)
    omega
  · obtain ⟨z2, e2, r⟩ := gW_int (show gW _ _ from q) (Nat.le_of_ble_eq_true rfl)
    cases e2
    have := gR0 r
    have w := gR0 (show gR (0, 1, 1, 0, 0, 0) (M' 5 1) from (p _ List.mem_cons_self).1)
    omega
theorem nu_X_without_9 {d : Nat} (hd : 4 ≤ d) {M : pM} {a1 : Int} (hM : gM gAll M) (h1 : -2147483648 ≤ a1 ∧ a1 ≤ 2147483647) (p0 : 9 ≤ M 5 1 ∧ M 5 1 ≤ 9) : ∃ z M', xF d 18 [.inr 2, .inl a1] M = rI z M' ∧ ((-1 ≤ z ∧ z ≤ -1 ∧ 9 ≤ M' 5 1 ∧ M' 5 1 ≤ 9) ∨ (0 ≤ z ∧ z ≤ 10 ∧ 1 ≤ M' 5 1 ∧ M' 5 1 ≤ 1)) := by
  have c0 : cOK gAll (xF d) 18 K_639 := (ct_of (d := d) ct_ok (show K_639 ∈ CT.getD 18 [] from (show CT.getD 18 [] = [K_630, K_631, K_632, K_633, K_634, K_635, K_636, K_637, K_638, K_639, K_640, K_641, K_295] from rfl) ▸ by simp) hd)
  obtain ⟨z, M', e, -, -, alt, ha, q, p⟩ := cOK_I c0 (A := [.inr 2, .inl a1]) (show aF2 gW [aRef 2, (0, -2147483648, 2147483647, 0, 0, 0)] [.inr 2, .inl a1] from ⟨gW_o, gW_i h1.1 h1.2, trivial⟩) hM (show gP0 [(5, 1, (0, 9, 9, 0, 0, 0))] M from fun e he => by
    simp only [List.mem_cons, List.not_mem_nil, or_false] at he
    rcases he with rfl
    · exact gR_i p0.1 p0.2) rfl
  refine ⟨z, M', e, ?_⟩
  have ha : alt ∈ [(some (0, -1, -1, 0, 0, 0), [], [(5, 1, (0, 9, 9, 0, 0, 0))]), (some (0, 0, 10, 0, 0, 0), [(4, 0, 0, 0, 0, 0), (0, 0, 9, 0, 0, 0)], [(5, 1, (0, 1, 1, 0, 0, 0)), (6, 0, (0, -2147483648, 2147483647, 0, 0, 0)), (7, 10, (0, 1, 10, 0, 0, 0))])] := ha
  simp only [List.mem_cons, List.not_mem_nil, or_false] at ha
  rcases ha with rfl | rfl
  · obtain ⟨z2, e2, r⟩ := gW_int (show gW _ _ from q) (Nat.le_of_ble_eq_true rfl)
    cases e2
    have := gR0 r
    have w := gR0 (show gR (0, 9, 9, 0, 0, 0) (M' 5 1) from (p _ List.mem_cons_self).1)
    omega
  · obtain ⟨z2, e2, r⟩ := gW_int (show gW _ _ from q) (Nat.le_of_ble_eq_true rfl)
    cases e2
    have := gR0 r
    have w := gR0 (show gR (0, 1, 1, 0, 0, 0) (M' 5 1) from (p _ List.mem_cons_self).1)
    omega
theorem nu_X_without_10 {d : Nat} (hd : 4 ≤ d) {M : pM} {a1 : Int} (hM : gM gAll M) (h1 : -2147483648 ≤ a1 ∧ a1 ≤ 2147483647) (p0 : 10 ≤ M 5 1 ∧ M 5 1 ≤ 10) : ∃ z M', xF d 18 [.inr 2, .inl a1] M = rI z M' ∧ ((-1 ≤ z ∧ z ≤ -1 ∧ 10 ≤ M' 5 1 ∧ M' 5 1 ≤ 10) ∨ (0 ≤ z ∧ z ≤ 10 ∧ 1 ≤ M' 5 1 ∧ M' 5 1 ≤ 1)) := by
  have c0 : cOK gAll (xF d) 18 K_640 := (ct_of (d := d) ct_ok (show K_640 ∈ CT.getD 18 [] from (show CT.getD 18 [] = [K_630, K_631, K_632, K_633, K_634, K_635, K_636, K_637, K_638, K_639, K_640, K_641, K_295] from rfl) ▸ by simp) hd)
  obtain ⟨z, M', e, -, -, alt, ha, q, p⟩ := cOK_I c0 (A := [.inr 2, .inl a1]) (show aF2 gW [aRef 2, (0, -2147483648, 2147483647, 0, 0, 0)] [.inr 2, .inl a1] from ⟨gW_o, gW_i h1.1 h1.2, trivial⟩) hM (show gP0 [(5, 1, (0, 10, 10, 0, 0, 0))] M from fun e he => by
    simp only [List.mem_cons, List.not_mem_nil, or_false] at he
    rcases he with rfl
    · exact gR_i p0.1 p0.2) rfl
  refine ⟨z, M', e, ?_⟩
  have ha : alt ∈ [(some (0, -1, -1, 0, 0, 0), [], [(5, 1, (0, 10, 10, 0, 0, 0))]), (some (0, 0, 10, 0, 0, 0), [(4, 0, 0, 0, 0, 0), (0, 0, 9, 0, 0, 0)], [(5, 1, (0, 1, 1, 0, 0, 0)), (6, 0, (0, -2147483648, 2147483647, 0, 0, 0)), (7, 10, (0, 1, 10, 0, 0, 0))])] := ha
  simp only [List.mem_cons, List.not_mem_nil, or_false] at ha
  rcases ha with rfl | rfl
  · obtain ⟨z2, e2, r⟩ := gW_int (show gW _ _ from q) (Nat.le_of_ble_eq_true rfl)
    cases e2
    have := gR0 r
    have w := gR0 (show gR (0, 10, 10, 0, 0, 0) (M' 5 1) from (p _ List.mem_cons_self).1)
    omega
  · obtain ⟨z2, e2, r⟩ := gW_int (show gW _ _ from q) (Nat.le_of_ble_eq_true rfl)
    cases e2
    have := gR0 r
    have w := gR0 (show gR (0, 1, 1, 0, 0, 0) (M' 5 1) from (p _ List.mem_cons_self).1)
    omega
theorem nu_X_without_11 {d : Nat} (hd : 4 ≤ d) {M : pM} {a1 : Int} (hM : gM gAll M) (h1 : -2147483648 ≤ a1 ∧ a1 ≤ 2147483647) (p0 : 11 ≤ M 5 1 ∧ M 5 1 ≤ 11) : ∃ z M', xF d 18 [.inr 2, .inl a1] M = rI z M' ∧ ((-1 ≤ z ∧ z ≤ -1 ∧ 11 ≤ M' 5 1 ∧ M' 5 1 ≤ 11) ∨ (0 ≤ z ∧ z ≤ 10 ∧ 1 ≤ M' 5 1 ∧ M' 5 1 ≤ 1)) := by
  have c0 : cOK gAll (xF d) 18 K_641 := (ct_of (d := d) ct_ok (show K_641 ∈ CT.getD 18 [] from (show CT.getD 18 [] = [K_630, K_631, K_632, K_633, K_634, K_635, K_636, K_637, K_638, K_639, K_640, K_641, K_295] from rfl) ▸ by simp) hd)
  obtain ⟨z, M', e, -, -, alt, ha, q, p⟩ := cOK_I c0 (A := [.inr 2, .inl a1]) (show aF2 gW [aRef 2, (0, -2147483648, 2147483647, 0, 0, 0)] [.inr 2, .inl a1] from ⟨gW_o, gW_i h1.1 h1.2, trivial⟩) hM (show gP0 [(5, 1, (0, 11, 11, 0, 0, 0))] M from fun e he => by
    simp only [List.mem_cons, List.not_mem_nil, or_false] at he
    rcases he with rfl
    · exact gR_i p0.1 p0.2) rfl
  refine ⟨z, M', e, ?_⟩
  have ha : alt ∈ [(some (0, -1, -1, 0, 0, 0), [], [(5, 1, (0, 11, 11, 0, 0, 0))]), (some (0, 0, 10, 0, 0, 0), [(4, 0, 0, 0, 0, 0), (0, 0, 9, 0, 0, 0)], [(5, 1, (0, 1, 1, 0, 0, 0)), (6, 0, (0, -2147483648, 2147483647, 0, 0, 0)), (7, 10, (0, 1, 10, 0, 0, 0))])] := ha
  simp only [List.mem_cons, List.not_mem_nil, or_false] at ha
  rcases ha with rfl | rfl
  · obtain ⟨z2, e2, r⟩ := gW_int (show gW _ _ from q) (Nat.le_of_ble_eq_true rfl)
    cases e2
    have := gR0 r
    have w := gR0 (show gR (0, 11, 11, 0, 0, 0) (M' 5 1) from (p _ List.mem_cons_self).1)
    omega
  · obtain ⟨z2, e2, r⟩ := gW_int (show gW _ _ from q) (Nat.le_of_ble_eq_true rfl)
    cases e2
    have := gR0 r
    have w := gR0 (show gR (0, 1, 1, 0, 0, 0) (M' 5 1) from (p _ List.mem_cons_self).1)
    omega
theorem nu_X_without {d : Nat} (hd : 4 ≤ d) {M M' : pM} {a1 : Int} {v : Int} (hM : gM gAll M) (h1 : -2147483648 ≤ a1 ∧ a1 ≤ 2147483647) {n : Nat} (hn : n ≤ 11) (hc : M 5 1 = (n : Int)) (e : xF d 18 [.inr 2, .inl a1] M = rI v M') : (-1 ≤ v ∧ v ≤ -1 ∧ M' 5 1 = (n : Int)) ∨ (0 ≤ v ∧ v ≤ 10 ∧ M' 5 1 = 1) := by
  rcases (show n = 0 ∨ n = 1 ∨ n = 2 ∨ n = 3 ∨ n = 4 ∨ n = 5 ∨ n = 6 ∨ n = 7 ∨ n = 8 ∨ n = 9 ∨ n = 10 ∨ n = 11 by omega) with rfl | rfl | rfl | rfl | rfl | rfl | rfl | rfl | rfl | rfl | rfl | rfl
  · obtain ⟨z, M2, e2, r⟩ := nu_X_without_0 (d := d) (by omega) hM h1 (by omega)
    obtain ⟨y1, y2⟩ := rI_inj (e.symm.trans e2)
    rw [y1, y2]
    omega
  · obtain ⟨z, M2, e2, r⟩ := nu_X_without_1 (d := d) (by omega) hM h1 (by omega)
    obtain ⟨y1, y2⟩ := rI_inj (e.symm.trans e2)
    rw [y1, y2]
    omega
  · obtain ⟨z, M2, e2, r⟩ := nu_X_without_2 (d := d) (by omega) hM h1 (by omega)
    obtain ⟨y1, y2⟩ := rI_inj (e.symm.trans e2)
    rw [y1, y2]
    omega
  · obtain ⟨z, M2, e2, r⟩ := nu_X_without_3 (d := d) (by omega) hM h1 (by omega)
    obtain ⟨y1, y2⟩ := rI_inj (e.symm.trans e2)
    rw [y1, y2]
    omega
  · obtain ⟨z, M2, e2, r⟩ := nu_X_without_4 (d := d) (by omega) hM h1 (by omega)
    obtain ⟨y1, y2⟩ := rI_inj (e.symm.trans e2)
    rw [y1, y2]
    omega
  · obtain ⟨z, M2, e2, r⟩ := nu_X_without_5 (d := d) (by omega) hM h1 (by omega)
    obtain ⟨y1, y2⟩ := rI_inj (e.symm.trans e2)
    rw [y1, y2]
    omega
  · obtain ⟨z, M2, e2, r⟩ := nu_X_without_6 (d := d) (by omega) hM h1 (by omega)
    obtain ⟨y1, y2⟩ := rI_inj (e.symm.trans e2)
    rw [y1, y2]
    omega
  · obtain ⟨z, M2, e2, r⟩ := nu_X_without_7 (d := d) (by omega) hM h1 (by omega)
    obtain ⟨y1, y2⟩ := rI_inj (e.symm.trans e2)
    rw [y1, y2]
    omega
  · obtain ⟨z, M2, e2, r⟩ := nu_X_without_8 (d := d) (by omega) hM h1 (by omega)
    obtain ⟨y1, y2⟩ := rI_inj (e.symm.trans e2)
    rw [y1, y2]
    omega
  · obtain ⟨z, M2, e2, r⟩ := nu_X_without_9 (d := d) (by omega) hM h1 (by omega)
    obtain ⟨y1, y2⟩ := rI_inj (e.symm.trans e2)
    rw [y1, y2]
    omega
  · obtain ⟨z, M2, e2, r⟩ := nu_X_without_10 (d := d) (by omega) hM h1 (by omega)
    obtain ⟨y1, y2⟩ := rI_inj (e.symm.trans e2)
    rw [y1, y2]
    omega
  · obtain ⟨z, M2, e2, r⟩ := nu_X_without_11 (d := d) (by omega) hM h1 (by omega)
    obtain ⟨y1, y2⟩ := rI_inj (e.symm.trans e2)
    rw [y1, y2]
    omega
theorem nu_X_swap_0 {d : Nat} (hd : 6 ≤ d) {M : pM} {a1 : Int} {a2 : Int} (hM : gM gAll M) (h1 : -2147483648 ≤ a1 ∧ a1 ≤ 2147483647) (h2 : -2147483648 ≤ a2 ∧ a2 ≤ 2147483647) (p0 : 0 ≤ M 5 1 ∧ M 5 1 ≤ 0) : ∃ z M', xF d 31 [.inr 2, .inl a1, .inl a2] M = rI z M' ∧ ((-1 ≤ z ∧ z ≤ -1 ∧ 0 ≤ M' 5 1 ∧ M' 5 1 ≤ 0) ∨ (0 ≤ z ∧ z ≤ 0 ∧ 1 ≤ M' 5 1 ∧ M' 5 1 ≤ 1) ∨ (1 ≤ z ∧ z ≤ 1 ∧ 1 ≤ M' 5 1 ∧ M' 5 1 ≤ 1)) := by
  have c0 : cOK gAll (xF d) 31 K_642 := (ct_of (d := d) ct_ok (show K_642 ∈ CT.getD 31 [] from (show CT.getD 31 [] = [K_642, K_643, K_644, K_645, K_646, K_647, K_648, K_649, K_650, K_651, K_652, K_653, K_408] from rfl) ▸ by simp) hd)
  obtain ⟨z, M', e, -, -, alt, ha, q, p⟩ := cOK_I c0 (A := [.inr 2, .inl a1, .inl a2]) (show aF2 gW [aRef 2, (0, -2147483648, 2147483647, 0, 0, 0), (0, -2147483648, 2147483647, 0, 0, 0)] [.inr 2, .inl a1, .inl a2] from ⟨gW_o, gW_i h1.1 h1.2, gW_i h2.1 h2.2, trivial⟩) hM (show gP0 [(5, 1, (0, 0, 0, 0, 0, 0))] M from fun e he => by
    simp only [List.mem_cons, List.not_mem_nil, or_false] at he
    rcases he with rfl
    · exact gR_i p0.1 p0.2) rfl
  refine ⟨z, M', e, ?_⟩
  have ha : alt ∈ [(some (0, -1, -1, 0, 0, 0), [], [(5, 1, (0, 0, 0, 0, 0, 0))]), (some (0, 0, 0, 0, 0, 0), [(4, 0, 0, 0, 0, 0), (0, 0, 5, 0, 0, 0), (0, 0, 5, 0, 0, 0)], [(5, 1, (0, 1, 1, 0, 0, 0)), (6, 0, (0, -2147483648, 2147483647, 0, 0, 0)), (7, 9, (0, 1, 6, 0, 0, 0))]), (some (0, 1, 1, 0, 0, 0), [(4, 0, 0, 0, 0, 0), (0, 0, 5, 0, 0, 0), (0, 0, 5, 0, 0, 0)], [(5, 1, (0, 1, 1, 0, 0, 0)), (6, 0, (0, -2147483648, 2147483647, 0, 0, 0)), (7, 9, (0, 1, 6, 0, 0, 0))])] := ha
  simp only [List.mem_cons, List.not_mem_nil, or_false] at ha
  rcases ha with rfl | rfl | rfl
  · obtain ⟨z2, e2, r⟩ := gW_int (show gW _ _ from q) (Nat.le_of_ble_eq_true rfl)
    cases e2
    have := gR0 r
    have w := gR0 (show gR (0, 0, 0, 0, 0, 0) (M' 5 1) from (p _ List.mem_cons_self).1)
    omega
  · obtain ⟨z2, e2, r⟩ := gW_int (show gW _ _ from q) (Nat.le_of_ble_eq_true rfl)
    cases e2
    have := gR0 r
    have w := gR0 (show gR (0, 1, 1, 0, 0, 0) (M' 5 1) from (p _ List.mem_cons_self).1)
    omega
  · obtain ⟨z2, e2, r⟩ := gW_int (show gW _ _ from q) (Nat.le_of_ble_eq_true rfl)
    cases e2
    have := gR0 r
    have w := gR0 (show gR (0, 1, 1, 0, 0, 0) (M' 5 1) from (p _ List.mem_cons_self).1)
    omega
theorem nu_X_swap_1 {d : Nat} (hd : 6 ≤ d) {M : pM} {a1 : Int} {a2 : Int} (hM : gM gAll M) (h1 : -2147483648 ≤ a1 ∧ a1 ≤ 2147483647) (h2 : -2147483648 ≤ a2 ∧ a2 ≤ 2147483647) (p0 : 1 ≤ M 5 1 ∧ M 5 1 ≤ 1) : ∃ z M', xF d 31 [.inr 2, .inl a1, .inl a2] M = rI z M' ∧ ((-1 ≤ z ∧ z ≤ -1 ∧ 1 ≤ M' 5 1 ∧ M' 5 1 ≤ 1) ∨ (0 ≤ z ∧ z ≤ 0 ∧ 1 ≤ M' 5 1 ∧ M' 5 1 ≤ 1) ∨ (1 ≤ z ∧ z ≤ 1 ∧ 1 ≤ M' 5 1 ∧ M' 5 1 ≤ 1)) := by
  have c0 : cOK gAll (xF d) 31 K_643 := (ct_of (d := d) ct_ok (show K_643 ∈ CT.getD 31 [] from (show CT.getD 31 [] = [K_642, K_643, K_644, K_645, K_646, K_647, K_648, K_649, K_650, K_651, K_652, K_653, K_408] from rfl) ▸ by simp) hd)
  obtain ⟨z, M', e, -, -, alt, ha, q, p⟩ := cOK_I c0 (A := [.inr 2, .inl a1, .inl a2]) (show aF2 gW [aRef 2, (0, -2147483648, 2147483647, 0, 0, 0), (0, -2147483648, 2147483647, 0, 0, 0)] [.inr 2, .inl a1, .inl a2] from ⟨gW_o, gW_i h1.1 h1.2, gW_i h2.1 h2.2, trivial⟩) hM (show gP0 [(5, 1, (0, 1, 1, 0, 0, 0))] M from fun e he => by
    simp only [List.mem_cons, List.not_mem_nil, or_false] at he
    rcases he with rfl
    · exact gR_i p0.1 p0.2) rfl
  refine ⟨z, M', e, ?_⟩
  have ha : alt ∈ [(some (0, -1, -1, 0, 0, 0), [], [(5, 1, (0, 1, 1, 0, 0, 0))]), (some (0, 0, 0, 0, 0, 0), [(4, 0, 0, 0, 0, 0), (0, 0, 5, 0, 0, 0), (0, 0, 5, 0, 0, 0)], [(5, 1, (0, 1, 1, 0, 0, 0)), (6, 0, (0, -2147483648, 2147483647, 0, 0, 0)), (7, 9, (0, 1, 6, 0, 0, 0))]), (some (0, 1, 1, 0, 0, 0), [(4, 0, 0, 0, 0, 0), (0, 0, 5, 0, 0, 0), (0, 0, 5, 0, 0, 0)], [(5, 1, (0, 1, 1, 0, 0, 0)), (6, 0, (0, -2147483648, 2147483647, 0, 0, 0)), (7, 9, (0, 1, 6, 0, 0, 0))])] := ha
  simp only [List.mem_cons, List.not_mem_nil, or_false] at ha
  rcases ha with rfl | rfl | rfl
  · obtain ⟨z2, e2, r⟩ := gW_int (show gW _ _ from q) (Nat.le_of_ble_eq_true rfl)
    cases e2
    have := gR0 r
    have w := gR0 (show gR (0, 1, 1, 0, 0, 0) (M' 5 1) from (p _ List.mem_cons_self).1)
    omega
  · obtain ⟨z2, e2, r⟩ := gW_int (show gW _ _ from q) (Nat.le_of_ble_eq_true rfl)
    cases e2
    have := gR0 r
    have w := gR0 (show gR (0, 1, 1, 0, 0, 0) (M' 5 1) from (p _ List.mem_cons_self).1)
    omega
  · obtain ⟨z2, e2, r⟩ := gW_int (show gW _ _ from q) (Nat.le_of_ble_eq_true rfl)
    cases e2
    have := gR0 r
    have w := gR0 (show gR (0, 1, 1, 0, 0, 0) (M' 5 1) from (p _ List.mem_cons_self).1)
    omega
theorem nu_X_swap_2 {d : Nat} (hd : 6 ≤ d) {M : pM} {a1 : Int} {a2 : Int} (hM : gM gAll M) (h1 : -2147483648 ≤ a1 ∧ a1 ≤ 2147483647) (h2 : -2147483648 ≤ a2 ∧ a2 ≤ 2147483647) (p0 : 2 ≤ M 5 1 ∧ M 5 1 ≤ 2) : ∃ z M', xF d 31 [.inr 2, .inl a1, .inl a2] M = rI z M' ∧ ((-1 ≤ z ∧ z ≤ -1 ∧ 2 ≤ M' 5 1 ∧ M' 5 1 ≤ 2) ∨ (0 ≤ z ∧ z ≤ 0 ∧ 1 ≤ M' 5 1 ∧ M' 5 1 ≤ 1) ∨ (1 ≤ z ∧ z ≤ 1 ∧ 1 ≤ M' 5 1 ∧ M' 5 1 ≤ 1)) := by
  have c0 : cOK gAll (xF d) 31 K_644 := (ct_of (d := d) ct_ok (show K_644 ∈ CT.getD 31 [] from (show CT.getD 31 [] = [K_642, K_643, K_644, K_645, K_646, K_647, K_648, K_649, K_650, K_651, K_652, K_653, K_408] from rfl) ▸ by simp) hd)
  obtain ⟨z, M', e, -, -, alt, ha, q, p⟩ := cOK_I c0 (A := [.inr 2, .inl a1, .inl a2]) (show aF2 gW [aRef 2, (0, -2147483648, 2147483647, 0, 0, 0), (0, -2147483648, 2147483647, 0, 0, 0)] [.inr 2, .inl a1, .inl a2] from ⟨gW_o, gW_i h1.1 h1.2, gW_i h2.1 h2.2, trivial⟩) hM (show gP0 [(5, 1, (0, 2, 2, 0, 0, 0))] M from fun e he => by
    simp only [List.mem_cons, List.not_mem_nil, or_false] at he
    rcases he with rfl
    · exact gR_i p0.1 p0.2) rfl
  refine ⟨z, M', e, ?_⟩
  have ha : alt ∈ [(some (0, -1, -1, 0, 0, 0), [], [(5, 1, (0, 2, 2, 0, 0, 0))]), (some (0, 0, 0, 0, 0, 0), [(4, 0, 0, 0, 0, 0), (0, 0, 5, 0, 0, 0), (0, 0, 5, 0, 0, 0)], [(5, 1, (0, 1, 1, 0, 0, 0)), (6, 0, (0, -2147483648, 2147483647, 0, 0, 0)), (7, 9, (0, 1, 6, 0, 0, 0))]), (some (0, 1, 1, 0, 0, 0), [(4, 0, 0, 0, 0, 0), (0, 0, 5, 0, 0, 0), (0, 0, 5, 0, 0, 0)], [(5, 1, (0, 1, 1, 0, 0, 0)), (6, 0, (0, -2147483648, 2147483647, 0, 0, 0)), (7, 9, (0, 1, 6, 0, 0, 0))])] := ha
  simp only [List.mem_cons, List.not_mem_nil, or_false] at ha
  rcases ha with rfl | rfl | rfl
  · obtain ⟨z2, e2, r⟩ := gW_int (show gW _ _ from q) (Nat.le_of_ble_eq_true rfl)
    cases e2
    have := gR0 r
    have w := gR0 (show gR (0, 2, 2, 0, 0, 0) (M' 5 1) from (p _ List.mem_cons_self).1)
    omega
  · obtain ⟨z2, e2, r⟩ := gW_int (show gW _ _ from q) (Nat.le_of_ble_eq_true rfl)
    cases e2
    have := gR0 r
    have w := gR0 (show gR (0, 1, 1, 0, 0, 0) (M' 5 1) from (p _ List.mem_cons_self).1)
    omega
  · obtain ⟨z2, e2, r⟩ := gW_int (show gW _ _ from q) (Nat.le_of_ble_eq_true rfl)
    cases e2
    have := gR0 r
    have w := gR0 (show gR (0, 1, 1, 0, 0, 0) (M' 5 1) from (p _ List.mem_cons_self).1)
    omega
theorem nu_X_swap_3 {d : Nat} (hd : 6 ≤ d) {M : pM} {a1 : Int} {a2 : Int} (hM : gM gAll M) (h1 : -2147483648 ≤ a1 ∧ a1 ≤ 2147483647) (h2 : -2147483648 ≤ a2 ∧ a2 ≤ 2147483647) (p0 : 3 ≤ M 5 1 ∧ M 5 1 ≤ 3) : ∃ z M', xF d 31 [.inr 2, .inl a1, .inl a2] M = rI z M' ∧ ((-1 ≤ z ∧ z ≤ -1 ∧ 3 ≤ M' 5 1 ∧ M' 5 1 ≤ 3) ∨ (0 ≤ z ∧ z ≤ 0 ∧ 1 ≤ M' 5 1 ∧ M' 5 1 ≤ 1) ∨ (1 ≤ z ∧ z ≤ 1 ∧ 1 ≤ M' 5 1 ∧ M' 5 1 ≤ 1)) := by
  have c0 : cOK gAll (xF d) 31 K_645 := (ct_of (d := d) ct_ok (show K_645 ∈ CT.getD 31 [] from (show CT.getD 31 [] = [K_642, K_643, K_644, K_645, K_646, K_647, K_648, K_649, K_650, K_651, K_652, K_653, K_408] from rfl) ▸ by simp) hd)
  obtain ⟨z, M', e, -, -, alt, ha, q, p⟩ := cOK_I c0 (A := [.inr 2, .inl a1, .inl a2]) (show aF2 gW [aRef 2, (0, -2147483648, 2147483647, 0, 0, 0), (0, -2147483648, 2147483647, 0, 0, 0)] [.inr 2, .inl a1, .inl a2] from ⟨gW_o, gW_i h1.1 h1.2, gW_i h2.1 h2.2, trivial⟩) hM (show gP0 [(5, 1, (0, 3, 3, 0, 0, 0))] M from fun e he => by
    simp only [List.mem_cons, List.not_mem_nil, or_false] at he
    rcases he with rfl
    · exact gR_i p0.1 p0.2) rfl
  refine ⟨z, M', e, ?_⟩
  have ha : alt ∈ [(some (0, -1, -1, 0, 0, 0), [], [(5, 1, (0, 3, 3, 0, 0, 0))]), (some (0, 0, 0, 0, 0, 0), [(4, 0, 0, 0, 0, 0), (0, 0, 5, 0, 0, 0), (0, 0, 5, 0, 0, 0)], [(5, 1, (0, 1, 1, 0, 0, 0)), (6, 0, (0, -2147483648, 2147483647, 0, 0, 0)), (7, 9, (0, 1, 6, 0, 0, 0))]), (some (0, 1, 1, 0, 0, 0), [(4, 0, 0, 0, 0, 0), (0, 0, 5, 0, 0, 0), (0, 0, 5, 0, 0, 0)], [(5, 1, (0, 1, 1, 0, 0, 0)), (6, 0, (0, -2147483648, 2147483647, 0, 0, 0)), (7, 9, (0, 1, 6, 0, 0, 0))])] := ha
  simp only [List.mem_cons, List.not_mem_nil, or_false] at ha
  rcases ha with rfl | rfl | rfl
  · obtain ⟨z2, e2, r⟩ := gW_int (show gW _ _ from q) (Nat.le_of_ble_eq_true rfl)
    cases e2
    have := gR0 r
    have w := gR0 (show gR (0, 3, 3, 0, 0, 0) (M' 5 1) from (p _ List.mem_cons_self).1)
    omega
  · obtain ⟨z2, e2, r⟩ := gW_int (show gW _ _ from q) (Nat.le_of_ble_eq_true rfl)
    cases e2
    have := gR0 r
    have w := gR0 (show gR (0, 1, 1, 0, 0, 0) (M' 5 1) from (p _ List.mem_cons_self).1)
    omega
  · obtain ⟨z2, e2, r⟩ := gW_int (show gW _ _ from q) (Nat.le_of_ble_eq_true rfl)
    cases e2
    have := gR0 r
    have w := gR0 (show gR (0, 1, 1, 0, 0, 0) (M' 5 1) from (p _ List.mem_cons_self).1)
    omega
theorem nu_X_swap_4 {d : Nat} (hd : 6 ≤ d) {M : pM} {a1 : Int} {a2 : Int} (hM : gM gAll M) (h1 : -2147483648 ≤ a1 ∧ a1 ≤ 2147483647) (h2 : -2147483648 ≤ a2 ∧ a2 ≤ 2147483647) (p0 : 4 ≤ M 5 1 ∧ M 5 1 ≤ 4) : ∃ z M', xF d 31 [.inr 2, .inl a1, .inl a2] M = rI z M' ∧ ((-1 ≤ z ∧ z ≤ -1 ∧ 4 ≤ M' 5 1 ∧ M' 5 1 ≤ 4) ∨ (0 ≤ z ∧ z ≤ 0 ∧ 1 ≤ M' 5 1 ∧ M' 5 1 ≤ 1) ∨ (1 ≤ z ∧ z ≤ 1 ∧ 1 ≤ M' 5 1 ∧ M' 5 1 ≤ 1)) := by
  have c0 : cOK gAll (xF d) 31 K_646 := (ct_of (d := d) ct_ok (show K_646 ∈ CT.getD 31 [] from (show CT.getD 31 [] = [K_642, K_643, K_644, K_645, K_646, K_647, K_648, K_649, K_650, K_651, K_652, K_653, K_408] from rfl) ▸ by simp) hd)
  obtain ⟨z, M', e, -, -, alt, ha, q, p⟩ := cOK_I c0 (A := [.inr 2, .inl a1, .inl a2]) (show aF2 gW [aRef 2, (0, -2147483648, 2147483647, 0, 0, 0), (0, -2147483648, 2147483647, 0, 0, 0)] [.inr 2, .inl a1, .inl a2] from ⟨gW_o, gW_i h1.1 h1.2, gW_i h2.1 h2.2, trivial⟩) hM (show gP0 [(5, 1, (0, 4, 4, 0, 0, 0))] M from fun e he => by
    simp only [List.mem_cons, List.not_mem_nil, or_false] at he
    rcases he with rfl
    · exact gR_i p0.1 p0.2) rfl
  refine ⟨z, M', e, ?_⟩
  have ha : alt ∈ [(some (0, -1, -1, 0, 0, 0), [], [(5, 1, (0, 4, 4, 0, 0, 0))]), (some (0, 0, 0, 0, 0, 0), [(4, 0, 0, 0, 0, 0), (0, 0, 5, 0, 0, 0), (0, 0, 5, 0, 0, 0)], [(5, 1, (0, 1, 1, 0, 0, 0)), (6, 0, (0, -2147483648, 2147483647, 0, 0, 0)), (7, 9, (0, 1, 6, 0, 0, 0))]), (some (0, 1, 1, 0, 0, 0), [(4, 0, 0, 0, 0, 0), (0, 0, 5, 0, 0, 0), (0, 0, 5, 0, 0, 0)], [(5, 1, (0, 1, 1, 0, 0, 0)), (6, 0, (0, -2147483648, 2147483647, 0, 0, 0)), (7, 9, (0, 1, 6, 0, 0, 0))])] := ha
  simp only [List.mem_cons, List.not_mem_nil, or_false] at ha
  rcases ha with rfl | rfl | rfl
  · obtain ⟨z2, e2, r⟩ := gW_int (show gW _ _ from q) (Nat.le_of_ble_eq_true rfl)
    cases e2
    have := gR0 r
    have w := gR0 (show gR (0, 4, 4, 0, 0, 0) (M' 5 1) from (p _ List.mem_cons_self).1)
    omega
  · obtain ⟨z2, e2, r⟩ := gW_int (show gW _ _ from q) (Nat.le_of_ble_eq_true rfl)
    cases e2
    have := gR0 r
    have w := gR0 (show gR (0, 1, 1, 0, 0, 0) (M' 5 1) from (p _ List.mem_cons_self).1)
    omega
  · obtain ⟨z2, e2, r⟩ := gW_int (show gW _ _ from q) (Nat.le_of_ble_eq_true rfl)
    cases e2
    have := gR0 r
    have w := gR0 (show gR (0, 1, 1, 0, 0, 0) (M' 5 1) from (p _ List.mem_cons_self).1)
    omega
theorem nu_X_swap_5 {d : Nat} (hd : 6 ≤ d) {M : pM} {a1 : Int} {a2 : Int} (hM : gM gAll M) (h1 : -2147483648 ≤ a1 ∧ a1 ≤ 2147483647) (h2 : -2147483648 ≤ a2 ∧ a2 ≤ 2147483647) (p0 : 5 ≤ M 5 1 ∧ M 5 1 ≤ 5) : ∃ z M', xF d 31 [.inr 2, .inl a1, .inl a2] M = rI z M' ∧ ((-1 ≤ z ∧ z ≤ -1 ∧ 5 ≤ M' 5 1 ∧ M' 5 1 ≤ 5) ∨ (0 ≤ z ∧ z ≤ 0 ∧ 1 ≤ M' 5 1 ∧ M' 5 1 ≤ 1) ∨ (1 ≤ z ∧ z ≤ 1 ∧ 1 ≤ M' 5 1 ∧ M' 5 1 ≤ 1)) := by
  have c0 : cOK gAll (xF d) 31 K_647 := (ct_of (d := d) ct_ok (show K_647 ∈ CT.getD 31 [] from (show CT.getD 31 [] = [K_642, K_643, K_644, K_645, K_646, K_647, K_648, K_649, K_650, K_651, K_652, K_653, K_408] from rfl) ▸ by simp) hd)
  obtain ⟨z, M', e, -, -, alt, ha, q, p⟩ := cOK_I c0 (A := [.inr 2, .inl a1, .inl a2]) (show aF2 gW [aRef 2, (0, -2147483648, 2147483647, 0, 0, 0), (0, -2147483648, 2147483647, 0, 0, 0)] [.inr 2, .inl a1, .inl a2] from ⟨gW_o, gW_i h1.1 h1.2, gW_i h2.1 h2.2, trivial⟩) hM (show gP0 [(5, 1, (0, 5, 5, 0, 0, 0))] M from fun e he => by
    simp only [List.mem_cons, List.not_mem_nil, or_false] at he
    rcases he with rfl
    · exact gR_i p0.1 p0.2) rfl
  refine ⟨z, M', e, ?_⟩
  have ha : alt ∈ [(some (0, -1, -1, 0, 0, 0), [], [(5, 1, (0, 5, 5, 0, 0, 0))]), (some (0, 0, 0, 0, 0, 0), [(4, 0, 0, 0, 0, 0), (0, 0, 5, 0, 0, 0), (0, 0, 5, 0, 0, 0)], [(5, 1, (0, 1, 1, 0, 0, 0)), (6, 0, (0, -2147483648, 2147483647, 0, 0, 0)), (7, 9, (0, 1, 6, 0, 0, 0))]), (some (0, 1, 1, 0, 0, 0), [(4, 0, 0, 0, 0, 0), (0, 0, 5, 0, 0, 0), (0, 0, 5, 0, 0, 0)], [(5, 1, (0, 1, 1, 0, 0, 0)), (6, 0, (0, -2147483648, 2147483647, 0, 0, 0)), (7, 9, (0, 1, 6, 0, 0, 0))])] := ha
  simp only [List.mem_cons, List.not_mem_nil, or_false] at ha
  rcases ha with rfl | rfl | rfl
  · obtain ⟨z2, e2, r⟩ := gW_int (show gW _ _ from q) (Nat.le_of_ble_eq_true rfl)
    cases e2
    have := gR0 r
    have w := gR0 (show gR (0, 5, 5, 0, 0, 0) (M' 5 1) from (p _ List.mem_cons_self).1)
    omega
  · obtain ⟨z2, e2, r⟩ := gW_int (show gW _ _ from q) (Nat.le_of_ble_eq_true rfl)
    cases e2
    have := gR0 r
    have w := gR0 (show gR (0, 1, 1, 0, 0, 0) (M' 5 1) from (p _ List.mem_cons_self).1)
    omega
  · obtain ⟨z2, e2, r⟩ := gW_int (show gW _ _ from q) (Nat.le_of_ble_eq_true rfl)
    cases e2
    have := gR0 r
    have w := gR0 (show gR (0, 1, 1, 0, 0, 0) (M' 5 1) from (p _ List.mem_cons_self).1)
    omega
theorem nu_X_swap_6 {d : Nat} (hd : 6 ≤ d) {M : pM} {a1 : Int} {a2 : Int} (hM : gM gAll M) (h1 : -2147483648 ≤ a1 ∧ a1 ≤ 2147483647) (h2 : -2147483648 ≤ a2 ∧ a2 ≤ 2147483647) (p0 : 6 ≤ M 5 1 ∧ M 5 1 ≤ 6) : ∃ z M', xF d 31 [.inr 2, .inl a1, .inl a2] M = rI z M' ∧ ((-1 ≤ z ∧ z ≤ -1 ∧ 6 ≤ M' 5 1 ∧ M' 5 1 ≤ 6) ∨ (0 ≤ z ∧ z ≤ 0 ∧ 1 ≤ M' 5 1 ∧ M' 5 1 ≤ 1) ∨ (1 ≤ z ∧ z ≤ 1 ∧ 1 ≤ M' 5 1 ∧ M' 5 1 ≤ 1)) := by
  have c0 : cOK gAll (xF d) 31 K_648 := (ct_of (d := d) ct_ok (show K_648 ∈ CT.getD 31 [] from (show CT.getD 31 [] = [K_642, K_643, K_644, K_645, K_646, K_647, K_648, K_649, K_650, K_651, K_652, K_653, K_408] from rfl) ▸ by simp) hd)
  obtain ⟨z, M', e, -, -, alt, ha, q, p⟩ := cOK_I c0 (A := [.inr 2, .inl a1, .inl a2]) (show aF2 gW [aRef 2, (0, -2147483648, 2147483647, 0, 0, 0), (0, -2147483648, 2147483647, 0, 0, 0)] [.inr 2, .inl a1, .inl a2] from ⟨gW_o, gW_i h1.1 h1.2, gW_i h2.1 h2.2, trivial⟩) hM (show gP0 [(5, 1, (0, 6, 6, 0, 0, 0))] M from fun e he => by
    simp only [List.mem_cons, List.not_mem_nil, or_false] at he
    rcases he with rfl
    · exact gR_i p0.1 p0.2) rfl
  refine ⟨z, M', e, ?_⟩
  have ha : alt ∈ [(some (0, -1, -1, 0, 0, 0), [], [(5, 1, (0, 6, 6, 0, 0, 0))]), (some (0, 0, 0, 0, 0, 0), [(4, 0, 0, 0, 0, 0), (0, 0, 5, 0, 0, 0), (0, 0, 5, 0, 0, 0)], [(5, 1, (0, 1, 1, 0, 0, 0)), (6, 0, (0, -2147483648, 2147483647, 0, 0, 0)), (7, 9, (0, 1, 6, 0, 0, 0))]), (some (0, 1, 1, 0, 0, 0), [(4, 0, 0, 0, 0, 0), (0, 0, 5, 0, 0, 0), (0, 0, 5, 0, 0, 0)], [(5, 1, (0, 1, 1, 0, 0, 0)), (6, 0, (0, -2147483648, 2147483647, 0, 0, 0)), (7, 9, (0, 1, 6, 0, 0, 0))])] := ha
  simp only [List.mem_cons, List.not_mem_nil, or_false] at ha
  rcases ha with rfl | rfl | rfl
  · obtain ⟨z2, e2, r⟩ := gW_int (show gW _ _ from q) (Nat.le_of_ble_eq_true rfl)
    cases e2
    have := gR0 r
    have w := gR0 (show gR (0, 6, 6, 0, 0, 0) (M' 5 1) from (p _ List.mem_cons_self).1)
    omega
  · obtain ⟨z2, e2, r⟩ := gW_int (show gW _ _ from q) (Nat.le_of_ble_eq_true rfl)
    cases e2
    have := gR0 r
    have w := gR0 (show gR (0, 1, 1, 0, 0, 0) (M' 5 1) from (p _ List.mem_cons_self).1)
    omega
  · obtain ⟨z2, e2, r⟩ := gW_int (show gW _ _ from q) (Nat.le_of_ble_eq_true rfl)
    cases e2
    have := gR0 r
    have w := gR0 (show gR (0, 1, 1, 0, 0, 0) (M' 5 1) from (p _ List.mem_cons_self).1)
    omega
theorem nu_X_swap_7 {d : Nat} (hd : 6 ≤ d) {M : pM} {a1 : Int} {a2 : Int} (hM : gM gAll M) (h1 : -2147483648 ≤ a1 ∧ a1 ≤ 2147483647) (h2 : -2147483648 ≤ a2 ∧ a2 ≤ 2147483647) (p0 : 7 ≤ M 5 1 ∧ M 5 1 ≤ 7) : ∃ z M', xF d 31 [.inr 2, .inl a1, .inl a2] M = rI z M' ∧ ((-1 ≤ z ∧ z ≤ -1 ∧ 7 ≤ M' 5 1 ∧ M' 5 1 ≤ 7) ∨ (0 ≤ z ∧ z ≤ 0 ∧ 1 ≤ M' 5 1 ∧ M' 5 1 ≤ 1) ∨ (1 ≤ z ∧ z ≤ 1 ∧ 1 ≤ M' 5 1 ∧ M' 5 1 ≤ 1)) := by
  have c0 : cOK gAll (xF d) 31 K_649 := (ct_of (d := d) ct_ok (show K_649 ∈ CT.getD 31 [] from (show CT.getD 31 [] = [K_642, K_643, K_644, K_645, K_646, K_647, K_648, K_649, K_650, K_651, K_652, K_653, K_408] from rfl) ▸ by simp) hd)
  obtain ⟨z, M', e, -, -, alt, ha, q, p⟩ := cOK_I c0 (A := [.inr 2, .inl a1, .inl a2]) (show aF2 gW [aRef 2, (0, -2147483648, 2147483647, 0, 0, 0), (0, -2147483648, 2147483647, 0, 0, 0)] [.inr 2, .inl a1, .inl a2] from ⟨gW_o, gW_i h1.1 h1.2, gW_i h2.1 h2.2, trivial⟩) hM (show gP0 [(5, 1, (0, 7, 7, 0, 0, 0))] M from fun e he => by
    simp only [List.mem_cons, List.not_mem_nil, or_false] at he
    rcases he with rfl
    · exact gR_i p0.1 p0.2) rfl
  refine ⟨z, M', e, ?_⟩
  have ha : alt ∈ [(some (0, -1, -1, 0, 0, 0), [], [(5, 1, (0, 7, 7, 0, 0, 0))]), (some (0, 0, 0, 0, 0, 0), [(4, 0, 0, 0, 0, 0), (0, 0, 5, 0, 0, 0), (0, 0, 5, 0, 0, 0)], [(5, 1, (0, 1, 1, 0, 0, 0)), (6, 0, (0, -2147483648, 2147483647, 0, 0, 0)), (7, 9, (0, 1, 6, 0, 0, 0))]), (some (0, 1, 1, 0, 0, 0), [(4, 0, 0, 0, 0, 0), (0, 0, 5, 0, 0, 0), (0, 0, 5, 0, 0, 0)], [(5, 1, (0, 1, 1, 0, 0, 0)), (6, 0, (0, -2147483648, 2147483647, 0, 0, 0)), (7, 9, (0, 1, 6, 0, 0, 0))])] := ha
  simp only [List.mem_cons, List.not_mem_nil, or_false] at ha
  rcases ha with rfl | rfl | rfl
  · obtain ⟨z2, e2, r⟩ := gW_int (show gW _ _ from q) (Nat.le_of_ble_eq_true rfl)
    cases e2
    have := gR0 r
    have w := gR0 (show gR (0, 7, 7, 0, 0, 0) (M' 5 1) from (p _ List.mem_cons_self).1)
    omega
  · obtain ⟨z2, e2, r⟩ := gW_int (show gW _ _ from q) (Nat.le_of_ble_eq_true rfl)
    cases e2
    have := gR0 r
    have w := gR0 (show gR (0, 1, 1, 0, 0, 0) (M' 5 1) from (p _ List.mem_cons_self).1)
    omega
  · obtain ⟨z2, e2, r⟩ := gW_int (show gW _ _ from q) (Nat.le_of_ble_eq_true rfl)
    cases e2
    have := gR0 r
    have w := gR0 (show gR (0, 1, 1, 0, 0, 0) (M' 5 1) from (p _ List.mem_cons_self).1)
    omega
theorem nu_X_swap_8 {d : Nat} (hd : 6 ≤ d) {M : pM} {a1 : Int} {a2 : Int} (hM : gM gAll M) (h1 : -2147483648 ≤ a1 ∧ a1 ≤ 2147483647) (h2 : -2147483648 ≤ a2 ∧ a2 ≤ 2147483647) (p0 : 8 ≤ M 5 1 ∧ M 5 1 ≤ 8) : ∃ z M', xF d 31 [.inr 2, .inl a1, .inl a2] M = rI z M' ∧ ((-1 ≤ z ∧ z ≤ -1 ∧ 8 ≤ M' 5 1 ∧ M' 5 1 ≤ 8) ∨ (0 ≤ z ∧ z ≤ 0 ∧ 1 ≤ M' 5 1 ∧ M' 5 1 ≤ 1) ∨ (1 ≤ z ∧ z ≤ 1 ∧ 1 ≤ M' 5 1 ∧ M' 5 1 ≤ 1)) := by
  have c0 : cOK gAll (xF d) 31 K_650 := (ct_of (d := d) ct_ok (show K_650 ∈ CT.getD 31 [] from (show CT.getD 31 [] = [K_642, K_643, K_644, K_645, K_646, K_647, K_648, K_649, K_650, K_651, K_652, K_653, K_408] from rfl) ▸ by simp) hd)
  obtain ⟨z, M', e, -, -, alt, ha, q, p⟩ := cOK_I c0 (A := [.inr 2, .inl a1, .inl a2]) (show aF2 gW [aRef 2, (0, -2147483648, 2147483647, 0, 0, 0), (0, -2147483648, 2147483647, 0, 0, 0)] [.inr 2, .inl a1, .inl a2] from ⟨gW_o, gW_i h1.1 h1.2, gW_i h2.1 h2.2, trivial⟩) hM (show gP0 [(5, 1, (0, 8, 8, 0, 0, 0))] M from fun e he => by
    simp only [List.mem_cons, List.not_mem_nil, or_false] at he
    rcases he with rfl
    · exact gR_i p0.1 p0.2) rfl
  refine ⟨z, M', e, ?_⟩
  have ha : alt ∈ [(some (0, -1, -1, 0, 0, 0), [], [(5, 1, (0, 8, 8, 0, 0, 0))]), (some (0, 0, 0, 0, 0, 0), [(4, 0, 0, 0, 0, 0), (0, 0, 5, 0, 0, 0), (0, 0, 5, 0, 0, 0)], [(5, 1, (0, 1, 1, 0, 0, 0)), (6, 0, (0, -2147483648, 2147483647, 0, 0, 0)), (7, 9, (0, 1, 6, 0, 0, 0))]), (some (0, 1, 1, 0, 0, 0), [(4, 0, 0, 0, 0, 0), (0, 0, 5, 0, 0, 0), (0, 0, 5, 0, 0, 0)], [(5, 1, (0, 1, 1, 0, 0, 0)), (6, 0, (0, -2147483648, 2147483647, 0, 0, 0)), (7, 9, (0, 1, 6, 0, 0, 0))])] := ha
  simp only [List.mem_cons, List.not_mem_nil, or_false] at ha
  rcases ha with rfl | rfl | rfl
  · obtain ⟨z2, e2, r⟩ := gW_int (show gW _ _ from q) (Nat.le_of_ble_eq_true rfl)
    cases e2
    have := gR0 r
    have w := gR0 (show gR (0, 8, 8, 0, 0, 0) (M' 5 1) from (p _ List.mem_cons_self).1)
    omega
  · obtain ⟨z2, e2, r⟩ := gW_int (show gW _ _ from q) (Nat.le_of_ble_eq_true rfl)
    cases e2
    have := gR0 r
    have w := gR0 (show gR (0, 1, 1, 0, 0, 0) (M' 5 1) from (p _ List.mem_cons_self).1)
    omega
  · obtain ⟨z2, e2, r⟩ := gW_int (show gW _ _ from q) (Nat.le_of_ble_eq_true rfl)
    cases e2
    have := gR0 r
    have w := gR0 (show gR (0, 1, 1, 0, 0, 0) (M' 5 1) from (p _ List.mem_cons_self).1)
    omega
theorem nu_X_swap_9 {d : Nat} (hd : 6 ≤ d) {M : pM} {a1 : Int} {a2 : Int} (hM : gM gAll M) (h1 : -2147483648 ≤ a1 ∧ a1 ≤ 2147483647) (h2 : -2147483648 ≤ a2 ∧ a2 ≤ 2147483647) (p0 : 9 ≤ M 5 1 ∧ M 5 1 ≤ 9) : ∃ z M', xF d 31 [.inr 2, .inl a1, .inl a2] M = rI z M' ∧ ((-1 ≤ z ∧ z ≤ -1 ∧ 9 ≤ M' 5 1 ∧ M' 5 1 ≤ 9) ∨ (0 ≤ z ∧ z ≤ 0 ∧ 1 ≤ M' 5 1 ∧ M' 5 1 ≤ 1) ∨ (1 ≤ z ∧ z ≤ 1 ∧ 1 ≤ M' 5 1 ∧ M' 5 1 ≤ 1)) := by
  have c0 : cOK gAll (xF d) 31 K_651 := (ct_of (d := d) ct_ok (show K_651 ∈ CT.getD 31 [] from (show CT.getD 31 [] = [K_642, K_643, K_644, K_645, K_646, K_647, K_648, K_649, K_650, K_651, K_652, K_653, K_408] from rfl) ▸ by simp) hd)
  obtain ⟨z, M', e, -, -, alt, ha, q, p⟩ := cOK_I c0 (A := [.inr 2, .inl a1, .inl a2]) (show aF2 gW [aRef 2, (0, -2147483648, 2147483647, 0, 0, 0), (0, -2147483648, 2147483647, 0, 0, 0)] [.inr 2, .inl a1, .inl a2] from ⟨gW_o, gW_i h1.1 h1.2, gW_i h2.1 h2.2, trivial⟩) hM (show gP0 [(5, 1, (0, 9, 9, 0, 0, 0))] M from fun e he => by
    simp only [List.mem_cons, List.not_mem_nil, or_false] at he
    rcases he with rfl
    · exact gR_i p0.1 p0.2) rfl
  refine ⟨z, M', e, ?_⟩
  have ha : alt ∈ [(some (0, -1, -1, 0, 0, 0), [], [(5, 1, (0, 9, 9, 0, 0, 0))]), (some (0, 0, 0, 0, 0, 0), [(4, 0, 0, 0, 0, 0), (0, 0, 5, 0, 0, 0), (0, 0, 5, 0, 0, 0)], [(5, 1, (0, 1, 1, 0, 0, 0)), (6, 0, (0, -2147483648, 2147483647, 0, 0, 0)), (7, 9, (0, 1, 6, 0, 0, 0))]), (some (0, 1, 1, 0, 0, 0), [(4, 0, 0, 0, 0, 0), (0, 0, 5, 0, 0, 0), (0, 0, 5, 0, 0, 0)], [(5, 1, (0, 1, 1, 0, 0, 0)), (6, 0, (0, -2147483648, 2147483647, 0, 0, 0)), (7, 9, (0, 1, 6, 0, 0, 0))])] := ha
  simp only [List.mem_cons, List.not_mem_nil, or_false] at ha
  rcases ha with rfl | rfl | rfl
  · obtain ⟨z2, e2, r⟩ := gW_int (show gW _ _ from q) (Nat.le_of_ble_eq_true rfl)
    cases e2
    have := gR0 r
    have w := gR0 (show gR (0, 9, 9, 0, 0, 0) (M' 5 1) from (p _ List.mem_cons_self).1)
    omega
  · obtain ⟨z2, e2, r⟩ := gW_int (show gW _ _ from q) (Nat.le_of_ble_eq_true rfl)
    cases e2
    have := gR0 r
    have w := gR0 (show gR (0, 1, 1, 0, 0, 0) (M' 5 1) from (p _ List.mem_cons_self).1)
    omega
  · obtain ⟨z2, e2, r⟩ := gW_int (show gW _ _ from q) (Nat.le_of_ble_eq_true rfl)
    cases e2
    have := gR0 r
    have w := gR0 (show gR (0, 1, 1, 0, 0, 0) (M' 5 1) from (p _ List.mem_cons_self).1)
    omega
theorem nu_X_swap_10 {d : Nat} (hd : 6 ≤ d) {M : pM} {a1 : Int} {a2 : Int} (hM : gM gAll M) (h1 : -2147483648 ≤ a1 ∧ a1 ≤ 2147483647) (h2 : -2147483648 ≤ a2 ∧ a2 ≤ 2147483647) (p0 : 10 ≤ M 5 1 ∧ M 5 1 ≤ 10) : ∃ z M', xF d 31 [.inr 2, .inl a1, .inl a2] M = rI z M' ∧ ((-1 ≤ z ∧ z ≤ -1 ∧ 10 ≤ M' 5 1 ∧ M' 5 1 ≤ 10) ∨ (0 ≤ z ∧ z ≤ 0 ∧ 1 ≤ M' 5 1 ∧ M' 5 1 ≤ 1) ∨ (1 ≤ z ∧ z ≤ 1 ∧ 1 ≤ M' 5 1 ∧ M' 5 1 ≤ 1)) := by
  have c0 : cOK gAll (xF d) 31 K_652 := (ct_of (d := d) ct_ok (show K_652 ∈ CT.getD 31 [] from (show CT.getD 31 [] = [K_642, K_643, K_644, K_645, K_646, K_647, K_648, K_649, K_650, K_651, K_652, K_653, K_408] from rfl) ▸ by simp) hd)
  obtain ⟨z, M', e, -, -, alt, ha, q, p⟩ := cOK_I c0 (A := [.inr 2, .inl a1, .inl a2]) (show aF2 gW [aRef 2, (0, -2147483648, 2147483647, 0, 0, 0), (0, -2147483648, 2147483647, 0, 0, 0)] [.inr 2, .inl a1, .inl a2] from ⟨gW_o, gW_i h1.1 h1.2, gW_i h2.1 h2.2, trivial⟩) hM (show gP0 [(5, 1, (0, 10, 10, 0, 0, 0))] M from fun e he => by
    simp only [List.mem_cons, List.not_mem_nil, or_false] at he
    rcases he with rfl
    · exact gR_i p0.1 p0.2) rfl
  refine ⟨z, M', e, ?_⟩
  have ha : alt ∈ [(some (0, -1, -1, 0, 0, 0), [], [(5, 1, (0, 10, 10, 0, 0, 0))]), (some (0, 0, 0, 0, 0, 0), [(4, 0, 0, 0, 0, 0), (0, 0, 5, 0, 0, 0), (0, 0, 5, 0, 0, 0)], [(5, 1, (0, 1, 1, 0, 0, 0)), (6, 0, (0, -2147483648, 2147483647, 0, 0, 0)), (7, 9, (0, 1, 6, 0, 0, 0))]), (some (0, 1, 1, 0, 0, 0), [(4, 0, 0, 0, 0, 0), (0, 0, 5, 0, 0, 0), (0, 0, 5, 0, 0, 0)], [(5, 1, (0, 1, 1, 0, 0, 0)), (6, 0, (0, -2147483648, 2147483647, 0, 0, 0)), (7, 9, (0, 1, 6, 0, 0, 0))])] := ha
  simp only [List.mem_cons, List.not_mem_nil, or_false] at ha
  rcases ha with rfl | rfl | rfl
  · obtain ⟨z2, e2, r⟩ := gW_int (show gW _ _ from q) (Nat.le_of_ble_eq_true rfl)
    cases e2
    have := gR0 r
    have w := gR0 (show gR (0, 10, 10, 0, 0, 0) (M' 5 1) from (p _ List.mem_cons_self).1)
    omega
  · obtain ⟨z2, e2, r⟩ := gW_int (show gW _ _ from q) (Nat.le_of_ble_eq_true rfl)
    cases e2
    have := gR0 r
    have w := gR0 (show gR (0, 1, 1, 0, 0, 0) (M' 5 1) from (p _ List.mem_cons_self).1)
    omega
  · obtain ⟨z2, e2, r⟩ := gW_int (show gW _ _ from q) (Nat.le_of_ble_eq_true rfl)
    cases e2
    have := gR0 r
    have w := gR0 (show gR (0, 1, 1, 0, 0, 0) (M' 5 1) from (p _ List.mem_cons_self).1)
    omega
theorem nu_X_swap_11 {d : Nat} (hd : 6 ≤ d) {M : pM} {a1 : Int} {a2 : Int} (hM : gM gAll M) (h1 : -2147483648 ≤ a1 ∧ a1 ≤ 2147483647) (h2 : -2147483648 ≤ a2 ∧ a2 ≤ 2147483647) (p0 : 11 ≤ M 5 1 ∧ M 5 1 ≤ 11) : ∃ z M', xF d 31 [.inr 2, .inl a1, .inl a2] M = rI z M' ∧ ((-1 ≤ z ∧ z ≤ -1 ∧ 11 ≤ M' 5 1 ∧ M' 5 1 ≤ 11) ∨ (0 ≤ z ∧ z ≤ 0 ∧ 1 ≤ M' 5 1 ∧ M' 5 1 ≤ 1) ∨ (1 ≤ z ∧ z ≤ 1 ∧ 1 ≤ M' 5 1 ∧ M' 5 1 ≤ 1)) := by
  have c0 : cOK gAll (xF d) 31 K_653 := (ct_of (d := d) ct_ok (show K_653 ∈ CT.getD 31 [] from (show CT.getD 31 [] = [K_642, K_643, K_644, K_645, K_646, K_647, K_648, K_649, K_650, K_651, K_652, K_653, K_408] from rfl) ▸ by simp) hd)
  obtain ⟨z, M', e, -, -, alt, ha, q, p⟩ := cOK_I c0 (A := [.inr 2, .inl a1, .inl a2]) (show aF2 gW [aRef 2, (0, -2147483648, 2147483647, 0, 0, 0), (0, -2147483648, 2147483647, 0, 0, 0)] [.inr 2, .inl a1, .inl a2] from ⟨gW_o, gW_i h1.1 h1.2, gW_i h2.1 h2.2, trivial⟩) hM (show gP0 [(5, 1, (0, 11, 11, 0, 0, 0))] M from fun e he => by
    simp only [List.mem_cons, List.not_mem_nil, or_false] at he
    rcases he with rfl
    · exact gR_i p0.1 p0.2) rfl
  refine ⟨z, M', e, ?_⟩
  have ha : alt ∈ [(some (0, -1, -1, 0, 0, 0), [], [(5, 1, (0, 11, 11, 0, 0, 0))]), (some (0, 0, 0, 0, 0, 0), [(4, 0, 0, 0, 0, 0), (0, 0, 5, 0, 0, 0), (0, 0, 5, 0, 0, 0)], [(5, 1, (0, 1, 1, 0, 0, 0)), (6, 0, (0, -2147483648, 2147483647, 0, 0, 0)), (7, 9, (0, 1, 6, 0, 0, 0))]), (some (0, 1, 1, 0, 0, 0), [(4, 0, 0, 0, 0, 0), (0, 0, 5, 0, 0, 0), (0, 0, 5, 0, 0, 0)], [(5, 1, (0, 1, 1, 0, 0, 0)), (6, 0, (0, -2147483648, 2147483647, 0, 0, 0)), (7, 9, (0, 1, 6, 0, 0, 0))])] := ha
  simp only [List.mem_cons, List.not_mem_nil, or_false] at ha
  rcases ha with rfl | rfl | rfl
  · obtain ⟨z2, e2, r⟩ := gW_int (show gW _ _ from q) (Nat.le_of_ble_eq_true rfl)
    cases e2
    have := gR0 r
    have w := gR0 (show gR (0, 11, 11, 0, 0, 0) (M' 5 1) from (p _ List.mem_cons_self).1)
    omega
  · obtain ⟨z2, e2, r⟩ := gW_int (show gW _ _ from q) (Nat.le_of_ble_eq_true rfl)
    cases e2
    have := gR0 r
    have w := gR0 (show gR (0, 1, 1, 0, 0, 0) (M' 5 1) from (p _ List.mem_cons_self).1)
    omega
  · obtain ⟨z2, e2, r⟩ := gW_int (show gW _ _ from q) (Nat.le_of_ble_eq_true rfl)
    cases e2
    have := gR0 r
    have w := gR0 (show gR (0, 1, 1, 0, 0, 0) (M' 5 1) from (p _ List.mem_cons_self).1)
    omega
theorem nu_X_swap {d : Nat} (hd : 6 ≤ d) {M M' : pM} {a1 : Int} {a2 : Int} {v : Int} (hM : gM gAll M) (h1 : -2147483648 ≤ a1 ∧ a1 ≤ 2147483647) (h2 : -2147483648 ≤ a2 ∧ a2 ≤ 2147483647) {n : Nat} (hn : n ≤ 11) (hc : M 5 1 = (n : Int)) (e : xF d 31 [.inr 2, .inl a1, .inl a2] M = rI v M') : (-1 ≤ v ∧ v ≤ -1 ∧ M' 5 1 = (n : Int)) ∨ (0 ≤ v ∧ v ≤ 0 ∧ M' 5 1 = 1) ∨ (1 ≤ v ∧ v ≤ 1 ∧ M' 5 1 = 1) := by
  rcases (show n = 0 ∨ n = 1 ∨ n = 2 ∨ n = 3 ∨ n = 4 ∨ n = 5 ∨ n = 6 ∨ n = 7 ∨ n = 8 ∨ n = 9 ∨ n = 10 ∨ n = 11 by omega) with rfl | rfl | rfl | rfl | rfl | rfl | rfl | rfl | rfl | rfl | rfl | rfl
  · obtain ⟨z, M2, e2, r⟩ := nu_X_swap_0 (d := d) (by omega) hM h1 h2 (by omega)
    obtain ⟨y1, y2⟩ := rI_inj (e.symm.trans e2)
    rw [y1, y2]
    omega
  · obtain ⟨z, M2, e2, r⟩ := nu_X_swap_1 (d := d) (by omega) hM h1 h2 (by omega)
    obtain ⟨y1, y2⟩ := rI_inj (e.symm.trans e2)
    rw [y1, y2]
    omega
  · obtain ⟨z, M2, e2, r⟩ := nu_X_swap_2 (d := d) (by omega) hM h1 h2 (by omega)
    obtain ⟨y1, y2⟩ := rI_inj (e.symm.trans e2)
    rw [y1, y2]
    omega
  · obtain ⟨z, M2, e2, r⟩ := nu_X_swap_3 (d := d) (by omega) hM h1 h2 (by omega)
    obtain ⟨y1, y2⟩ := rI_inj (e.symm.trans e2)
    rw [y1, y2]
    omega
  · obtain ⟨z, M2, e2, r⟩ := nu_X_swap_4 (d := d) (by omega) hM h1 h2 (by omega)
    obtain ⟨y1, y2⟩ := rI_inj (e.symm.trans e2)
    rw [y1, y2]
    omega
  · obtain ⟨z, M2, e2, r⟩ := nu_X_swap_5 (d := d) (by omega) hM h1 h2 (by omega)
    obtain ⟨y1, y2⟩ := rI_inj (e.symm.trans e2)
    rw [y1, y2]
    omega
  · obtain ⟨z, M2, e2, r⟩ := nu_X_swap_6 (d := d) (by omega) hM h1 h2 (by omega)
    obtain ⟨y1, y2⟩ := rI_inj (e.symm.trans e2)
    rw [y1, y2]
    omega
  · obtain ⟨z, M2, e2, r⟩ := nu_X_swap_7 (d := d) (by omega) hM h1 h2 (by omega)
    obtain ⟨y1, y2⟩ := rI_inj (e.symm.trans e2)
    rw [y1, y2]
    omega
  · obtain ⟨z, M2, e2, r⟩ := nu_X_swap_8 (d := d) (by omega) hM h1 h2 (by omega)
    obtain ⟨y1, y2⟩ := rI_inj (e.symm.trans e2)
    rw [y1, y2]
    omega
  · obtain ⟨z, M2, e2, r⟩ := nu_X_swap_9 (d := d) (by omega) hM h1 h2 (by omega)
    obtain ⟨y1, y2⟩ := rI_inj (e.symm.trans e2)
    rw [y1, y2]
    omega
  · obtain ⟨z, M2, e2, r⟩ := nu_X_swap_10 (d := d) (by omega) hM h1 h2 (by omega)
    obtain ⟨y1, y2⟩ := rI_inj (e.symm.trans e2)
    rw [y1, y2]
    omega
  · obtain ⟨z, M2, e2, r⟩ := nu_X_swap_11 (d := d) (by omega) hM h1 h2 (by omega)
    obtain ⟨y1, y2⟩ := rI_inj (e.symm.trans e2)
    rw [y1, y2]
    omega
theorem nu_X_sell_0 {d : Nat} (hd : 5 ≤ d) {M : pM} (hM : gM gAll M) (p0 : 0 ≤ M 5 1 ∧ M 5 1 ≤ 0) : ∃ z M', xF d 32 [.inr 2] M = rI z M' ∧ ((-3 ≤ z ∧ z ≤ -3 ∧ 0 ≤ M' 5 1 ∧ M' 5 1 ≤ 0) ∨ (0 ≤ z ∧ z ≤ 63 ∧ 1 ≤ M' 5 1 ∧ M' 5 1 ≤ 1)) := by
  have c0 : cOK gAll (xF d) 32 K_654 := (ct_of (d := d) ct_ok (show K_654 ∈ CT.getD 32 [] from (show CT.getD 32 [] = [K_654, K_655, K_656, K_657, K_658, K_659, K_660, K_661, K_662, K_663, K_664, K_665, K_410] from rfl) ▸ by simp) hd)
  obtain ⟨z, M', e, -, -, alt, ha, q, p⟩ := cOK_I c0 (A := [.inr 2]) (show aF2 gW [aRef 2] [.inr 2] from ⟨gW_o, trivial⟩) hM (show gP0 [(5, 1, (0, 0, 0, 0, 0, 0))] M from fun e he => by
    simp only [List.mem_cons, List.not_mem_nil, or_false] at he
    rcases he with rfl
    · exact gR_i p0.1 p0.2) rfl
  refine ⟨z, M', e, ?_⟩
  have ha : alt ∈ [(some (0, -3, -3, 0, 0, 0), [], [(5, 1, (0, 0, 0, 0, 0, 0))]), (some (0, 0, 63, 0, 0, 0), [], [(5, 1, (0, 1, 1, 0, 0, 0)), (6, 0, (0, -2147483648, 2147483647, 0, 0, 0))])] := ha
  simp only [List.mem_cons, List.not_mem_nil, or_false] at ha
  rcases ha with rfl | rfl
  · obtain ⟨z2, e2, r⟩ := gW_int (show gW _ _ from q) (Nat.le_of_ble_eq_true rfl)
    cases e2
    have := gR0 r
    have w := gR0 (show gR (0, 0, 0, 0, 0, 0) (M' 5 1) from (p _ List.mem_cons_self).1)
    omega
  · obtain ⟨z2, e2, r⟩ := gW_int (show gW _ _ from q) (Nat.le_of_ble_eq_true rfl)
    cases e2
    have := gR0 r
    have w := gR0 (show gR (0, 1, 1, 0, 0, 0) (M' 5 1) from (p _ List.mem_cons_self).1)
    omega
theorem nu_X_sell_1 {d : Nat} (hd : 5 ≤ d) {M : pM} (hM : gM gAll M) (p0 : 1 ≤ M 5 1 ∧ M 5 1 ≤ 1) : ∃ z M', xF d 32 [.inr 2] M = rI z M' ∧ ((-3 ≤ z ∧ z ≤ -3 ∧ 1 ≤ M' 5 1 ∧ M' 5 1 ≤ 1) ∨ (0 ≤ z ∧ z ≤ 63 ∧ 1 ≤ M' 5 1 ∧ M' 5 1 ≤ 1)) := by
  have c0 : cOK gAll (xF d) 32 K_655 := (ct_of (d := d) ct_ok (show K_655 ∈ CT.getD 32 [] from (show CT.getD 32 [] = [K_654, K_655, K_656, K_657, K_658, K_659, K_660, K_661, K_662, K_663, K_664, K_665, K_410] from rfl) ▸ by simp) hd)
  obtain ⟨z, M', e, -, -, alt, ha, q, p⟩ := cOK_I c0 (A := [.inr 2]) (show aF2 gW [aRef 2] [.inr 2] from ⟨gW_o, trivial⟩) hM (show gP0 [(5, 1, (0, 1, 1, 0, 0, 0))] M from fun e he => by
    simp only [List.mem_cons, List.not_mem_nil, or_false] at he
    rcases he with rfl
    · exact gR_i p0.1 p0.2) rfl
  refine ⟨z, M', e, ?_⟩
  have ha : alt ∈ [(some (0, -3, -3, 0, 0, 0), [], [(5, 1, (0, 1, 1, 0, 0, 0))]), (some (0, 0, 63, 0, 0, 0), [], [(5, 1, (0, 1, 1, 0, 0, 0)), (6, 0, (0, -2147483648, 2147483647, 0, 0, 0))])] := ha
  simp only [List.mem_cons, List.not_mem_nil, or_false] at ha
  rcases ha with rfl | rfl
  · obtain ⟨z2, e2, r⟩ := gW_int (show gW _ _ from q) (Nat.le_of_ble_eq_true rfl)
    cases e2
    have := gR0 r
    have w := gR0 (show gR (0, 1, 1, 0, 0, 0) (M' 5 1) from (p _ List.mem_cons_self).1)
    omega
  · obtain ⟨z2, e2, r⟩ := gW_int (show gW _ _ from q) (Nat.le_of_ble_eq_true rfl)
    cases e2
    have := gR0 r
    have w := gR0 (show gR (0, 1, 1, 0, 0, 0) (M' 5 1) from (p _ List.mem_cons_self).1)
    omega
theorem nu_X_sell_2 {d : Nat} (hd : 5 ≤ d) {M : pM} (hM : gM gAll M) (p0 : 2 ≤ M 5 1 ∧ M 5 1 ≤ 2) : ∃ z M', xF d 32 [.inr 2] M = rI z M' ∧ ((-3 ≤ z ∧ z ≤ -3 ∧ 2 ≤ M' 5 1 ∧ M' 5 1 ≤ 2) ∨ (0 ≤ z ∧ z ≤ 63 ∧ 1 ≤ M' 5 1 ∧ M' 5 1 ≤ 1)) := by
  have c0 : cOK gAll (xF d) 32 K_656 := (ct_of (d := d) ct_ok (show K_656 ∈ CT.getD 32 [] from (show CT.getD 32 [] = [K_654, K_655, K_656, K_657, K_658, K_659, K_660, K_661, K_662, K_663, K_664, K_665, K_410] from rfl) ▸ by simp) hd)
  obtain ⟨z, M', e, -, -, alt, ha, q, p⟩ := cOK_I c0 (A := [.inr 2]) (show aF2 gW [aRef 2] [.inr 2] from ⟨gW_o, trivial⟩) hM (show gP0 [(5, 1, (0, 2, 2, 0, 0, 0))] M from fun e he => by
    simp only [List.mem_cons, List.not_mem_nil, or_false] at he
    rcases he with rfl
    · exact gR_i p0.1 p0.2) rfl
  refine ⟨z, M', e, ?_⟩
  have ha : alt ∈ [(some (0, -3, -3, 0, 0, 0), [], [(5, 1, (0, 2, 2, 0, 0, 0))]), (some (0, 0, 63, 0, 0, 0), [], [(5, 1, (0, 1, 1, 0, 0, 0)), (6, 0, (0, -2147483648, 2147483647, 0, 0, 0))])] := ha
  simp only [List.mem_cons, List.not_mem_nil, or_false] at ha
  rcases ha with rfl | rfl
  · obtain ⟨z2, e2, r⟩ := gW_int (show gW _ _ from q) (Nat.le_of_ble_eq_true rfl)
    cases e2
    have := gR0 r
    have w := gR0 (show gR (0, 2, 2, 0, 0, 0) (M' 5 1) from (p _ List.mem_cons_self).1)
    omega
  · obtain ⟨z2, e2, r⟩ := gW_int (show gW _ _ from q) (Nat.le_of_ble_eq_true rfl)
    cases e2
    have := gR0 r
    have w := gR0 (show gR (0, 1, 1, 0, 0, 0) (M' 5 1) from (p _ List.mem_cons_self).1)
    omega
theorem nu_X_sell_3 {d : Nat} (hd : 5 ≤ d) {M : pM} (hM : gM gAll M) (p0 : 3 ≤ M 5 1 ∧ M 5 1 ≤ 3) : ∃ z M', xF d 32 [.inr 2] M = rI z M' ∧ ((-3 ≤ z ∧ z ≤ -3 ∧ 3 ≤ M' 5 1 ∧ M' 5 1 ≤ 3) ∨ (0 ≤ z ∧ z ≤ 63 ∧ 1 ≤ M' 5 1 ∧ M' 5 1 ≤ 1)) := by
  have c0 : cOK gAll (xF d) 32 K_657 := (ct_of (d := d) ct_ok (show K_657 ∈ CT.getD 32 [] from (show CT.getD 32 [] = [K_654, K_655, K_656, K_657, K_658, K_659, K_660, K_661, K_662, K_663, K_664, K_665, K_410] from rfl) ▸ by simp) hd)
  obtain ⟨z, M', e, -, -, alt, ha, q, p⟩ := cOK_I c0 (A := [.inr 2]) (show aF2 gW [aRef 2] [.inr 2] from ⟨gW_o, trivial⟩) hM (show gP0 [(5, 1, (0, 3, 3, 0, 0, 0))] M from fun e he => by
    simp only [List.mem_cons, List.not_mem_nil, or_false] at he
    rcases he with rfl
    · exact gR_i p0.1 p0.2) rfl
  refine ⟨z, M', e, ?_⟩
  have ha : alt ∈ [(some (0, -3, -3, 0, 0, 0), [], [(5, 1, (0, 3, 3, 0, 0, 0))]), (some (0, 0, 63, 0, 0, 0), [], [(5, 1, (0, 1, 1, 0, 0, 0)), (6, 0, (0, -2147483648, 2147483647, 0, 0, 0))])] := ha
  simp only [List.mem_cons, List.not_mem_nil, or_false] at ha
  rcases ha with rfl | rfl
  · obtain ⟨z2, e2, r⟩ := gW_int (show gW _ _ from q) (Nat.le_of_ble_eq_true rfl)
    cases e2
    have := gR0 r
    have w := gR0 (show gR (0, 3, 3, 0, 0, 0) (M' 5 1) from (p _ List.mem_cons_self).1)
    omega
  · obtain ⟨z2, e2, r⟩ := gW_int (show gW _ _ from q) (Nat.le_of_ble_eq_true rfl)
    cases e2
    have := gR0 r
    have w := gR0 (show gR (0, 1, 1, 0, 0, 0) (M' 5 1) from (p _ List.mem_cons_self).1)
    omega
theorem nu_X_sell_4 {d : Nat} (hd : 5 ≤ d) {M : pM} (hM : gM gAll M) (p0 : 4 ≤ M 5 1 ∧ M 5 1 ≤ 4) : ∃ z M', xF d 32 [.inr 2] M = rI z M' ∧ ((-3 ≤ z ∧ z ≤ -3 ∧ 4 ≤ M' 5 1 ∧ M' 5 1 ≤ 4) ∨ (0 ≤ z ∧ z ≤ 63 ∧ 1 ≤ M' 5 1 ∧ M' 5 1 ≤ 1)) := by
  have c0 : cOK gAll (xF d) 32 K_658 := (ct_of (d := d) ct_ok (show K_658 ∈ CT.getD 32 [] from (show CT.getD 32 [] = [K_654, K_655, K_656, K_657, K_658, K_659, K_660, K_661, K_662, K_663, K_664, K_665, K_410] from rfl) ▸ by simp) hd)
  obtain ⟨z, M', e, -, -, alt, ha, q, p⟩ := cOK_I c0 (A := [.inr 2]) (show aF2 gW [aRef 2] [.inr 2] from ⟨gW_o, trivial⟩) hM (show gP0 [(5, 1, (0, 4, 4, 0, 0, 0))] M from fun e he => by
    simp only [List.mem_cons, List.not_mem_nil, or_false] at he
    rcases he with rfl
    · exact gR_i p0.1 p0.2) rfl
  refine ⟨z, M', e, ?_⟩
  have ha : alt ∈ [(some (0, -3, -3, 0, 0, 0), [], [(5, 1, (0, 4, 4, 0, 0, 0))]), (some (0, 0, 63, 0, 0, 0), [], [(5, 1, (0, 1, 1, 0, 0, 0)), (6, 0, (0, -2147483648, 2147483647, 0, 0, 0))])] := ha
  simp only [List.mem_cons, List.not_mem_nil, or_false] at ha
  rcases ha with rfl | rfl
  · obtain ⟨z2, e2, r⟩ := gW_int (show gW _ _ from q) (Nat.le_of_ble_eq_true rfl)
    cases e2
    have := gR0 r
    have w := gR0 (show gR (0, 4, 4, 0, 0, 0) (M' 5 1) from (p _ List.mem_cons_self).1)
    omega
  · obtain ⟨z2, e2, r⟩ := gW_int (show gW _ _ from q) (Nat.le_of_ble_eq_true rfl)
    cases e2
    have := gR0 r
    have w := gR0 (show gR (0, 1, 1, 0, 0, 0) (M' 5 1) from (p _ List.mem_cons_self).1)
    omega
theorem nu_X_sell_5 {d : Nat} (hd : 5 ≤ d) {M : pM} (hM : gM gAll M) (p0 : 5 ≤ M 5 1 ∧ M 5 1 ≤ 5) : ∃ z M', xF d 32 [.inr 2] M = rI z M' ∧ ((-3 ≤ z ∧ z ≤ -3 ∧ 5 ≤ M' 5 1 ∧ M' 5 1 ≤ 5) ∨ (0 ≤ z ∧ z ≤ 63 ∧ 1 ≤ M' 5 1 ∧ M' 5 1 ≤ 1)) := by
  have c0 : cOK gAll (xF d) 32 K_659 := (ct_of (d := d) ct_ok (show K_659 ∈ CT.getD 32 [] from (show CT.getD 32 [] = [K_654, K_655, K_656, K_657, K_658, K_659, K_660, K_661, K_662, K_663, K_664, K_665, K_410] from rfl) ▸ by simp) hd)
  obtain ⟨z, M', e, -, -, alt, ha, q, p⟩ := cOK_I c0 (A := [.inr 2]) (show aF2 gW [aRef 2] [.inr 2] from ⟨gW_o, trivial⟩) hM (show gP0 [(5, 1, (0, 5, 5, 0, 0, 0))] M from fun e he => by
    simp only [List.mem_cons, List.not_mem_nil, or_false] at he
    rcases he with rfl
    · exact gR_i p0.1 p0.2) rfl
  refine ⟨z, M', e, ?_⟩
  have ha : alt ∈ [(some (0, -3, -3, 0, 0, 0), [], [(5, 1, (0, 5, 5, 0, 0, 0))]), (some (0, 0, 63, 0, 0, 0), [], [(5, 1, (0, 1, 1, 0, 0, 0)), (6, 0, (0, -2147483648, 2147483647, 0, 0, 0))])] := ha
  simp only [List.mem_cons, List.not_mem_nil, or_false] at ha
  rcases ha with rfl | rfl
  · obtain ⟨z2, e2, r⟩ := gW_int (show gW _ _ from q) (Nat.le_of_ble_eq_true rfl)
    cases e2
    have := gR0 r
    have w := gR0 (show gR (0, 5, 5, 0, 0, 0) (M' 5 1) from (p _ List.mem_cons_self).1)
    omega
  · obtain ⟨z2, e2, r⟩ := gW_int (show gW _ _ from q) (Nat.le_of_ble_eq_true rfl)
    cases e2
    have := gR0 r
    have w := gR0 (show gR (0, 1, 1, 0, 0, 0) (M' 5 1) from (p _ List.mem_cons_self).1)
    omega
theorem nu_X_sell_6 {d : Nat} (hd : 5 ≤ d) {M : pM} (hM : gM gAll M) (p0 : 6 ≤ M 5 1 ∧ M 5 1 ≤ 6) : ∃ z M', xF d 32 [.inr 2] M = rI z M' ∧ ((-3 ≤ z ∧ z ≤ -3 ∧ 6 ≤ M' 5 1 ∧ M' 5 1 ≤ 6) ∨ (0 ≤ z ∧ z ≤ 63 ∧ 1 ≤ M' 5 1 ∧ M' 5 1 ≤ 1)) := by
  have c0 : cOK gAll (xF d) 32 K_660 := (ct_of (d := d) ct_ok (show K_660 ∈ CT.getD 32 [] from (show CT.getD 32 [] = [K_654, K_655, K_656, K_657, K_658, K_659, K_660, K_661, K_662, K_663, K_664, K_665, K_410] from rfl) ▸ by simp) hd)
  obtain ⟨z, M', e, -, -, alt, ha, q, p⟩ := cOK_I c0 (A := [.inr 2]) (show aF2 gW [aRef 2] [.inr 2] from ⟨gW_o, trivial⟩) hM (show gP0 [(5, 1, (0, 6, 6, 0, 0, 0))] M from fun e he => by
    simp only [List.mem_cons, List.not_mem_nil, or_false] at he
    rcases he with rfl
    · exact gR_i p0.1 p0.2) rfl
  refine ⟨z, M', e, ?_⟩
  have ha : alt ∈ [(some (0, -3, -3, 0, 0, 0), [], [(5, 1, (0, 6, 6, 0, 0, 0))]), (some (0, 0, 63, 0, 0, 0), [], [(5, 1, (0, 1, 1, 0, 0, 0)), (6, 0, (0, -2147483648, 2147483647, 0, 0, 0))])] := ha
  simp only [List.mem_cons, List.not_mem_nil, or_false] at ha
  rcases ha with rfl | rfl
  · obtain ⟨z2, e2, r⟩ := gW_int (show gW _ _ from q) (Nat.le_of_ble_eq_true rfl)
    cases e2
    have := gR0 r
    have w := gR0 (show gR (0, 6, 6, 0, 0, 0) (M' 5 1) from (p _ List.mem_cons_self).1)
    omega
  · obtain ⟨z2, e2, r⟩ := gW_int (show gW _ _ from q) (Nat.le_of_ble_eq_true rfl)
    cases e2
    have := gR0 r
    have w := gR0 (show gR (0, 1, 1, 0, 0, 0) (M' 5 1) from (p _ List.mem_cons_self).1)
    omega
theorem nu_X_sell_7 {d : Nat} (hd : 5 ≤ d) {M : pM} (hM : gM gAll M) (p0 : 7 ≤ M 5 1 ∧ M 5 1 ≤ 7) : ∃ z M', xF d 32 [.inr 2] M = rI z M' ∧ ((-3 ≤ z ∧ z ≤ -3 ∧ 7 ≤ M' 5 1 ∧ M' 5 1 ≤ 7) ∨ (0 ≤ z ∧ z ≤ 63 ∧ 1 ≤ M' 5 1 ∧ M' 5 1 ≤ 1)) := by
  have c0 : cOK gAll (xF d) 32 K_661 := (ct_of (d := d) ct_ok (show K_661 ∈ CT.getD 32 [] from (show CT.getD 32 [] = [K_654, K_655, K_656, K_657, K_658, K_659, K_660, K_661, K_662, K_663, K_664, K_665, K_410] from rfl) ▸ by simp) hd)
  obtain ⟨z, M', e, -, -, alt, ha, q, p⟩ := cOK_I c0 (A := [.inr 2]) (show aF2 gW [aRef 2] [.inr 2] from ⟨gW_o, trivial⟩) hM (show gP0 [(5, 1, (0, 7, 7, 0, 0, 0))] M from fun e he => by
    simp only [List.mem_cons, List.not_mem_nil, or_false] at he
    rcases he with rfl
    · exact gR_i p0.1 p0.2) rfl
  refine ⟨z, M', e, ?_⟩
  have ha : alt ∈ [(some (0, -3, -3, 0, 0, 0), [], [(5, 1, (0, 7, 7, 0, 0, 0))]), (some (0, 0, 63, 0, 0, 0), [], [(5, 1, (0, 1, 1, 0, 0, 0)), (6, 0, (0, -2147483648, 2147483647, 0, 0, 0))])] := ha
  simp only [List.mem_cons, List.not_mem_nil, or_false] at ha
  rcases ha with rfl | rfl
  · obtain ⟨z2, e2, r⟩ := gW_int (show gW _ _ from q) (Nat.le_of_ble_eq_true rfl)
    cases e2
    have := gR0 r
    have w := gR0 (show gR (0, 7, 7, 0, 0, 0) (M' 5 1) from (p _ List.mem_cons_self).1)
    omega
  · obtain ⟨z2, e2, r⟩ := gW_int (show gW _ _ from q) (Nat.le_of_ble_eq_true rfl)
    cases e2
    have := gR0 r
    have w := gR0 (show gR (0, 1, 1, 0, 0, 0) (M' 5 1) from (p _ List.mem_cons_self).1)
    omega
theorem nu_X_sell_8 {d : Nat} (hd : 5 ≤ d) {M : pM} (hM : gM gAll M) (p0 : 8 ≤ M 5 1 ∧ M 5 1 ≤ 8) : ∃ z M', xF d 32 [.inr 2] M = rI z M' ∧ ((-3 ≤ z ∧ z ≤ -3 ∧ 8 ≤ M' 5 1 ∧ M' 5 1 ≤ 8) ∨ (0 ≤ z ∧ z ≤ 63 ∧ 1 ≤ M' 5 1 ∧ M' 5 1 ≤ 1)) := by
  have c0 : cOK gAll (xF d) 32 K_662 := (ct_of (d := d) ct_ok (show K_662 ∈ CT.getD 32 [] from (show CT.getD 32 [] = [K_654, K_655, K_656, K_657, K_658, K_659, K_660, K_661, K_662, K_663, K_664, K_665, K_410] from rfl) ▸ by simp) hd)
  obtain ⟨z, M', e, -, -, alt, ha, q, p⟩ := cOK_I c0 (A := [.inr 2]) (show aF2 gW [aRef 2] [.inr 2] from ⟨gW_o, trivial⟩) hM (show gP0 [(5, 1, (0, 8, 8, 0, 0, 0))] M from fun e he => by
    simp only [List.mem_cons, List.not_mem_nil, or_false] at he
    rcases he with rfl
    · exact gR_i p0.1 p0.2) rfl
  refine ⟨z, M', e, ?_⟩
  have ha : alt ∈ [(some (0, -3, -3, 0, 0, 0), [], [(5, 1, (0, 8, 8, 0, 0, 0))]), (some (0, 0, 63, 0, 0, 0), [], [(5, 1, (0, 1, 1, 0, 0, 0)), (6, 0, (0, -2147483648, 2147483647, 0, 0, 0))])] := ha
  simp only [List.mem_cons, List.not_mem_nil, or_false] at ha
  rcases ha with rfl | rfl
  · obtain ⟨z2, e2, r⟩ := gW_int (show gW _ _ from q) (Nat.le_of_ble_eq_true rfl)
    cases e2
    have := gR0 r
    have w := gR0 (show gR (0, 8, 8, 0, 0, 0) (M' 5 1) from (p _ List.mem_cons_self).1)
    omega
  · obtain ⟨z2, e2, r⟩ := gW_int (show gW _ _ from q) (Nat.le_of_ble_eq_true rfl)
    cases e2
    have := gR0 r
    have w := gR0 (show gR (0, 1, 1, 0, 0, 0) (M' 5 1) from (p _ List.mem_cons_self).1)
    omega
theorem nu_X_sell_9 {d : Nat} (hd : 5 ≤ d) {M : pM} (hM : gM gAll M) (p0 : 9 ≤ M 5 1 ∧ M 5 1 ≤ 9) : ∃ z M', xF d 32 [.inr 2] M = rI z M' ∧ ((-3 ≤ z ∧ z ≤ -3 ∧ 9 ≤ M' 5 1 ∧ M' 5 1 ≤ 9) ∨ (0 ≤ z ∧ z ≤ 63 ∧ 1 ≤ M' 5 1 ∧ M' 5 1 ≤ 1)) := by
  have c0 : cOK gAll (xF d) 32 K_663 := (ct_of (d := d) ct_ok (show K_663 ∈ CT.getD 32 [] from (show CT.getD 32 [] = [K_654, K_655, K_656, K_657, K_658, K_659, K_660, K_661, K_662, K_663, K_664, K_665, K_410] from rfl) ▸ by simp) hd)
  obtain ⟨z, M', e, -, -, alt, ha, q, p⟩ := cOK_I c0 (A := [.inr 2]) (show aF2 gW [aRef 2] [.inr 2] from ⟨gW_o, trivial⟩) hM (show gP0 [(5, 1, (0, 9, 9, 0, 0, 0))] M from fun e he => by
    simp only [List.mem_cons, List.not_mem_nil, or_false] at he
    rcases he with rfl
    · exact gR_i p0.1 p0.2) rfl
  refine ⟨z, M', e, ?_⟩
  have ha : alt ∈ [(some (0, -3, -3, 0, 0, 0), [], [(5, 1, (0, 9, 9, 0, 0, 0))]), (some (0, 0, 63, 0, 0, 0), [], [(5, 1, (0, 1, 1, 0, 0, 0)), (6, 0, (0, -2147483648, 2147483647, 0, 0, 0))])] := ha
  simp only [List.mem_cons, List.not_mem_nil, or_false] at ha
  rcases ha with rfl | rfl
  · obtain ⟨z2, e2, r⟩ := gW_int (show gW _ _ from q) (Nat.le_of_ble_eq_true rfl)
    cases e2
    have := gR0 r
    have w := gR0 (show gR (0, 9, 9, 0, 0, 0) (M' 5 1) from (p _ List.mem_cons_self).1)
    omega
  · obtain ⟨z2, e2, r⟩ := gW_int (show gW _ _ from q) (Nat.le_of_ble_eq_true rfl)
    cases e2
    have := gR0 r
    have w := gR0 (show gR (0, 1, 1, 0, 0, 0) (M' 5 1) from (p _ List.mem_cons_self).1)
    omega
theorem nu_X_sell_10 {d : Nat} (hd : 5 ≤ d) {M : pM} (hM : gM gAll M) (p0 : 10 ≤ M 5 1 ∧ M 5 1 ≤ 10) : ∃ z M', xF d 32 [.inr 2] M = rI z M' ∧ ((-3 ≤ z ∧ z ≤ -3 ∧ 10 ≤ M' 5 1 ∧ M' 5 1 ≤ 10) ∨ (0 ≤ z ∧ z ≤ 63 ∧ 1 ≤ M' 5 1 ∧ M' 5 1 ≤ 1)) := by
  have c0 : cOK gAll (xF d) 32 K_664 := (ct_of (d := d) ct_ok (show K_664 ∈ CT.getD 32 [] from (show CT.getD 32 [] = [K_654, K_655, K_656, K_657, K_658, K_659, K_660, K_661, K_662, K_663, K_664, K_665, K_410] from rfl) ▸ by simp) hd)
  obtain ⟨z, M', e, -, -, alt, ha, q, p⟩ := cOK_I c0 (A := [.inr 2]) (show aF2 gW [aRef 2] [.inr 2] from ⟨gW_o, trivial⟩) hM (show gP0 [(5, 1, (0, 10, 10, 0, 0, 0))] M from fun e he => by
    simp only [List.mem_cons, List.not_mem_nil, or_false] at he
    rcases he with rfl
    · exact gR_i p0.1 p0.2) rfl
  refine ⟨z, M', e, ?_⟩
  have ha : alt ∈ [(some (0, -3, -3, 0, 0, 0), [], [(5, 1, (0, 10, 10, 0, 0, 0))]), (some (0, 0, 63, 0, 0, 0), [], [(5, 1, (0, 1, 1, 0, 0, 0)), (6, 0, (0, -2147483648, 2147483647, 0, 0, 0))])] := ha
  simp only [List.mem_cons, List.not_mem_nil, or_false] at ha
  rcases ha with rfl | rfl
  · obtain ⟨z2, e2, r⟩ := gW_int (show gW _ _ from q) (Nat.le_of_ble_eq_true rfl)
    cases e2
    have := gR0 r
    have w := gR0 (show gR (0, 10, 10, 0, 0, 0) (M' 5 1) from (p _ List.mem_cons_self).1)
    omega
  · obtain ⟨z2, e2, r⟩ := gW_int (show gW _ _ from q) (Nat.le_of_ble_eq_true rfl)
    cases e2
    have := gR0 r
    have w := gR0 (show gR (0, 1, 1, 0, 0, 0) (M' 5 1) from (p _ List.mem_cons_self).1)
    omega
theorem nu_X_sell_11 {d : Nat} (hd : 5 ≤ d) {M : pM} (hM : gM gAll M) (p0 : 11 ≤ M 5 1 ∧ M 5 1 ≤ 11) : ∃ z M', xF d 32 [.inr 2] M = rI z M' ∧ ((-3 ≤ z ∧ z ≤ -3 ∧ 11 ≤ M' 5 1 ∧ M' 5 1 ≤ 11) ∨ (0 ≤ z ∧ z ≤ 63 ∧ 1 ≤ M' 5 1 ∧ M' 5 1 ≤ 1)) := by
  have c0 : cOK gAll (xF d) 32 K_665 := (ct_of (d := d) ct_ok (show K_665 ∈ CT.getD 32 [] from (show CT.getD 32 [] = [K_654, K_655, K_656, K_657, K_658, K_659, K_660, K_661, K_662, K_663, K_664, K_665, K_410] from rfl) ▸ by simp) hd)
  obtain ⟨z, M', e, -, -, alt, ha, q, p⟩ := cOK_I c0 (A := [.inr 2]) (show aF2 gW [aRef 2] [.inr 2] from ⟨gW_o, trivial⟩) hM (show gP0 [(5, 1, (0, 11, 11, 0, 0, 0))] M from fun e he => by
    simp only [List.mem_cons, List.not_mem_nil, or_false] at he
    rcases he with rfl
    · exact gR_i p0.1 p0.2) rfl
  refine ⟨z, M', e, ?_⟩
  have ha : alt ∈ [(some (0, -3, -3, 0, 0, 0), [], [(5, 1, (0, 11, 11, 0, 0, 0))]), (some (0, 0, 63, 0, 0, 0), [], [(5, 1, (0, 1, 1, 0, 0, 0)), (6, 0, (0, -2147483648, 2147483647, 0, 0, 0))])] := ha
  simp only [List.mem_cons, List.not_mem_nil, or_false] at ha
  rcases ha with rfl | rfl
  · obtain ⟨z2, e2, r⟩ := gW_int (show gW _ _ from q) (Nat.le_of_ble_eq_true rfl)
    cases e2
    have := gR0 r
    have w := gR0 (show gR (0, 11, 11, 0, 0, 0) (M' 5 1) from (p _ List.mem_cons_self).1)
    omega
  · obtain ⟨z2, e2, r⟩ := gW_int (show gW _ _ from q) (Nat.le_of_ble_eq_true rfl)
    cases e2
    have := gR0 r
    have w := gR0 (show gR (0, 1, 1, 0, 0, 0) (M' 5 1) from (p _ List.mem_cons_self).1)
    omega
theorem nu_X_sell {d : Nat} (hd : 5 ≤ d) {M M' : pM} {v : Int} (hM : gM gAll M) {n : Nat} (hn : n ≤ 11) (hc : M 5 1 = (n : Int)) (e : xF d 32 [.inr 2] M = rI v M') : (-3 ≤ v ∧ v ≤ -3 ∧ M' 5 1 = (n : Int)) ∨ (0 ≤ v ∧ v ≤ 63 ∧ M' 5 1 = 1) := by
  rcases (show n = 0 ∨ n = 1 ∨ n = 2 ∨ n = 3 ∨ n = 4 ∨ n = 5 ∨ n = 6 ∨ n = 7 ∨ n = 8 ∨ n = 9 ∨ n = 10 ∨ n = 11 by omega) with rfl | rfl | rfl | rfl | rfl | rfl | rfl | rfl | rfl | rfl | rfl | rfl
  · obtain ⟨z, M2, e2, r⟩ := nu_X_sell_0 (d := d) (by omega) hM (by omega)
    obtain ⟨y1, y2⟩ := rI_inj (e.symm.trans e2)
    rw [y1, y2]
    omega
  · obtain ⟨z, M2, e2, r⟩ := nu_X_sell_1 (d := d) (by omega) hM (by omega)
    obtain ⟨y1, y2⟩ := rI_inj (e.symm.trans e2)
    rw [y1, y2]
    omega
  · obtain ⟨z, M2, e2, r⟩ := nu_X_sell_2 (d := d) (by omega) hM (by omega)
    obtain ⟨y1, y2⟩ := rI_inj (e.symm.trans e2)
    rw [y1, y2]
    omega
  · obtain ⟨z, M2, e2, r⟩ := nu_X_sell_3 (d := d) (by omega) hM (by omega)
    obtain ⟨y1, y2⟩ := rI_inj (e.symm.trans e2)
    rw [y1, y2]
    omega
  · obtain ⟨z, M2, e2, r⟩ := nu_X_sell_4 (d := d) (by omega) hM (by omega)
    obtain ⟨y1, y2⟩ := rI_inj (e.symm.trans e2)
    rw [y1, y2]
    omega
  · obtain ⟨z, M2, e2, r⟩ := nu_X_sell_5 (d := d) (by omega) hM (by omega)
    obtain ⟨y1, y2⟩ := rI_inj (e.symm.trans e2)
    rw [y1, y2]
    omega
  · obtain ⟨z, M2, e2, r⟩ := nu_X_sell_6 (d := d) (by omega) hM (by omega)
    obtain ⟨y1, y2⟩ := rI_inj (e.symm.trans e2)
    rw [y1, y2]
    omega
  · obtain ⟨z, M2, e2, r⟩ := nu_X_sell_7 (d := d) (by omega) hM (by omega)
    obtain ⟨y1, y2⟩ := rI_inj (e.symm.trans e2)
    rw [y1, y2]
    omega
  · obtain ⟨z, M2, e2, r⟩ := nu_X_sell_8 (d := d) (by omega) hM (by omega)
    obtain ⟨y1, y2⟩ := rI_inj (e.symm.trans e2)
    rw [y1, y2]
    omega
  · obtain ⟨z, M2, e2, r⟩ := nu_X_sell_9 (d := d) (by omega) hM (by omega)
    obtain ⟨y1, y2⟩ := rI_inj (e.symm.trans e2)
    rw [y1, y2]
    omega
  · obtain ⟨z, M2, e2, r⟩ := nu_X_sell_10 (d := d) (by omega) hM (by omega)
    obtain ⟨y1, y2⟩ := rI_inj (e.symm.trans e2)
    rw [y1, y2]
    omega
  · obtain ⟨z, M2, e2, r⟩ := nu_X_sell_11 (d := d) (by omega) hM (by omega)
    obtain ⟨y1, y2⟩ := rI_inj (e.symm.trans e2)
    rw [y1, y2]
    omega
theorem nu_X_hinge_0 {d : Nat} (hd : 5 ≤ d) {M : pM} {a1 : Int} (hM : gM gAll M) (h1 : -2147483648 ≤ a1 ∧ a1 ≤ 2147483647) (p0 : 0 ≤ M 5 1 ∧ M 5 1 ≤ 0) : ∃ z M', xF d 37 [.inr 2, .inl a1] M = rI z M' ∧ ((-1 ≤ z ∧ z ≤ -1 ∧ 0 ≤ M' 5 1 ∧ M' 5 1 ≤ 0) ∨ (-2 ≤ z ∧ z ≤ -2 ∧ 0 ≤ M' 5 1 ∧ M' 5 1 ≤ 0) ∨ (0 ≤ z ∧ z ≤ 5 ∧ 2 ≤ M' 5 1 ∧ M' 5 1 ≤ 2)) := by
  have c0 : cOK gAll (xF d) 37 K_666 := (ct_of (d := d) ct_ok (show K_666 ∈ CT.getD 37 [] from (show CT.getD 37 [] = [K_666, K_667, K_668, K_669, K_670, K_671, K_672, K_673, K_674, K_675, K_676, K_677, K_422] from rfl) ▸ by simp) hd)
  obtain ⟨z, M', e, -, -, alt, ha, q, p⟩ := cOK_I c0 (A := [.inr 2, .inl a1]) (show aF2 gW [aRef 2, (0, -2147483648, 2147483647, 0, 0, 0)] [.inr 2, .inl a1] from ⟨gW_o, gW_i h1.1 h1.2, trivial⟩) hM (show gP0 [(5, 1, (0, 0, 0, 0, 0, 0))] M from fun e he => by
    simp only [List.mem_cons, List.not_mem_nil, or_false] at he
    rcases he with rfl
    · exact gR_i p0.1 p0.2) rfl
  refine ⟨z, M', e, ?_⟩
  have ha : alt ∈ [(some (0, -1, -1, 0, 0, 0), [], [(5, 1, (0, 0, 0, 0, 0, 0))]), (some (0, -2, -2, 0, 0, 0), [(4, 0, 0, 0, 0, 0), (0, 0, 5, 0, 0, 0)], [(5, 1, (0, 0, 0, 0, 0, 0)), (7, 9, (0, 1, 6, 0, 0, 0))]), (some (0, 0, 5, 0, 0, 0), [(4, 0, 0, 0, 0, 0), (0, 0, 5, 0, 0, 0)], [(5, 1, (0, 2, 2, 0, 0, 0)), (7, 9, (0, 1, 6, 0, 0, 0))])] := ha
  simp only [List.mem_cons, List.not_mem_nil, or_false] at ha
  rcases ha with rfl | rfl | rfl
  · obtain ⟨z2, e2, r⟩ := gW_int (show gW _ _ from q) (Nat.le_of_ble_eq_true rfl)
    cases e2
    have := gR0 r
    have w := gR0 (show gR (0, 0, 0, 0, 0, 0) (M' 5 1) from (p _ List.mem_cons_self).1)
    omega
  · obtain ⟨z2, e2, r⟩ := gW_int (show gW _ _ from q) (Nat.le_of_ble_eq_true rfl)
    cases e2
    have := gR0 r
    have w := gR0 (show gR (0, 0, 0, 0, 0, 0) (M' 5 1) from (p _ List.mem_cons_self).1)
    omega
  · obtain ⟨z2, e2, r⟩ := gW_int (show gW _ _ from q) (Nat.le_of_ble_eq_true rfl)
    cases e2
    have := gR0 r
    have w := gR0 (show gR (0, 2, 2, 0, 0, 0) (M' 5 1) from (p _ List.mem_cons_self).1)
    omega
theorem nu_X_hinge_1 {d : Nat} (hd : 5 ≤ d) {M : pM} {a1 : Int} (hM : gM gAll M) (h1 : -2147483648 ≤ a1 ∧ a1 ≤ 2147483647) (p0 : 1 ≤ M 5 1 ∧ M 5 1 ≤ 1) : ∃ z M', xF d 37 [.inr 2, .inl a1] M = rI z M' ∧ ((-1 ≤ z ∧ z ≤ -1 ∧ 1 ≤ M' 5 1 ∧ M' 5 1 ≤ 1) ∨ (-2 ≤ z ∧ z ≤ -2 ∧ 1 ≤ M' 5 1 ∧ M' 5 1 ≤ 1) ∨ (0 ≤ z ∧ z ≤ 5 ∧ 2 ≤ M' 5 1 ∧ M' 5 1 ≤ 2)) := by
  have c0 : cOK gAll (xF d) 37 K_667 := (ct_of (d := d) ct_ok (show K_667 ∈ CT.getD 37 [] from (show CT.getD 37 [] = [K_666, K_667, K_668, K_669, K_670, K_671, K_672, K_673, K_674, K_675, K_676, K_677, K_422] from rfl) ▸ by simp) hd)
  obtain ⟨z, M', e, -, -, alt, ha, q, p⟩ := cOK_I c0 (A := [.inr 2, .inl a1]) (show aF2 gW [aRef 2, (0, -2147483648, 2147483647, 0, 0, 0)] [.inr 2, .inl a1] from ⟨gW_o, gW_i h1.1 h1.2, trivial⟩) hM (show gP0 [(5, 1, (0, 1, 1, 0, 0, 0))] M from fun e he => by
    simp only [List.mem_cons, List.not_mem_nil, or_false] at he
    rcases he with rfl
    · exact gR_i p0.1 p0.2) rfl
  refine ⟨z, M', e, ?_⟩
  have ha : alt ∈ [(some (0, -1, -1, 0, 0, 0), [], [(5, 1, (0, 1, 1, 0, 0, 0))]), (some (0, -2, -2, 0, 0, 0), [(4, 0, 0, 0, 0, 0), (0, 0, 5, 0, 0, 0)], [(5, 1, (0, 1, 1, 0, 0, 0)), (7, 9, (0, 1, 6, 0, 0, 0))]), (some (0, 0, 5, 0, 0, 0), [(4, 0, 0, 0, 0, 0), (0, 0, 5, 0, 0, 0)], [(5, 1, (0, 2, 2, 0, 0, 0)), (7, 9, (0, 1, 6, 0, 0, 0))])] := ha
  simp only [List.mem_cons, List.not_mem_nil, or_false] at ha
  rcases ha with rfl | rfl | rfl
  · obtain ⟨z2, e2, r⟩ := gW_int (show gW _ _ from q) (Nat.le_of_ble_eq_true rfl)
    cases e2
    have := gR0 r
    have w := gR0 (show gR (0, 1, 1, 0, 0, 0) (M' 5 1) from (p _ List.mem_cons_self).1)
    omega
  · obtain ⟨z2, e2, r⟩ := gW_int (show gW _ _ from q) (Nat.le_of_ble_eq_true rfl)
    cases e2
    have := gR0 r
    have w := gR0 (show gR (0, 1, 1, 0, 0, 0) (M' 5 1) from (p _ List.mem_cons_self).1)
    omega
  · obtain ⟨z2, e2, r⟩ := gW_int (show gW _ _ from q) (Nat.le_of_ble_eq_true rfl)
    cases e2
    have := gR0 r
    have w := gR0 (show gR (0, 2, 2, 0, 0, 0) (M' 5 1) from (p _ List.mem_cons_self).1)
    omega
theorem nu_X_hinge_2 {d : Nat} (hd : 5 ≤ d) {M : pM} {a1 : Int} (hM : gM gAll M) (h1 : -2147483648 ≤ a1 ∧ a1 ≤ 2147483647) (p0 : 2 ≤ M 5 1 ∧ M 5 1 ≤ 2) : ∃ z M', xF d 37 [.inr 2, .inl a1] M = rI z M' ∧ ((-1 ≤ z ∧ z ≤ -1 ∧ 2 ≤ M' 5 1 ∧ M' 5 1 ≤ 2) ∨ (-2 ≤ z ∧ z ≤ -2 ∧ 2 ≤ M' 5 1 ∧ M' 5 1 ≤ 2) ∨ (0 ≤ z ∧ z ≤ 5 ∧ 2 ≤ M' 5 1 ∧ M' 5 1 ≤ 2)) := by
  have c0 : cOK gAll (xF d) 37 K_668 := (ct_of (d := d) ct_ok (show K_668 ∈ CT.getD 37 [] from (show CT.getD 37 [] = [K_666, K_667, K_668, K_669, K_670, K_671, K_672, K_673, K_674, K_675, K_676, K_677, K_422] from rfl) ▸ by simp) hd)
  obtain ⟨z, M', e, -, -, alt, ha, q, p⟩ := cOK_I c0 (A := [.inr 2, .inl a1]) (show aF2 gW [aRef 2, (0, -2147483648, 2147483647, 0, 0, 0)] [.inr 2, .inl a1] from ⟨gW_o, gW_i h1.1 h1.2, trivial⟩) hM (show gP0 [(5, 1, (0, 2, 2, 0, 0, 0))] M from fun e he => by
    simp only [List.mem_cons, List.not_mem_nil, or_false] at he
    rcases he with rfl
    · exact gR_i p0.1 p0.2) rfl
  refine ⟨z, M', e, ?_⟩
  have ha : alt ∈ [(some (0, -1, -1, 0, 0, 0), [], [(5, 1, (0, 2, 2, 0, 0, 0))]), (some (0, -2, -2, 0, 0, 0), [(4, 0, 0, 0, 0, 0), (0, 0, 5, 0, 0, 0)], [(5, 1, (0, 2, 2, 0, 0, 0)), (7, 9, (0, 1, 6, 0, 0, 0))]), (some (0, 0, 5, 0, 0, 0), [(4, 0, 0, 0, 0, 0), (0, 0, 5, 0, 0, 0)], [(5, 1, (0, 2, 2, 0, 0, 0)), (7, 9, (0, 1, 6, 0, 0, 0))])] := ha
  simp only [List.mem_cons, List.not_mem_nil, or_false] at ha
  rcases ha with rfl | rfl | rfl
  · obtain ⟨z2, e2, r⟩ := gW_int (show gW _ _ from q) (Nat.le_of_ble_eq_true rfl)
    cases e2
    have := gR0 r
    have w := gR0 (show gR (0, 2, 2, 0, 0, 0) (M' 5 1) from (p _ List.mem_cons_self).1)
    omega
  · obtain ⟨z2, e2, r⟩ := gW_int (show gW _ _ from q) (Nat.le_of_ble_eq_true rfl)
    cases e2
    have := gR0 r
    have w := gR0 (show gR (0, 2, 2, 0, 0, 0) (M' 5 1) from (p _ List.mem_cons_self).1)
    omega
  · obtain ⟨z2, e2, r⟩ := gW_int (show gW _ _ from q) (Nat.le_of_ble_eq_true rfl)
    cases e2
    have := gR0 r
    have w := gR0 (show gR (0, 2, 2, 0, 0, 0) (M' 5 1) from (p _ List.mem_cons_self).1)
    omega
theorem nu_X_hinge_3 {d : Nat} (hd : 5 ≤ d) {M : pM} {a1 : Int} (hM : gM gAll M) (h1 : -2147483648 ≤ a1 ∧ a1 ≤ 2147483647) (p0 : 3 ≤ M 5 1 ∧ M 5 1 ≤ 3) : ∃ z M', xF d 37 [.inr 2, .inl a1] M = rI z M' ∧ ((-1 ≤ z ∧ z ≤ -1 ∧ 3 ≤ M' 5 1 ∧ M' 5 1 ≤ 3) ∨ (-2 ≤ z ∧ z ≤ -2 ∧ 3 ≤ M' 5 1 ∧ M' 5 1 ≤ 3) ∨ (0 ≤ z ∧ z ≤ 5 ∧ 2 ≤ M' 5 1 ∧ M' 5 1 ≤ 2)) := by
  have c0 : cOK gAll (xF d) 37 K_669 := (ct_of (d := d) ct_ok (show K_669 ∈ CT.getD 37 [] from (show CT.getD 37 [] = [K_666, K_667, K_668, K_669, K_670, K_671, K_672, K_673, K_674, K_675, K_676, K_677, K_422] from rfl) ▸ by simp) hd)
  obtain ⟨z, M', e, -, -, alt, ha, q, p⟩ := cOK_I c0 (A := [.inr 2, .inl a1]) (show aF2 gW [aRef 2, (0, -2147483648, 2147483647, 0, 0, 0)] [.inr 2, .inl a1] from ⟨gW_o, gW_i h1.1 h1.2, trivial⟩) hM (show gP0 [(5, 1, (0, 3, 3, 0, 0, 0))] M from fun e he => by
    simp only [List.mem_cons, List.not_mem_nil, or_false] at he
    rcases he with rfl
    · exact gR_i p0.1 p0.2) rfl
  refine ⟨z, M', e, ?_⟩
  have ha : alt ∈ [(some (0, -1, -1, 0, 0, 0), [], [(5, 1, (0, 3, 3, 0, 0, 0))]), (some (0, -2, -2, 0, 0, 0), [(4, 0, 0, 0, 0, 0), (0, 0, 5, 0, 0, 0)], [(5, 1, (0, 3, 3, 0, 0, 0)), (7, 9, (0, 1, 6, 0, 0, 0))]), (some (0, 0, 5, 0, 0, 0), [(4, 0, 0, 0, 0, 0), (0, 0, 5, 0, 0, 0)], [(5, 1, (0, 2, 2, 0, 0, 0)), (7, 9, (0, 1, 6, 0, 0, 0))])] := ha
  simp only [List.mem_cons, List.not_mem_nil, or_false] at ha
  rcases ha with rfl | rfl | rfl
  · obtain ⟨z2, e2, r⟩ := gW_int (show gW _ _ from q) (Nat.le_of_ble_eq_true rfl)
    cases e2
    have := gR0 r
    have w := gR0 (show gR (0, 3, 3, 0, 0, 0) (M' 5 1) from (p _ List.mem_cons_self).1)
    omega
  · obtain ⟨z2, e2, r⟩ := gW_int (show gW _ _ from q) (Nat.le_of_ble_eq_true rfl)
    cases e2
    have := gR0 r
    have w := gR0 (show gR (0, 3, 3, 0, 0, 0) (M' 5 1) from (p _ List.mem_cons_self).1)
    omega
  · obtain ⟨z2, e2, r⟩ := gW_int (show gW _ _ from q) (Nat.le_of_ble_eq_true rfl)
    cases e2
    have := gR0 r
    have w := gR0 (show gR (0, 2, 2, 0, 0, 0) (M' 5 1) from (p _ List.mem_cons_self).1)
    omega
theorem nu_X_hinge_4 {d : Nat} (hd : 5 ≤ d) {M : pM} {a1 : Int} (hM : gM gAll M) (h1 : -2147483648 ≤ a1 ∧ a1 ≤ 2147483647) (p0 : 4 ≤ M 5 1 ∧ M 5 1 ≤ 4) : ∃ z M', xF d 37 [.inr 2, .inl a1] M = rI z M' ∧ ((-1 ≤ z ∧ z ≤ -1 ∧ 4 ≤ M' 5 1 ∧ M' 5 1 ≤ 4) ∨ (-2 ≤ z ∧ z ≤ -2 ∧ 4 ≤ M' 5 1 ∧ M' 5 1 ≤ 4) ∨ (0 ≤ z ∧ z ≤ 5 ∧ 2 ≤ M' 5 1 ∧ M' 5 1 ≤ 2)) := by
  have c0 : cOK gAll (xF d) 37 K_670 := (ct_of (d := d) ct_ok (show K_670 ∈ CT.getD 37 [] from (show CT.getD 37 [] = [K_666, K_667, K_668, K_669, K_670, K_671, K_672, K_673, K_674, K_675, K_676, K_677, K_422] from rfl) ▸ by simp) hd)
  obtain ⟨z, M', e, -, -, alt, ha, q, p⟩ := cOK_I c0 (A := [.inr 2, .inl a1]) (show aF2 gW [aRef 2, (0, -2147483648, 2147483647, 0, 0, 0)] [.inr 2, .inl a1] from ⟨gW_o, gW_i h1.1 h1.2, trivial⟩) hM (show gP0 [(5, 1, (0, 4, 4, 0, 0, 0))] M from fun e he => by
    simp only [List.mem_cons, List.not_mem_nil, or_false] at he
    rcases he with rfl
    · exact gR_i p0.1 p0.2) rfl
  refine ⟨z, M', e, ?_⟩
  have ha : alt ∈ [(some (0, -1, -1, 0, 0, 0), [], [(5, 1, (0, 4, 4, 0, 0, 0))]), (some (0, -2, -2, 0, 0, 0), [(4, 0, 0, 0, 0, 0), (0, 0, 5, 0, 0, 0)], [(5, 1, (0, 4, 4, 0, 0, 0)), (7, 9, (0, 1, 6, 0, 0, 0))]), (some (0, 0, 5, 0, 0, 0), [(4, 0, 0, 0, 0, 0), (0, 0, 5, 0, 0, 0)], [(5, 1, (0, 2, 2, 0, 0, 0)), (7, 9, (0, 1, 6, 0, 0, 0))])] := ha
  simp only [List.mem_cons, List.not_mem_nil, or_false] at ha
  rcases ha with rfl | rfl | rfl
  · obtain ⟨z2, e2, r⟩ := gW_int (show gW _ _ from q) (Nat.le_of_ble_eq_true rfl)
    cases e2
    have := gR0 r
    have w := gR0 (show gR (0, 4, 4, 0, 0, 0) (M' 5 1) from (p _ List.mem_cons_self).1)
    omega
  · obtain ⟨z2, e2, r⟩ := gW_int (show gW _ _ from q) (Nat.le_of_ble_eq_true rfl)
    cases e2
    have := gR0 r
    have w := gR0 (show gR (0, 4, 4, 0, 0, 0) (M' 5 1) from (p _ List.mem_cons_self).1)
    omega
  · obtain ⟨z2, e2, r⟩ := gW_int (show gW _ _ from q) (Nat.le_of_ble_eq_true rfl)
    cases e2
    have := gR0 r
    have w := gR0 (show gR (0, 2, 2, 0, 0, 0) (M' 5 1) from (p _ List.mem_cons_self).1)
    omega
theorem nu_X_hinge_5 {d : Nat} (hd : 5 ≤ d) {M : pM} {a1 : Int} (hM : gM gAll M) (h1 : -2147483648 ≤ a1 ∧ a1 ≤ 2147483647) (p0 : 5 ≤ M 5 1 ∧ M 5 1 ≤ 5) : ∃ z M', xF d 37 [.inr 2, .inl a1] M = rI z M' ∧ ((-1 ≤ z ∧ z ≤ -1 ∧ 5 ≤ M' 5 1 ∧ M' 5 1 ≤ 5) ∨ (-2 ≤ z ∧ z ≤ -2 ∧ 5 ≤ M' 5 1 ∧ M' 5 1 ≤ 5) ∨ (0 ≤ z ∧ z ≤ 5 ∧ 2 ≤ M' 5 1 ∧ M' 5 1 ≤ 2)) := by
  have c0 : cOK gAll (xF d) 37 K_671 := (ct_of (d := d) ct_ok (show K_671 ∈ CT.getD 37 [] from (show CT.getD 37 [] = [K_666, K_667, K_668, K_669, K_670, K_671, K_672, K_673, K_674, K_675, K_676, K_677, K_422] from rfl) ▸ by simp) hd)
  obtain ⟨z, M', e, -, -, alt, ha, q, p⟩ := cOK_I c0 (A := [.inr 2, .inl a1]) (show aF2 gW [aRef 2, (0, -2147483648, 2147483647, 0, 0, 0)] [.inr 2, .inl a1] from ⟨gW_o, gW_i h1.1 h1.2, trivial⟩) hM (show gP0 [(5, 1, (0, 5, 5, 0, 0, 0))] M from fun e he => by
    simp only [List.mem_cons, List.not_mem_nil, or_false] at he
    rcases he with rfl
    · exact gR_i p0.1 p0.2) rfl
  refine ⟨z, M', e, ?_⟩
  have ha : alt ∈ [(some (0, -1, -1, 0, 0, 0), [], [(5, 1, (0, 5, 5, 0, 0, 0))]), (some (0, -2, -2, 0, 0, 0), [(4, 0, 0, 0, 0, 0), (0, 0, 5, 0, 0, 0)], [(5, 1, (0, 5, 5, 0, 0, 0)), (7, 9, (0, 1, 6, 0, 0, 0))]), (some (0, 0, 5, 0, 0, 0), [(4, 0, 0, 0, 0, 0), (0, 0, 5, 0, 0, 0)], [(5, 1, (0, 2, 2, 0, 0, 0)), (7, 9, (0, 1, 6, 0, 0, 0))])] := ha
  simp only [List.mem_cons, List.not_mem_nil, or_false] at ha
  rcases ha with rfl | rfl | rfl
  · obtain ⟨z2, e2, r⟩ := gW_int (show gW _ _ from q) (Nat.le_of_ble_eq_true rfl)
    cases e2
    have := gR0 r
    have w := gR0 (show gR (0, 5, 5, 0, 0, 0) (M' 5 1) from (p _ List.mem_cons_self).1)
    omega
  · obtain ⟨z2, e2, r⟩ := gW_int (show gW _ _ from q) (Nat.le_of_ble_eq_true rfl)
    cases e2
    have := gR0 r
    have w := gR0 (show gR (0, 5, 5, 0, 0, 0) (M' 5 1) from (p _ List.mem_cons_self).1)
    omega
  · obtain ⟨z2, e2, r⟩ := gW_int (show gW _ _ from q) (Nat.le_of_ble_eq_true rfl)
    cases e2
    have := gR0 r
    have w := gR0 (show gR (0, 2, 2, 0, 0, 0) (M' 5 1) from (p _ List.mem_cons_self).1)
    omega
theorem nu_X_hinge_6 {d : Nat} (hd : 5 ≤ d) {M : pM} {a1 : Int} (hM : gM gAll M) (h1 : -2147483648 ≤ a1 ∧ a1 ≤ 2147483647) (p0 : 6 ≤ M 5 1 ∧ M 5 1 ≤ 6) : ∃ z M', xF d 37 [.inr 2, .inl a1] M = rI z M' ∧ ((-1 ≤ z ∧ z ≤ -1 ∧ 6 ≤ M' 5 1 ∧ M' 5 1 ≤ 6) ∨ (-2 ≤ z ∧ z ≤ -2 ∧ 6 ≤ M' 5 1 ∧ M' 5 1 ≤ 6) ∨ (0 ≤ z ∧ z ≤ 5 ∧ 2 ≤ M' 5 1 ∧ M' 5 1 ≤ 2)) := by
  have c0 : cOK gAll (xF d) 37 K_672 := (ct_of (d := d) ct_ok (show K_672 ∈ CT.getD 37 [] from (show CT.getD 37 [] = [K_666, K_667, K_668, K_669, K_670, K_671, K_672, K_673, K_674, K_675, K_676, K_677, K_422] from rfl) ▸ by simp) hd)
  obtain ⟨z, M', e, -, -, alt, ha, q, p⟩ := cOK_I c0 (A := [.inr 2, .inl a1]) (show aF2 gW [aRef 2, (0, -2147483648, 2147483647, 0, 0, 0)] [.inr 2, .inl a1] from ⟨gW_o, gW_i h1.1 h1.2, trivial⟩) hM (show gP0 [(5, 1, (0, 6, 6, 0, 0, 0))] M from fun e he => by
    simp only [List.mem_cons, List.not_mem_nil, or_false] at he
    rcases he with rfl
    · exact gR_i p0.1 p0.2) rfl
  refine ⟨z, M', e, ?_⟩
  have ha : alt ∈ [(some (0, -1, -1, 0, 0, 0), [], [(5, 1, (0, 6, 6, 0, 0, 0))]), (some (0, -2, -2, 0, 0, 0), [(4, 0, 0, 0, 0, 0), (0, 0, 5, 0, 0, 0)], [(5, 1, (0, 6, 6, 0, 0, 0)), (7, 9, (0, 1, 6, 0, 0, 0))]), (some (0, 0, 5, 0, 0, 0), [(4, 0, 0, 0, 0, 0), (0, 0, 5, 0, 0, 0)], [(5, 1, (0, 2, 2, 0, 0, 0)), (7, 9, (0, 1, 6, 0, 0, 0))])] := ha
  simp only [List.mem_cons, List.not_mem_nil, or_false] at ha
  rcases ha with rfl | rfl | rfl
  · obtain ⟨z2, e2, r⟩ := gW_int (show gW _ _ from q) (Nat.le_of_ble_eq_true rfl)
    cases e2
    have := gR0 r
    have w := gR0 (show gR (0, 6, 6, 0, 0, 0) (M' 5 1) from (p _ List.mem_cons_self).1)
    omega
  · obtain ⟨z2, e2, r⟩ := gW_int (show gW _ _ from q) (Nat.le_of_ble_eq_true rfl)
    cases e2
    have := gR0 r
    have w := gR0 (show gR (0, 6, 6, 0, 0, 0) (M' 5 1) from (p _ List.mem_cons_self).1)
    omega
  · obtain ⟨z2, e2, r⟩ := gW_int (show gW _ _ from q) (Nat.le_of_ble_eq_true rfl)
    cases e2
    have := gR0 r
    have w := gR0 (show gR (0, 2, 2, 0, 0, 0) (M' 5 1) from (p _ List.mem_cons_self).1)
    omega
theorem nu_X_hinge_7 {d : Nat} (hd : 5 ≤ d) {M : pM} {a1 : Int} (hM : gM gAll M) (h1 : -2147483648 ≤ a1 ∧ a1 ≤ 2147483647) (p0 : 7 ≤ M 5 1 ∧ M 5 1 ≤ 7) : ∃ z M', xF d 37 [.inr 2, .inl a1] M = rI z M' ∧ ((-1 ≤ z ∧ z ≤ -1 ∧ 7 ≤ M' 5 1 ∧ M' 5 1 ≤ 7) ∨ (-2 ≤ z ∧ z ≤ -2 ∧ 7 ≤ M' 5 1 ∧ M' 5 1 ≤ 7) ∨ (0 ≤ z ∧ z ≤ 5 ∧ 2 ≤ M' 5 1 ∧ M' 5 1 ≤ 2)) := by
  have c0 : cOK gAll (xF d) 37 K_673 := (ct_of (d := d) ct_ok (show K_673 ∈ CT.getD 37 [] from (show CT.getD 37 [] = [K_666, K_667, K_668, K_669, K_670, K_671, K_672, K_673, K_674, K_675, K_676, K_677, K_422] from rfl) ▸ by simp) hd)
  obtain ⟨z, M', e, -, -, alt, ha, q, p⟩ := cOK_I c0 (A := [.inr 2, .inl a1]) (show aF2 gW [aRef 2, (0, -2147483648, 2147483647, 0, 0, 0)] [.inr 2, .inl a1] from ⟨gW_o, gW_i h1.1 h1.2, trivial⟩) hM (show gP0 [(5, 1, (0, 7, 7, 0, 0, 0))] M from fun e he => by
    simp only [List.mem_cons, List.not_mem_nil, or_false] at he
    rcases he with rfl
    · exact gR_i p0.1 p0.2) rfl
  refine ⟨z, M', e, ?_⟩
  have ha : alt ∈ [(some (0, -1, -1, 0, 0, 0), [], [(5, 1, (0, 7, 7, 0, 0, 0))]), (some (0, -2, -2, 0, 0, 0), [(4, 0, 0, 0, 0, 0), (0, 0, 5, 0, 0, 0)], [(5, 1, (0, 7, 7, 0, 0, 0)), (7, 9, (0, 1, 6, 0, 0, 0))]), (some (0, 0, 5, 0, 0, 0), [(4, 0, 0, 0, 0, 0), (0, 0, 5, 0, 0, 0)], [(5, 1, (0, 2, 2, 0, 0, 0)), (7, 9, (0, 1, 6, 0, 0, 0))])] := ha
  simp only [List.mem_cons, List.not_mem_nil, or_false] at ha
  rcases ha with rfl | rfl | rfl
  · obtain ⟨z2, e2, r⟩ := gW_int (show gW _ _ from q) (Nat.le_of_ble_eq_true rfl)
    cases e2
    have := gR0 r
    have w := gR0 (show gR (0, 7, 7, 0, 0, 0) (M' 5 1) from (p _ List.mem_cons_self).1)
    omega
  · obtain ⟨z2, e2, r⟩ := gW_int (show gW _ _ from q) (Nat.le_of_ble_eq_true rfl)
    cases e2
    have := gR0 r
    have w := gR0 (show gR (0, 7, 7, 0, 0, 0) (M' 5 1) from (p _ List.mem_cons_self).1)
    omega
  · obtain ⟨z2, e2, r⟩ := gW_int (show gW _ _ from q) (Nat.le_of_ble_eq_true rfl)
    cases e2
    have := gR0 r
    have w := gR0 (show gR (0, 2, 2, 0, 0, 0) (M' 5 1) from (p _ List.mem_cons_self).1)
    omega
theorem nu_X_hinge_8 {d : Nat} (hd : 5 ≤ d) {M : pM} {a1 : Int} (hM : gM gAll M) (h1 : -2147483648 ≤ a1 ∧ a1 ≤ 2147483647) (p0 : 8 ≤ M 5 1 ∧ M 5 1 ≤ 8) : ∃ z M', xF d 37 [.inr 2, .inl a1] M = rI z M' ∧ ((-1 ≤ z ∧ z ≤ -1 ∧ 8 ≤ M' 5 1 ∧ M' 5 1 ≤ 8) ∨ (-2 ≤ z ∧ z ≤ -2 ∧ 8 ≤ M' 5 1 ∧ M' 5 1 ≤ 8) ∨ (0 ≤ z ∧ z ≤ 5 ∧ 2 ≤ M' 5 1 ∧ M' 5 1 ≤ 2)) := by
  have c0 : cOK gAll (xF d) 37 K_674 := (ct_of (d := d) ct_ok (show K_674 ∈ CT.getD 37 [] from (show CT.getD 37 [] = [K_666, K_667, K_668, K_669, K_670, K_671, K_672, K_673, K_674, K_675, K_676, K_677, K_422] from rfl) ▸ by simp) hd)
  obtain ⟨z, M', e, -, -, alt, ha, q, p⟩ := cOK_I c0 (A := [.inr 2, .inl a1]) (show aF2 gW [aRef 2, (0, -2147483648, 2147483647, 0, 0, 0)] [.inr 2, .inl a1] from ⟨gW_o, gW_i h1.1 h1.2, trivial⟩) hM (show gP0 [(5, 1, (0, 8, 8, 0, 0, 0))] M from fun e he => by
    simp only [List.mem_cons, List.not_mem_nil, or_false] at he
    rcases he with rfl
    · exact gR_i p0.1 p0.2) rfl
  refine ⟨z, M', e, ?_⟩
  have ha : alt ∈ [(some (0, -1, -1, 0, 0, 0), [], [(5, 1, (0, 8, 8, 0, 0, 0))]), (some (0, -2, -2, 0, 0, 0), [(4, 0, 0, 0, 0, 0), (0, 0, 5, 0, 0, 0)], [(5, 1, (0, 8, 8, 0, 0, 0)), (7, 9, (0, 1, 6, 0, 0, 0))]), (some (0, 0, 5, 0, 0, 0), [(4, 0, 0, 0, 0, 0), (0, 0, 5, 0, 0, 0)], [(5, 1, (0, 2, 2, 0, 0, 0)), (7, 9, (0, 1, 6, 0, 0, 0))])] := ha
  simp only [List.mem_cons, List.not_mem_nil, or_false] at ha
  rcases ha with rfl | rfl | rfl
  · obtain ⟨z2, e2, r⟩ := gW_int (show gW _ _ from q) (Nat.le_of_ble_eq_true rfl)
    cases e2
    have := gR0 r
    have w := gR0 (show gR (0, 8, 8, 0, 0, 0) (M' 5 1) from (p _ List.mem_cons_self).1)
    omega
  · obtain ⟨z2, e2, r⟩ := gW_int (show gW _ _ from q) (Nat.le_of_ble_eq_true rfl)
    cases e2
    have := gR0 r
    have w := gR0 (show gR (0, 8, 8, 0, 0, 0) (M' 5 1) from (p _ List.mem_cons_self).1)
    omega
  · obtain ⟨z2, e2, r⟩ := gW_int (show gW _ _ from q) (Nat.le_of_ble_eq_true rfl)
    cases e2
    have := gR0 r
    have w := gR0 (show gR (0, 2, 2, 0, 0, 0) (M' 5 1) from (p _ List.mem_cons_self).1)
    omega
theorem nu_X_hinge_9 {d : Nat} (hd : 5 ≤ d) {M : pM} {a1 : Int} (hM : gM gAll M) (h1 : -2147483648 ≤ a1 ∧ a1 ≤ 2147483647) (p0 : 9 ≤ M 5 1 ∧ M 5 1 ≤ 9) : ∃ z M', xF d 37 [.inr 2, .inl a1] M = rI z M' ∧ ((-1 ≤ z ∧ z ≤ -1 ∧ 9 ≤ M' 5 1 ∧ M' 5 1 ≤ 9) ∨ (-2 ≤ z ∧ z ≤ -2 ∧ 9 ≤ M' 5 1 ∧ M' 5 1 ≤ 9) ∨ (0 ≤ z ∧ z ≤ 5 ∧ 2 ≤ M' 5 1 ∧ M' 5 1 ≤ 2)) := by
  have c0 : cOK gAll (xF d) 37 K_675 := (ct_of (d := d) ct_ok (show K_675 ∈ CT.getD 37 [] from (show CT.getD 37 [] = [K_666, K_667, K_668, K_669, K_670, K_671, K_672, K_673, K_674, K_675, K_676, K_677, K_422] from rfl) ▸ by simp) hd)
  obtain ⟨z, M', e, -, -, alt, ha, q, p⟩ := cOK_I c0 (A := [.inr 2, .inl a1]) (show aF2 gW [aRef 2, (0, -2147483648, 2147483647, 0, 0, 0)] [.inr 2, .inl a1] from ⟨gW_o, gW_i h1.1 h1.2, trivial⟩) hM (show gP0 [(5, 1, (0, 9, 9, 0, 0, 0))] M from fun e he => by
    simp only [List.mem_cons, List.not_mem_nil, or_false] at he
    rcases he with rfl
    · exact gR_i p0.1 p0.2) rfl
  refine ⟨z, M', e, ?_⟩
  have ha : alt ∈ [(some (0, -1, -1, 0, 0, 0), [], [(5, 1, (0, 9, 9, 0, 0, 0))]), (some (0, -2, -2, 0, 0, 0), [(4, 0, 0, 0, 0, 0), (0, 0, 5, 0, 0, 0)], [(5, 1, (0, 9, 9, 0, 0, 0)), (7, 9, (0, 1, 6, 0, 0, 0))]), (some (0, 0, 5, 0, 0, 0), [(4, 0, 0, 0, 0, 0), (0, 0, 5, 0, 0, 0)], [(5, 1, (0, 2, 2, 0, 0, 0)), (7, 9, (0, 1, 6, 0, 0, 0))])] := ha
  simp only [List.mem_cons, List.not_mem_nil, or_false] at ha
  rcases ha with rfl | rfl | rfl
  · obtain ⟨z2, e2, r⟩ := gW_int (show gW _ _ from q) (Nat.le_of_ble_eq_true rfl)
    cases e2
    have := gR0 r
    have w := gR0 (show gR (0, 9, 9, 0, 0, 0) (M' 5 1) from (p _ List.mem_cons_self).1)
    omega
  · obtain ⟨z2, e2, r⟩ := gW_int (show gW _ _ from q) (Nat.le_of_ble_eq_true rfl)
    cases e2
    have := gR0 r
    have w := gR0 (show gR (0, 9, 9, 0, 0, 0) (M' 5 1) from (p _ List.mem_cons_self).1)
    omega
  · obtain ⟨z2, e2, r⟩ := gW_int (show gW _ _ from q) (Nat.le_of_ble_eq_true rfl)
    cases e2
    have := gR0 r
    have w := gR0 (show gR (0, 2, 2, 0, 0, 0) (M' 5 1) from (p _ List.mem_cons_self).1)
    omega
theorem nu_X_hinge_10 {d : Nat} (hd : 5 ≤ d) {M : pM} {a1 : Int} (hM : gM gAll M) (h1 : -2147483648 ≤ a1 ∧ a1 ≤ 2147483647) (p0 : 10 ≤ M 5 1 ∧ M 5 1 ≤ 10) : ∃ z M', xF d 37 [.inr 2, .inl a1] M = rI z M' ∧ ((-1 ≤ z ∧ z ≤ -1 ∧ 10 ≤ M' 5 1 ∧ M' 5 1 ≤ 10) ∨ (-2 ≤ z ∧ z ≤ -2 ∧ 10 ≤ M' 5 1 ∧ M' 5 1 ≤ 10) ∨ (0 ≤ z ∧ z ≤ 5 ∧ 2 ≤ M' 5 1 ∧ M' 5 1 ≤ 2)) := by
  have c0 : cOK gAll (xF d) 37 K_676 := (ct_of (d := d) ct_ok (show K_676 ∈ CT.getD 37 [] from (show CT.getD 37 [] = [K_666, K_667, K_668, K_669, K_670, K_671, K_672, K_673, K_674, K_675, K_676, K_677, K_422] from rfl) ▸ by simp) hd)
  obtain ⟨z, M', e, -, -, alt, ha, q, p⟩ := cOK_I c0 (A := [.inr 2, .inl a1]) (show aF2 gW [aRef 2, (0, -2147483648, 2147483647, 0, 0, 0)] [.inr 2, .inl a1] from ⟨gW_o, gW_i h1.1 h1.2, trivial⟩) hM (show gP0 [(5, 1, (0, 10, 10, 0, 0, 0))] M from fun e he => by
    simp only [List.mem_cons, List.not_mem_nil, or_false] at he
    rcases he with rfl
    · exact gR_i p0.1 p0.2) rfl
  refine ⟨z, M', e, ?_⟩
  have ha : alt ∈ [(some (0, -1, -1, 0, 0, 0), [], [(5, 1, (0, 10, 10, 0, 0, 0))]), (some (0, -2, -2, 0, 0, 0), [(4, 0, 0, 0, 0, 0), (0, 0, 5, 0, 0, 0)], [(5, 1, (0, 10, 10, 0, 0, 0)), (7, 9, (0, 1, 6, 0, 0, 0))]), (some (0, 0, 5, 0, 0, 0), [(4, 0, 0, 0, 0, 0), (0, 0, 5, 0, 0, 0)], [(5, 1, (0, 2, 2, 0, 0, 0)), (7, 9, (0, 1, 6, 0, 0, 0))])] := ha
  simp only [List.mem_cons, List.not_mem_nil, or_false] at ha
  rcases ha with rfl | rfl | rfl
  · obtain ⟨z2, e2, r⟩ := gW_int (show gW _ _ from q) (Nat.le_of_ble_eq_true rfl)
    cases e2
    have := gR0 r
    have w := gR0 (show gR (0, 10, 10, 0, 0, 0) (M' 5 1) from (p _ List.mem_cons_self).1)
    omega
  · obtain ⟨z2, e2, r⟩ := gW_int (show gW _ _ from q) (Nat.le_of_ble_eq_true rfl)
    cases e2
    have := gR0 r
    have w := gR0 (show gR (0, 10, 10, 0, 0, 0) (M' 5 1) from (p _ List.mem_cons_self).1)
    omega
  · obtain ⟨z2, e2, r⟩ := gW_int (show gW _ _ from q) (Nat.le_of_ble_eq_true rfl)
    cases e2
    have := gR0 r
    have w := gR0 (show gR (0, 2, 2, 0, 0, 0) (M' 5 1) from (p _ List.mem_cons_self).1)
    omega
theorem nu_X_hinge_11 {d : Nat} (hd : 5 ≤ d) {M : pM} {a1 : Int} (hM : gM gAll M) (h1 : -2147483648 ≤ a1 ∧ a1 ≤ 2147483647) (p0 : 11 ≤ M 5 1 ∧ M 5 1 ≤ 11) : ∃ z M', xF d 37 [.inr 2, .inl a1] M = rI z M' ∧ ((-1 ≤ z ∧ z ≤ -1 ∧ 11 ≤ M' 5 1 ∧ M' 5 1 ≤ 11) ∨ (-2 ≤ z ∧ z ≤ -2 ∧ 11 ≤ M' 5 1 ∧ M' 5 1 ≤ 11) ∨ (0 ≤ z ∧ z ≤ 5 ∧ 2 ≤ M' 5 1 ∧ M' 5 1 ≤ 2)) := by
  have c0 : cOK gAll (xF d) 37 K_677 := (ct_of (d := d) ct_ok (show K_677 ∈ CT.getD 37 [] from (show CT.getD 37 [] = [K_666, K_667, K_668, K_669, K_670, K_671, K_672, K_673, K_674, K_675, K_676, K_677, K_422] from rfl) ▸ by simp) hd)
  obtain ⟨z, M', e, -, -, alt, ha, q, p⟩ := cOK_I c0 (A := [.inr 2, .inl a1]) (show aF2 gW [aRef 2, (0, -2147483648, 2147483647, 0, 0, 0)] [.inr 2, .inl a1] from ⟨gW_o, gW_i h1.1 h1.2, trivial⟩) hM (show gP0 [(5, 1, (0, 11, 11, 0, 0, 0))] M from fun e he => by
    simp only [List.mem_cons, List.not_mem_nil, or_false] at he
    rcases he with rfl
    · exact gR_i p0.1 p0.2) rfl
  refine ⟨z, M', e, ?_⟩
  have ha : alt ∈ [(some (0, -1, -1, 0, 0, 0), [], [(5, 1, (0, 11, 11, 0, 0, 0))]), (some (0, -2, -2, 0, 0, 0), [(4, 0, 0, 0, 0, 0), (0, 0, 5, 0, 0, 0)], [(5, 1, (0, 11, 11, 0, 0, 0)), (7, 9, (0, 1, 6, 0, 0, 0))]), (some (0, 0, 5, 0, 0, 0), [(4, 0, 0, 0, 0, 0), (0, 0, 5, 0, 0, 0)], [(5, 1, (0, 2, 2, 0, 0, 0)), (7, 9, (0, 1, 6, 0, 0, 0))])] := ha
  simp only [List.mem_cons, List.not_mem_nil, or_false] at ha
  rcases ha with rfl | rfl | rfl
  · obtain ⟨z2, e2, r⟩ := gW_int (show gW _ _ from q) (Nat.le_of_ble_eq_true rfl)
    cases e2
    have := gR0 r
    have w := gR0 (show gR (0, 11, 11, 0, 0, 0) (M' 5 1) from (p _ List.mem_cons_self).1)
    omega
  · obtain ⟨z2, e2, r⟩ := gW_int (show gW _ _ from q) (Nat.le_of_ble_eq_true rfl)
    cases e2
    have := gR0 r
    have w := gR0 (show gR (0, 11, 11, 0, 0, 0) (M' 5 1) from (p _ List.mem_cons_self).1)
    omega
  · obtain ⟨z2, e2, r⟩ := gW_int (show gW _ _ from q) (Nat.le_of_ble_eq_true rfl)
    cases e2
    have := gR0 r
    have w := gR0 (show gR (0, 2, 2, 0, 0, 0) (M' 5 1) from (p _ List.mem_cons_self).1)
    omega
theorem nu_X_hinge {d : Nat} (hd : 5 ≤ d) {M M' : pM} {a1 : Int} {v : Int} (hM : gM gAll M) (h1 : -2147483648 ≤ a1 ∧ a1 ≤ 2147483647) {n : Nat} (hn : n ≤ 11) (hc : M 5 1 = (n : Int)) (e : xF d 37 [.inr 2, .inl a1] M = rI v M') : (-1 ≤ v ∧ v ≤ -1 ∧ M' 5 1 = (n : Int)) ∨ (-2 ≤ v ∧ v ≤ -2 ∧ M' 5 1 = (n : Int)) ∨ (0 ≤ v ∧ v ≤ 5 ∧ M' 5 1 = 2) := by
  rcases (show n = 0 ∨ n = 1 ∨ n = 2 ∨ n = 3 ∨ n = 4 ∨ n = 5 ∨ n = 6 ∨ n = 7 ∨ n = 8 ∨ n = 9 ∨ n = 10 ∨ n = 11 by omega) with rfl | rfl | rfl | rfl | rfl | rfl | rfl | rfl | rfl | rfl | rfl | rfl
  · obtain ⟨z, M2, e2, r⟩ := nu_X_hinge_0 (d := d) (by omega) hM h1 (by omega)
    obtain ⟨y1, y2⟩ := rI_inj (e.symm.trans e2)
    rw [y1, y2]
    omega
  · obtain ⟨z, M2, e2, r⟩ := nu_X_hinge_1 (d := d) (by omega) hM h1 (by omega)
    obtain ⟨y1, y2⟩ := rI_inj (e.symm.trans e2)
    rw [y1, y2]
    omega
  · obtain ⟨z, M2, e2, r⟩ := nu_X_hinge_2 (d := d) (by omega) hM h1 (by omega)
    obtain ⟨y1, y2⟩ := rI_inj (e.symm.trans e2)
    rw [y1, y2]
    omega
  · obtain ⟨z, M2, e2, r⟩ := nu_X_hinge_3 (d := d) (by omega) hM h1 (by omega)
    obtain ⟨y1, y2⟩ := rI_inj (e.symm.trans e2)
    rw [y1, y2]
    omega
  · obtain ⟨z, M2, e2, r⟩ := nu_X_hinge_4 (d := d) (by omega) hM h1 (by omega)
    obtain ⟨y1, y2⟩ := rI_inj (e.symm.trans e2)
    rw [y1, y2]
    omega
  · obtain ⟨z, M2, e2, r⟩ := nu_X_hinge_5 (d := d) (by omega) hM h1 (by omega)
    obtain ⟨y1, y2⟩ := rI_inj (e.symm.trans e2)
    rw [y1, y2]
    omega
  · obtain ⟨z, M2, e2, r⟩ := nu_X_hinge_6 (d := d) (by omega) hM h1 (by omega)
    obtain ⟨y1, y2⟩ := rI_inj (e.symm.trans e2)
    rw [y1, y2]
    omega
  · obtain ⟨z, M2, e2, r⟩ := nu_X_hinge_7 (d := d) (by omega) hM h1 (by omega)
    obtain ⟨y1, y2⟩ := rI_inj (e.symm.trans e2)
    rw [y1, y2]
    omega
  · obtain ⟨z, M2, e2, r⟩ := nu_X_hinge_8 (d := d) (by omega) hM h1 (by omega)
    obtain ⟨y1, y2⟩ := rI_inj (e.symm.trans e2)
    rw [y1, y2]
    omega
  · obtain ⟨z, M2, e2, r⟩ := nu_X_hinge_9 (d := d) (by omega) hM h1 (by omega)
    obtain ⟨y1, y2⟩ := rI_inj (e.symm.trans e2)
    rw [y1, y2]
    omega
  · obtain ⟨z, M2, e2, r⟩ := nu_X_hinge_10 (d := d) (by omega) hM h1 (by omega)
    obtain ⟨y1, y2⟩ := rI_inj (e.symm.trans e2)
    rw [y1, y2]
    omega
  · obtain ⟨z, M2, e2, r⟩ := nu_X_hinge_11 (d := d) (by omega) hM h1 (by omega)
    obtain ⟨y1, y2⟩ := rI_inj (e.symm.trans e2)
    rw [y1, y2]
    omega
theorem nu_X_apart_0 {d : Nat} (hd : 6 ≤ d) {M : pM} (hM : gM gAll M) (p0 : 0 ≤ M 5 1 ∧ M 5 1 ≤ 0) : ∃ z M', xF d 39 [.inr 2] M = rI z M' ∧ ((-2 ≤ z ∧ z ≤ -2 ∧ 0 ≤ M' 5 1 ∧ M' 5 1 ≤ 0) ∨ (-4 ≤ z ∧ z ≤ -4 ∧ 0 ≤ M' 5 1 ∧ M' 5 1 ≤ 0) ∨ (0 ≤ z ∧ z ≤ 450 ∧ 1 ≤ M' 5 1 ∧ M' 5 1 ≤ 1)) := by
  have c0 : cOK gAll (xF d) 39 K_678 := (ct_of (d := d) ct_ok (show K_678 ∈ CT.getD 39 [] from (show CT.getD 39 [] = [K_678, K_679, K_680, K_681, K_682, K_683, K_684, K_685, K_686, K_687, K_688, K_689, K_435] from rfl) ▸ by simp) hd)
  obtain ⟨z, M', e, -, -, alt, ha, q, p⟩ := cOK_I c0 (A := [.inr 2]) (show aF2 gW [aRef 2] [.inr 2] from ⟨gW_o, trivial⟩) hM (show gP0 [(5, 1, (0, 0, 0, 0, 0, 0))] M from fun e he => by
    simp only [List.mem_cons, List.not_mem_nil, or_false] at he
    rcases he with rfl
    · exact gR_i p0.1 p0.2) rfl
  refine ⟨z, M', e, ?_⟩
  have ha : alt ∈ [(some (0, -2, -2, 0, 0, 0), [], [(0, 14, (0, 1, 10, 0, 0, 0)), (5, 1, (0, 0, 0, 0, 0, 0)), (7, 10, (0, 1, 10, 0, 0, 0))]), (some (0, -4, -4, 0, 0, 0), [], [(5, 1, (0, 0, 0, 0, 0, 0))]), (some (0, 0, 450, 0, 0, 0), [], [(0, 14, (0, 1, 10, 0, 0, 0)), (5, 1, (0, 1, 1, 0, 0, 0)), (6, 0, (0, -2147483648, 2147483647, 0, 0, 0)), (7, 9, (0, 1, 6, 0, 0, 0)), (7, 10, (0, 1, 10, 0, 0, 0))])] := ha
  simp only [List.mem_cons, List.not_mem_nil, or_false] at ha
  rcases ha with rfl | rfl | rfl
  · obtain ⟨z2, e2, r⟩ := gW_int (show gW _ _ from q) (Nat.le_of_ble_eq_true rfl)
    cases e2
    have := gR0 r
    have w := gR0 (show gR (0, 0, 0, 0, 0, 0) (M' 5 1) from (p _ (List.mem_cons_of_mem _ List.mem_cons_self)).1)
    omega
  · obtain ⟨z2, e2, r⟩ := gW_int (show gW _ _ from q) (Nat.le_of_ble_eq_true rfl)
    cases e2
    have := gR0 r
    have w := gR0 (show gR (0, 0, 0, 0, 0, 0) (M' 5 1) from (p _ List.mem_cons_self).1)
    omega
  · obtain ⟨z2, e2, r⟩ := gW_int (show gW _ _ from q) (Nat.le_of_ble_eq_true rfl)
    cases e2
    have := gR0 r
    have w := gR0 (show gR (0, 1, 1, 0, 0, 0) (M' 5 1) from (p _ (List.mem_cons_of_mem _ List.mem_cons_self)).1)
    omega
theorem nu_X_apart_1 {d : Nat} (hd : 6 ≤ d) {M : pM} (hM : gM gAll M) (p0 : 1 ≤ M 5 1 ∧ M 5 1 ≤ 1) : ∃ z M', xF d 39 [.inr 2] M = rI z M' ∧ ((-2 ≤ z ∧ z ≤ -2 ∧ 1 ≤ M' 5 1 ∧ M' 5 1 ≤ 1) ∨ (-4 ≤ z ∧ z ≤ -4 ∧ 1 ≤ M' 5 1 ∧ M' 5 1 ≤ 1) ∨ (0 ≤ z ∧ z ≤ 450 ∧ 1 ≤ M' 5 1 ∧ M' 5 1 ≤ 1)) := by
  have c0 : cOK gAll (xF d) 39 K_679 := (ct_of (d := d) ct_ok (show K_679 ∈ CT.getD 39 [] from (show CT.getD 39 [] = [K_678, K_679, K_680, K_681, K_682, K_683, K_684, K_685, K_686, K_687, K_688, K_689, K_435] from rfl) ▸ by simp) hd)
  obtain ⟨z, M', e, -, -, alt, ha, q, p⟩ := cOK_I c0 (A := [.inr 2]) (show aF2 gW [aRef 2] [.inr 2] from ⟨gW_o, trivial⟩) hM (show gP0 [(5, 1, (0, 1, 1, 0, 0, 0))] M from fun e he => by
    simp only [List.mem_cons, List.not_mem_nil, or_false] at he
    rcases he with rfl
    · exact gR_i p0.1 p0.2) rfl
  refine ⟨z, M', e, ?_⟩
  have ha : alt ∈ [(some (0, -2, -2, 0, 0, 0), [], [(0, 14, (0, 1, 10, 0, 0, 0)), (5, 1, (0, 1, 1, 0, 0, 0)), (7, 10, (0, 1, 10, 0, 0, 0))]), (some (0, -4, -4, 0, 0, 0), [], [(5, 1, (0, 1, 1, 0, 0, 0))]), (some (0, 0, 450, 0, 0, 0), [], [(0, 14, (0, 1, 10, 0, 0, 0)), (5, 1, (0, 1, 1, 0, 0, 0)), (6, 0, (0, -2147483648, 2147483647, 0, 0, 0)), (7, 9, (0, 1, 6, 0, 0, 0)), (7, 10, (0, 1, 10, 0, 0, 0))])] := ha
  simp only [List.mem_cons, List.not_mem_nil, or_false] at ha
  rcases ha with rfl | rfl | rfl
  · obtain ⟨z2, e2, r⟩ := gW_int (show gW _ _ from q) (Nat.le_of_ble_eq_true rfl)
    cases e2
    have := gR0 r
    have w := gR0 (show gR (0, 1, 1, 0, 0, 0) (M' 5 1) from (p _ (List.mem_cons_of_mem _ List.mem_cons_self)).1)
    omega
  · obtain ⟨z2, e2, r⟩ := gW_int (show gW _ _ from q) (Nat.le_of_ble_eq_true rfl)
    cases e2
    have := gR0 r
    have w := gR0 (show gR (0, 1, 1, 0, 0, 0) (M' 5 1) from (p _ List.mem_cons_self).1)
    omega
  · obtain ⟨z2, e2, r⟩ := gW_int (show gW _ _ from q) (Nat.le_of_ble_eq_true rfl)
    cases e2
    have := gR0 r
    have w := gR0 (show gR (0, 1, 1, 0, 0, 0) (M' 5 1) from (p _ (List.mem_cons_of_mem _ List.mem_cons_self)).1)
    omega
theorem nu_X_apart_2 {d : Nat} (hd : 6 ≤ d) {M : pM} (hM : gM gAll M) (p0 : 2 ≤ M 5 1 ∧ M 5 1 ≤ 2) : ∃ z M', xF d 39 [.inr 2] M = rI z M' ∧ ((-2 ≤ z ∧ z ≤ -2 ∧ 2 ≤ M' 5 1 ∧ M' 5 1 ≤ 2) ∨ (-4 ≤ z ∧ z ≤ -4 ∧ 2 ≤ M' 5 1 ∧ M' 5 1 ≤ 2) ∨ (0 ≤ z ∧ z ≤ 450 ∧ 1 ≤ M' 5 1 ∧ M' 5 1 ≤ 1)) := by
  have c0 : cOK gAll (xF d) 39 K_680 := (ct_of (d := d) ct_ok (show K_680 ∈ CT.getD 39 [] from (show CT.getD 39 [] = [K_678, K_679, K_680, K_681, K_682, K_683, K_684, K_685, K_686, K_687, K_688, K_689, K_435] from rfl) ▸ by simp) hd)
  obtain ⟨z, M', e, -, -, alt, ha, q, p⟩ := cOK_I c0 (A := [.inr 2]) (show aF2 gW [aRef 2] [.inr 2] from ⟨gW_o, trivial⟩) hM (show gP0 [(5, 1, (0, 2, 2, 0, 0, 0))] M from fun e he => by
    simp only [List.mem_cons, List.not_mem_nil, or_false] at he
    rcases he with rfl
    · exact gR_i p0.1 p0.2) rfl
  refine ⟨z, M', e, ?_⟩
  have ha : alt ∈ [(some (0, -2, -2, 0, 0, 0), [], [(0, 14, (0, 1, 10, 0, 0, 0)), (5, 1, (0, 2, 2, 0, 0, 0)), (7, 10, (0, 1, 10, 0, 0, 0))]), (some (0, -4, -4, 0, 0, 0), [], [(5, 1, (0, 2, 2, 0, 0, 0))]), (some (0, 0, 450, 0, 0, 0), [], [(0, 14, (0, 1, 10, 0, 0, 0)), (5, 1, (0, 1, 1, 0, 0, 0)), (6, 0, (0, -2147483648, 2147483647, 0, 0, 0)), (7, 9, (0, 1, 6, 0, 0, 0)), (7, 10, (0, 1, 10, 0, 0, 0))])] := ha
  simp only [List.mem_cons, List.not_mem_nil, or_false] at ha
  rcases ha with rfl | rfl | rfl
  · obtain ⟨z2, e2, r⟩ := gW_int (show gW _ _ from q) (Nat.le_of_ble_eq_true rfl)
    cases e2
    have := gR0 r
    have w := gR0 (show gR (0, 2, 2, 0, 0, 0) (M' 5 1) from (p _ (List.mem_cons_of_mem _ List.mem_cons_self)).1)
    omega
  · obtain ⟨z2, e2, r⟩ := gW_int (show gW _ _ from q) (Nat.le_of_ble_eq_true rfl)
    cases e2
    have := gR0 r
    have w := gR0 (show gR (0, 2, 2, 0, 0, 0) (M' 5 1) from (p _ List.mem_cons_self).1)
    omega
  · obtain ⟨z2, e2, r⟩ := gW_int (show gW _ _ from q) (Nat.le_of_ble_eq_true rfl)
    cases e2
    have := gR0 r
    have w := gR0 (show gR (0, 1, 1, 0, 0, 0) (M' 5 1) from (p _ (List.mem_cons_of_mem _ List.mem_cons_self)).1)
    omega
theorem nu_X_apart_3 {d : Nat} (hd : 6 ≤ d) {M : pM} (hM : gM gAll M) (p0 : 3 ≤ M 5 1 ∧ M 5 1 ≤ 3) : ∃ z M', xF d 39 [.inr 2] M = rI z M' ∧ ((-2 ≤ z ∧ z ≤ -2 ∧ 3 ≤ M' 5 1 ∧ M' 5 1 ≤ 3) ∨ (-4 ≤ z ∧ z ≤ -4 ∧ 3 ≤ M' 5 1 ∧ M' 5 1 ≤ 3) ∨ (0 ≤ z ∧ z ≤ 450 ∧ 1 ≤ M' 5 1 ∧ M' 5 1 ≤ 1)) := by
  have c0 : cOK gAll (xF d) 39 K_681 := (ct_of (d := d) ct_ok (show K_681 ∈ CT.getD 39 [] from (show CT.getD 39 [] = [K_678, K_679, K_680, K_681, K_682, K_683, K_684, K_685, K_686, K_687, K_688, K_689, K_435] from rfl) ▸ by simp) hd)
  obtain ⟨z, M', e, -, -, alt, ha, q, p⟩ := cOK_I c0 (A := [.inr 2]) (show aF2 gW [aRef 2] [.inr 2] from ⟨gW_o, trivial⟩) hM (show gP0 [(5, 1, (0, 3, 3, 0, 0, 0))] M from fun e he => by
    simp only [List.mem_cons, List.not_mem_nil, or_false] at he
    rcases he with rfl
    · exact gR_i p0.1 p0.2) rfl
  refine ⟨z, M', e, ?_⟩
  have ha : alt ∈ [(some (0, -2, -2, 0, 0, 0), [], [(0, 14, (0, 1, 10, 0, 0, 0)), (5, 1, (0, 3, 3, 0, 0, 0)), (7, 10, (0, 1, 10, 0, 0, 0))]), (some (0, -4, -4, 0, 0, 0), [], [(5, 1, (0, 3, 3, 0, 0, 0))]), (some (0, 0, 450, 0, 0, 0), [], [(0, 14, (0, 1, 10, 0, 0, 0)), (5, 1, (0, 1, 1, 0, 0, 0)), (6, 0, (0, -2147483648, 2147483647, 0, 0, 0)), (7, 9, (0, 1, 6, 0, 0, 0)), (7, 10, (0, 1, 10, 0, 0, 0))])] := ha
  simp only [List.mem_cons, List.not_mem_nil, or_false] at ha
  rcases ha with rfl | rfl | rfl
  · obtain ⟨z2, e2, r⟩ := gW_int (show gW _ _ from q) (Nat.le_of_ble_eq_true rfl)
    cases e2
    have := gR0 r
    have w := gR0 (show gR (0, 3, 3, 0, 0, 0) (M' 5 1) from (p _ (List.mem_cons_of_mem _ List.mem_cons_self)).1)
    omega
  · obtain ⟨z2, e2, r⟩ := gW_int (show gW _ _ from q) (Nat.le_of_ble_eq_true rfl)
    cases e2
    have := gR0 r
    have w := gR0 (show gR (0, 3, 3, 0, 0, 0) (M' 5 1) from (p _ List.mem_cons_self).1)
    omega
  · obtain ⟨z2, e2, r⟩ := gW_int (show gW _ _ from q) (Nat.le_of_ble_eq_true rfl)
    cases e2
    have := gR0 r
    have w := gR0 (show gR (0, 1, 1, 0, 0, 0) (M' 5 1) from (p _ (List.mem_cons_of_mem _ List.mem_cons_self)).1)
    omega
theorem nu_X_apart_4 {d : Nat} (hd : 6 ≤ d) {M : pM} (hM : gM gAll M) (p0 : 4 ≤ M 5 1 ∧ M 5 1 ≤ 4) : ∃ z M', xF d 39 [.inr 2] M = rI z M' ∧ ((-2 ≤ z ∧ z ≤ -2 ∧ 4 ≤ M' 5 1 ∧ M' 5 1 ≤ 4) ∨ (-4 ≤ z ∧ z ≤ -4 ∧ 4 ≤ M' 5 1 ∧ M' 5 1 ≤ 4) ∨ (0 ≤ z ∧ z ≤ 450 ∧ 1 ≤ M' 5 1 ∧ M' 5 1 ≤ 1)) := by
  have c0 : cOK gAll (xF d) 39 K_682 := (ct_of (d := d) ct_ok (show K_682 ∈ CT.getD 39 [] from (show CT.getD 39 [] = [K_678, K_679, K_680, K_681, K_682, K_683, K_684, K_685, K_686, K_687, K_688, K_689, K_435] from rfl) ▸ by simp) hd)
  obtain ⟨z, M', e, -, -, alt, ha, q, p⟩ := cOK_I c0 (A := [.inr 2]) (show aF2 gW [aRef 2] [.inr 2] from ⟨gW_o, trivial⟩) hM (show gP0 [(5, 1, (0, 4, 4, 0, 0, 0))] M from fun e he => by
    simp only [List.mem_cons, List.not_mem_nil, or_false] at he
    rcases he with rfl
    · exact gR_i p0.1 p0.2) rfl
  refine ⟨z, M', e, ?_⟩
  have ha : alt ∈ [(some (0, -2, -2, 0, 0, 0), [], [(0, 14, (0, 1, 10, 0, 0, 0)), (5, 1, (0, 4, 4, 0, 0, 0)), (7, 10, (0, 1, 10, 0, 0, 0))]), (some (0, -4, -4, 0, 0, 0), [], [(5, 1, (0, 4, 4, 0, 0, 0))]), (some (0, 0, 450, 0, 0, 0), [], [(0, 14, (0, 1, 10, 0, 0, 0)), (5, 1, (0, 1, 1, 0, 0, 0)), (6, 0, (0, -2147483648, 2147483647, 0, 0, 0)), (7, 9, (0, 1, 6, 0, 0, 0)), (7, 10, (0, 1, 10, 0, 0, 0))])] := ha
  simp only [List.mem_cons, List.not_mem_nil, or_false] at ha
  rcases ha with rfl | rfl | rfl
  · obtain ⟨z2, e2, r⟩ := gW_int (show gW _ _ from q) (Nat.le_of_ble_eq_true rfl)
    cases e2
    have := gR0 r
    have w := gR0 (show gR (0, 4, 4, 0, 0, 0) (M' 5 1) from (p _ (List.mem_cons_of_mem _ List.mem_cons_self)).1)
    omega
  · obtain ⟨z2, e2, r⟩ := gW_int (show gW _ _ from q) (Nat.le_of_ble_eq_true rfl)
    cases e2
    have := gR0 r
    have w := gR0 (show gR (0, 4, 4, 0, 0, 0) (M' 5 1) from (p _ List.mem_cons_self).1)
    omega
  · obtain ⟨z2, e2, r⟩ := gW_int (show gW _ _ from q) (Nat.le_of_ble_eq_true rfl)
    cases e2
    have := gR0 r
    have w := gR0 (show gR (0, 1, 1, 0, 0, 0) (M' 5 1) from (p _ (List.mem_cons_of_mem _ List.mem_cons_self)).1)
    omega
theorem nu_X_apart_5 {d : Nat} (hd : 6 ≤ d) {M : pM} (hM : gM gAll M) (p0 : 5 ≤ M 5 1 ∧ M 5 1 ≤ 5) : ∃ z M', xF d 39 [.inr 2] M = rI z M' ∧ ((-2 ≤ z ∧ z ≤ -2 ∧ 5 ≤ M' 5 1 ∧ M' 5 1 ≤ 5) ∨ (-4 ≤ z ∧ z ≤ -4 ∧ 5 ≤ M' 5 1 ∧ M' 5 1 ≤ 5) ∨ (0 ≤ z ∧ z ≤ 450 ∧ 1 ≤ M' 5 1 ∧ M' 5 1 ≤ 1)) := by
  have c0 : cOK gAll (xF d) 39 K_683 := (ct_of (d := d) ct_ok (show K_683 ∈ CT.getD 39 [] from (show CT.getD 39 [] = [K_678, K_679, K_680, K_681, K_682, K_683, K_684, K_685, K_686, K_687, K_688, K_689, K_435] from rfl) ▸ by simp) hd)
  obtain ⟨z, M', e, -, -, alt, ha, q, p⟩ := cOK_I c0 (A := [.inr 2]) (show aF2 gW [aRef 2] [.inr 2] from ⟨gW_o, trivial⟩) hM (show gP0 [(5, 1, (0, 5, 5, 0, 0, 0))] M from fun e he => by
    simp only [List.mem_cons, List.not_mem_nil, or_false] at he
    rcases he with rfl
    · exact gR_i p0.1 p0.2) rfl
  refine ⟨z, M', e, ?_⟩
  have ha : alt ∈ [(some (0, -2, -2, 0, 0, 0), [], [(0, 14, (0, 1, 10, 0, 0, 0)), (5, 1, (0, 5, 5, 0, 0, 0)), (7, 10, (0, 1, 10, 0, 0, 0))]), (some (0, -4, -4, 0, 0, 0), [], [(5, 1, (0, 5, 5, 0, 0, 0))]), (some (0, 0, 450, 0, 0, 0), [], [(0, 14, (0, 1, 10, 0, 0, 0)), (5, 1, (0, 1, 1, 0, 0, 0)), (6, 0, (0, -2147483648, 2147483647, 0, 0, 0)), (7, 9, (0, 1, 6, 0, 0, 0)), (7, 10, (0, 1, 10, 0, 0, 0))])] := ha
  simp only [List.mem_cons, List.not_mem_nil, or_false] at ha
  rcases ha with rfl | rfl | rfl
  · obtain ⟨z2, e2, r⟩ := gW_int (show gW _ _ from q) (Nat.le_of_ble_eq_true rfl)
    cases e2
    have := gR0 r
    have w := gR0 (show gR (0, 5, 5, 0, 0, 0) (M' 5 1) from (p _ (List.mem_cons_of_mem _ List.mem_cons_self)).1)
    omega
  · obtain ⟨z2, e2, r⟩ := gW_int (show gW _ _ from q) (Nat.le_of_ble_eq_true rfl)
    cases e2
    have := gR0 r
    have w := gR0 (show gR (0, 5, 5, 0, 0, 0) (M' 5 1) from (p _ List.mem_cons_self).1)
    omega
  · obtain ⟨z2, e2, r⟩ := gW_int (show gW _ _ from q) (Nat.le_of_ble_eq_true rfl)
    cases e2
    have := gR0 r
    have w := gR0 (show gR (0, 1, 1, 0, 0, 0) (M' 5 1) from (p _ (List.mem_cons_of_mem _ List.mem_cons_self)).1)
    omega
theorem nu_X_apart_6 {d : Nat} (hd : 6 ≤ d) {M : pM} (hM : gM gAll M) (p0 : 6 ≤ M 5 1 ∧ M 5 1 ≤ 6) : ∃ z M', xF d 39 [.inr 2] M = rI z M' ∧ ((-2 ≤ z ∧ z ≤ -2 ∧ 6 ≤ M' 5 1 ∧ M' 5 1 ≤ 6) ∨ (-4 ≤ z ∧ z ≤ -4 ∧ 6 ≤ M' 5 1 ∧ M' 5 1 ≤ 6) ∨ (0 ≤ z ∧ z ≤ 450 ∧ 1 ≤ M' 5 1 ∧ M' 5 1 ≤ 1)) := by
  have c0 : cOK gAll (xF d) 39 K_684 := (ct_of (d := d) ct_ok (show K_684 ∈ CT.getD 39 [] from (show CT.getD 39 [] = [K_678, K_679, K_680, K_681, K_682, K_683, K_684, K_685, K_686, K_687, K_688, K_689, K_435] from rfl) ▸ by simp) hd)
  obtain ⟨z, M', e, -, -, alt, ha, q, p⟩ := cOK_I c0 (A := [.inr 2]) (show aF2 gW [aRef 2] [.inr 2] from ⟨gW_o, trivial⟩) hM (show gP0 [(5, 1, (0, 6, 6, 0, 0, 0))] M from fun e he => by
    simp only [List.mem_cons, List.not_mem_nil, or_false] at he
    rcases he with rfl
    · exact gR_i p0.1 p0.2) rfl
  refine ⟨z, M', e, ?_⟩
  have ha : alt ∈ [(some (0, -2, -2, 0, 0, 0), [], [(0, 14, (0, 1, 10, 0, 0, 0)), (5, 1, (0, 6, 6, 0, 0, 0)), (7, 10, (0, 1, 10, 0, 0, 0))]), (some (0, -4, -4, 0, 0, 0), [], [(5, 1, (0, 6, 6, 0, 0, 0))]), (some (0, 0, 450, 0, 0, 0), [], [(0, 14, (0, 1, 10, 0, 0, 0)), (5, 1, (0, 1, 1, 0, 0, 0)), (6, 0, (0, -2147483648, 2147483647, 0, 0, 0)), (7, 9, (0, 1, 6, 0, 0, 0)), (7, 10, (0, 1, 10, 0, 0, 0))])] := ha
  simp only [List.mem_cons, List.not_mem_nil, or_false] at ha
  rcases ha with rfl | rfl | rfl
  · obtain ⟨z2, e2, r⟩ := gW_int (show gW _ _ from q) (Nat.le_of_ble_eq_true rfl)
    cases e2
    have := gR0 r
    have w := gR0 (show gR (0, 6, 6, 0, 0, 0) (M' 5 1) from (p _ (List.mem_cons_of_mem _ List.mem_cons_self)).1)
    omega
  · obtain ⟨z2, e2, r⟩ := gW_int (show gW _ _ from q) (Nat.le_of_ble_eq_true rfl)
    cases e2
    have := gR0 r
    have w := gR0 (show gR (0, 6, 6, 0, 0, 0) (M' 5 1) from (p _ List.mem_cons_self).1)
    omega
  · obtain ⟨z2, e2, r⟩ := gW_int (show gW _ _ from q) (Nat.le_of_ble_eq_true rfl)
    cases e2
    have := gR0 r
    have w := gR0 (show gR (0, 1, 1, 0, 0, 0) (M' 5 1) from (p _ (List.mem_cons_of_mem _ List.mem_cons_self)).1)
    omega
theorem nu_X_apart_7 {d : Nat} (hd : 6 ≤ d) {M : pM} (hM : gM gAll M) (p0 : 7 ≤ M 5 1 ∧ M 5 1 ≤ 7) : ∃ z M', xF d 39 [.inr 2] M = rI z M' ∧ ((-2 ≤ z ∧ z ≤ -2 ∧ 7 ≤ M' 5 1 ∧ M' 5 1 ≤ 7) ∨ (-4 ≤ z ∧ z ≤ -4 ∧ 7 ≤ M' 5 1 ∧ M' 5 1 ≤ 7) ∨ (0 ≤ z ∧ z ≤ 450 ∧ 1 ≤ M' 5 1 ∧ M' 5 1 ≤ 1)) := by
  have c0 : cOK gAll (xF d) 39 K_685 := (ct_of (d := d) ct_ok (show K_685 ∈ CT.getD 39 [] from (show CT.getD 39 [] = [K_678, K_679, K_680, K_681, K_682, K_683, K_684, K_685, K_686, K_687, K_688, K_689, K_435] from rfl) ▸ by simp) hd)
  obtain ⟨z, M', e, -, -, alt, ha, q, p⟩ := cOK_I c0 (A := [.inr 2]) (show aF2 gW [aRef 2] [.inr 2] from ⟨gW_o, trivial⟩) hM (show gP0 [(5, 1, (0, 7, 7, 0, 0, 0))] M from fun e he => by
    simp only [List.mem_cons, List.not_mem_nil, or_false] at he
    rcases he with rfl
    · exact gR_i p0.1 p0.2) rfl
  refine ⟨z, M', e, ?_⟩
  have ha : alt ∈ [(some (0, -2, -2, 0, 0, 0), [], [(0, 14, (0, 1, 10, 0, 0, 0)), (5, 1, (0, 7, 7, 0, 0, 0)), (7, 10, (0, 1, 10, 0, 0, 0))]), (some (0, -4, -4, 0, 0, 0), [], [(5, 1, (0, 7, 7, 0, 0, 0))]), (some (0, 0, 450, 0, 0, 0), [], [(0, 14, (0, 1, 10, 0, 0, 0)), (5, 1, (0, 1, 1, 0, 0, 0)), (6, 0, (0, -2147483648, 2147483647, 0, 0, 0)), (7, 9, (0, 1, 6, 0, 0, 0)), (7, 10, (0, 1, 10, 0, 0, 0))])] := ha
  simp only [List.mem_cons, List.not_mem_nil, or_false] at ha
  rcases ha with rfl | rfl | rfl
  · obtain ⟨z2, e2, r⟩ := gW_int (show gW _ _ from q) (Nat.le_of_ble_eq_true rfl)
    cases e2
    have := gR0 r
    have w := gR0 (show gR (0, 7, 7, 0, 0, 0) (M' 5 1) from (p _ (List.mem_cons_of_mem _ List.mem_cons_self)).1)
    omega
  · obtain ⟨z2, e2, r⟩ := gW_int (show gW _ _ from q) (Nat.le_of_ble_eq_true rfl)
    cases e2
    have := gR0 r
    have w := gR0 (show gR (0, 7, 7, 0, 0, 0) (M' 5 1) from (p _ List.mem_cons_self).1)
    omega
  · obtain ⟨z2, e2, r⟩ := gW_int (show gW _ _ from q) (Nat.le_of_ble_eq_true rfl)
    cases e2
    have := gR0 r
    have w := gR0 (show gR (0, 1, 1, 0, 0, 0) (M' 5 1) from (p _ (List.mem_cons_of_mem _ List.mem_cons_self)).1)
    omega
theorem nu_X_apart_8 {d : Nat} (hd : 6 ≤ d) {M : pM} (hM : gM gAll M) (p0 : 8 ≤ M 5 1 ∧ M 5 1 ≤ 8) : ∃ z M', xF d 39 [.inr 2] M = rI z M' ∧ ((-2 ≤ z ∧ z ≤ -2 ∧ 8 ≤ M' 5 1 ∧ M' 5 1 ≤ 8) ∨ (-4 ≤ z ∧ z ≤ -4 ∧ 8 ≤ M' 5 1 ∧ M' 5 1 ≤ 8) ∨ (0 ≤ z ∧ z ≤ 450 ∧ 1 ≤ M' 5 1 ∧ M' 5 1 ≤ 1)) := by
  have c0 : cOK gAll (xF d) 39 K_686 := (ct_of (d := d) ct_ok (show K_686 ∈ CT.getD 39 [] from (show CT.getD 39 [] = [K_678, K_679, K_680, K_681, K_682, K_683, K_684, K_685, K_686, K_687, K_688, K_689, K_435] from rfl) ▸ by simp) hd)
  obtain ⟨z, M', e, -, -, alt, ha, q, p⟩ := cOK_I c0 (A := [.inr 2]) (show aF2 gW [aRef 2] [.inr 2] from ⟨gW_o, trivial⟩) hM (show gP0 [(5, 1, (0, 8, 8, 0, 0, 0))] M from fun e he => by
    simp only [List.mem_cons, List.not_mem_nil, or_false] at he
    rcases he with rfl
    · exact gR_i p0.1 p0.2) rfl
  refine ⟨z, M', e, ?_⟩
  have ha : alt ∈ [(some (0, -2, -2, 0, 0, 0), [], [(0, 14, (0, 1, 10, 0, 0, 0)), (5, 1, (0, 8, 8, 0, 0, 0)), (7, 10, (0, 1, 10, 0, 0, 0))]), (some (0, -4, -4, 0, 0, 0), [], [(5, 1, (0, 8, 8, 0, 0, 0))]), (some (0, 0, 450, 0, 0, 0), [], [(0, 14, (0, 1, 10, 0, 0, 0)), (5, 1, (0, 1, 1, 0, 0, 0)), (6, 0, (0, -2147483648, 2147483647, 0, 0, 0)), (7, 9, (0, 1, 6, 0, 0, 0)), (7, 10, (0, 1, 10, 0, 0, 0))])] := ha
  simp only [List.mem_cons, List.not_mem_nil, or_false] at ha
  rcases ha with rfl | rfl | rfl
  · obtain ⟨z2, e2, r⟩ := gW_int (show gW _ _ from q) (Nat.le_of_ble_eq_true rfl)
    cases e2
    have := gR0 r
    have w := gR0 (show gR (0, 8, 8, 0, 0, 0) (M' 5 1) from (p _ (List.mem_cons_of_mem _ List.mem_cons_self)).1)
    omega
  · obtain ⟨z2, e2, r⟩ := gW_int (show gW _ _ from q) (Nat.le_of_ble_eq_true rfl)
    cases e2
    have := gR0 r
    have w := gR0 (show gR (0, 8, 8, 0, 0, 0) (M' 5 1) from (p _ List.mem_cons_self).1)
    omega
  · obtain ⟨z2, e2, r⟩ := gW_int (show gW _ _ from q) (Nat.le_of_ble_eq_true rfl)
    cases e2
    have := gR0 r
    have w := gR0 (show gR (0, 1, 1, 0, 0, 0) (M' 5 1) from (p _ (List.mem_cons_of_mem _ List.mem_cons_self)).1)
    omega
theorem nu_X_apart_9 {d : Nat} (hd : 6 ≤ d) {M : pM} (hM : gM gAll M) (p0 : 9 ≤ M 5 1 ∧ M 5 1 ≤ 9) : ∃ z M', xF d 39 [.inr 2] M = rI z M' ∧ ((-2 ≤ z ∧ z ≤ -2 ∧ 9 ≤ M' 5 1 ∧ M' 5 1 ≤ 9) ∨ (-4 ≤ z ∧ z ≤ -4 ∧ 9 ≤ M' 5 1 ∧ M' 5 1 ≤ 9) ∨ (0 ≤ z ∧ z ≤ 450 ∧ 1 ≤ M' 5 1 ∧ M' 5 1 ≤ 1)) := by
  have c0 : cOK gAll (xF d) 39 K_687 := (ct_of (d := d) ct_ok (show K_687 ∈ CT.getD 39 [] from (show CT.getD 39 [] = [K_678, K_679, K_680, K_681, K_682, K_683, K_684, K_685, K_686, K_687, K_688, K_689, K_435] from rfl) ▸ by simp) hd)
  obtain ⟨z, M', e, -, -, alt, ha, q, p⟩ := cOK_I c0 (A := [.inr 2]) (show aF2 gW [aRef 2] [.inr 2] from ⟨gW_o, trivial⟩) hM (show gP0 [(5, 1, (0, 9, 9, 0, 0, 0))] M from fun e he => by
    simp only [List.mem_cons, List.not_mem_nil, or_false] at he
    rcases he with rfl
    · exact gR_i p0.1 p0.2) rfl
  refine ⟨z, M', e, ?_⟩
  have ha : alt ∈ [(some (0, -2, -2, 0, 0, 0), [], [(0, 14, (0, 1, 10, 0, 0, 0)), (5, 1, (0, 9, 9, 0, 0, 0)), (7, 10, (0, 1, 10, 0, 0, 0))]), (some (0, -4, -4, 0, 0, 0), [], [(5, 1, (0, 9, 9, 0, 0, 0))]), (some (0, 0, 450, 0, 0, 0), [], [(0, 14, (0, 1, 10, 0, 0, 0)), (5, 1, (0, 1, 1, 0, 0, 0)), (6, 0, (0, -2147483648, 2147483647, 0, 0, 0)), (7, 9, (0, 1, 6, 0, 0, 0)), (7, 10, (0, 1, 10, 0, 0, 0))])] := ha
  simp only [List.mem_cons, List.not_mem_nil, or_false] at ha
  rcases ha with rfl | rfl | rfl
  · obtain ⟨z2, e2, r⟩ := gW_int (show gW _ _ from q) (Nat.le_of_ble_eq_true rfl)
    cases e2
    have := gR0 r
    have w := gR0 (show gR (0, 9, 9, 0, 0, 0) (M' 5 1) from (p _ (List.mem_cons_of_mem _ List.mem_cons_self)).1)
    omega
  · obtain ⟨z2, e2, r⟩ := gW_int (show gW _ _ from q) (Nat.le_of_ble_eq_true rfl)
    cases e2
    have := gR0 r
    have w := gR0 (show gR (0, 9, 9, 0, 0, 0) (M' 5 1) from (p _ List.mem_cons_self).1)
    omega
  · obtain ⟨z2, e2, r⟩ := gW_int (show gW _ _ from q) (Nat.le_of_ble_eq_true rfl)
    cases e2
    have := gR0 r
    have w := gR0 (show gR (0, 1, 1, 0, 0, 0) (M' 5 1) from (p _ (List.mem_cons_of_mem _ List.mem_cons_self)).1)
    omega
theorem nu_X_apart_10 {d : Nat} (hd : 6 ≤ d) {M : pM} (hM : gM gAll M) (p0 : 10 ≤ M 5 1 ∧ M 5 1 ≤ 10) : ∃ z M', xF d 39 [.inr 2] M = rI z M' ∧ ((-2 ≤ z ∧ z ≤ -2 ∧ 10 ≤ M' 5 1 ∧ M' 5 1 ≤ 10) ∨ (-4 ≤ z ∧ z ≤ -4 ∧ 10 ≤ M' 5 1 ∧ M' 5 1 ≤ 10) ∨ (0 ≤ z ∧ z ≤ 450 ∧ 1 ≤ M' 5 1 ∧ M' 5 1 ≤ 1)) := by
  have c0 : cOK gAll (xF d) 39 K_688 := (ct_of (d := d) ct_ok (show K_688 ∈ CT.getD 39 [] from (show CT.getD 39 [] = [K_678, K_679, K_680, K_681, K_682, K_683, K_684, K_685, K_686, K_687, K_688, K_689, K_435] from rfl) ▸ by simp) hd)
  obtain ⟨z, M', e, -, -, alt, ha, q, p⟩ := cOK_I c0 (A := [.inr 2]) (show aF2 gW [aRef 2] [.inr 2] from ⟨gW_o, trivial⟩) hM (show gP0 [(5, 1, (0, 10, 10, 0, 0, 0))] M from fun e he => by
    simp only [List.mem_cons, List.not_mem_nil, or_false] at he
    rcases he with rfl
    · exact gR_i p0.1 p0.2) rfl
  refine ⟨z, M', e, ?_⟩
  have ha : alt ∈ [(some (0, -2, -2, 0, 0, 0), [], [(0, 14, (0, 1, 10, 0, 0, 0)), (5, 1, (0, 10, 10, 0, 0, 0)), (7, 10, (0, 1, 10, 0, 0, 0))]), (some (0, -4, -4, 0, 0, 0), [], [(5, 1, (0, 10, 10, 0, 0, 0))]), (some (0, 0, 450, 0, 0, 0), [], [(0, 14, (0, 1, 10, 0, 0, 0)), (5, 1, (0, 1, 1, 0, 0, 0)), (6, 0, (0, -2147483648, 2147483647, 0, 0, 0)), (7, 9, (0, 1, 6, 0, 0, 0)), (7, 10, (0, 1, 10, 0, 0, 0))])] := ha
  simp only [List.mem_cons, List.not_mem_nil, or_false] at ha
  rcases ha with rfl | rfl | rfl
  · obtain ⟨z2, e2, r⟩ := gW_int (show gW _ _ from q) (Nat.le_of_ble_eq_true rfl)
    cases e2
    have := gR0 r
    have w := gR0 (show gR (0, 10, 10, 0, 0, 0) (M' 5 1) from (p _ (List.mem_cons_of_mem _ List.mem_cons_self)).1)
    omega
  · obtain ⟨z2, e2, r⟩ := gW_int (show gW _ _ from q) (Nat.le_of_ble_eq_true rfl)
    cases e2
    have := gR0 r
    have w := gR0 (show gR (0, 10, 10, 0, 0, 0) (M' 5 1) from (p _ List.mem_cons_self).1)
    omega
  · obtain ⟨z2, e2, r⟩ := gW_int (show gW _ _ from q) (Nat.le_of_ble_eq_true rfl)
    cases e2
    have := gR0 r
    have w := gR0 (show gR (0, 1, 1, 0, 0, 0) (M' 5 1) from (p _ (List.mem_cons_of_mem _ List.mem_cons_self)).1)
    omega
theorem nu_X_apart_11 {d : Nat} (hd : 6 ≤ d) {M : pM} (hM : gM gAll M) (p0 : 11 ≤ M 5 1 ∧ M 5 1 ≤ 11) : ∃ z M', xF d 39 [.inr 2] M = rI z M' ∧ ((-2 ≤ z ∧ z ≤ -2 ∧ 11 ≤ M' 5 1 ∧ M' 5 1 ≤ 11) ∨ (-4 ≤ z ∧ z ≤ -4 ∧ 11 ≤ M' 5 1 ∧ M' 5 1 ≤ 11) ∨ (0 ≤ z ∧ z ≤ 450 ∧ 1 ≤ M' 5 1 ∧ M' 5 1 ≤ 1)) := by
  have c0 : cOK gAll (xF d) 39 K_689 := (ct_of (d := d) ct_ok (show K_689 ∈ CT.getD 39 [] from (show CT.getD 39 [] = [K_678, K_679, K_680, K_681, K_682, K_683, K_684, K_685, K_686, K_687, K_688, K_689, K_435] from rfl) ▸ by simp) hd)
  obtain ⟨z, M', e, -, -, alt, ha, q, p⟩ := cOK_I c0 (A := [.inr 2]) (show aF2 gW [aRef 2] [.inr 2] from ⟨gW_o, trivial⟩) hM (show gP0 [(5, 1, (0, 11, 11, 0, 0, 0))] M from fun e he => by
    simp only [List.mem_cons, List.not_mem_nil, or_false] at he
    rcases he with rfl
    · exact gR_i p0.1 p0.2) rfl
  refine ⟨z, M', e, ?_⟩
  have ha : alt ∈ [(some (0, -2, -2, 0, 0, 0), [], [(0, 14, (0, 1, 10, 0, 0, 0)), (5, 1, (0, 11, 11, 0, 0, 0)), (7, 10, (0, 1, 10, 0, 0, 0))]), (some (0, -4, -4, 0, 0, 0), [], [(5, 1, (0, 11, 11, 0, 0, 0))]), (some (0, 0, 450, 0, 0, 0), [], [(0, 14, (0, 1, 10, 0, 0, 0)), (5, 1, (0, 1, 1, 0, 0, 0)), (6, 0, (0, -2147483648, 2147483647, 0, 0, 0)), (7, 9, (0, 1, 6, 0, 0, 0)), (7, 10, (0, 1, 10, 0, 0, 0))])] := ha
  simp only [List.mem_cons, List.not_mem_nil, or_false] at ha
  rcases ha with rfl | rfl | rfl
  · obtain ⟨z2, e2, r⟩ := gW_int (show gW _ _ from q) (Nat.le_of_ble_eq_true rfl)
    cases e2
    have := gR0 r
    have w := gR0 (show gR (0, 11, 11, 0, 0, 0) (M' 5 1) from (p _ (List.mem_cons_of_mem _ List.mem_cons_self)).1)
    omega
  · obtain ⟨z2, e2, r⟩ := gW_int (show gW _ _ from q) (Nat.le_of_ble_eq_true rfl)
    cases e2
    have := gR0 r
    have w := gR0 (show gR (0, 11, 11, 0, 0, 0) (M' 5 1) from (p _ List.mem_cons_self).1)
    omega
  · obtain ⟨z2, e2, r⟩ := gW_int (show gW _ _ from q) (Nat.le_of_ble_eq_true rfl)
    cases e2
    have := gR0 r
    have w := gR0 (show gR (0, 1, 1, 0, 0, 0) (M' 5 1) from (p _ (List.mem_cons_of_mem _ List.mem_cons_self)).1)
    omega
theorem nu_X_apart {d : Nat} (hd : 6 ≤ d) {M M' : pM} {v : Int} (hM : gM gAll M) {n : Nat} (hn : n ≤ 11) (hc : M 5 1 = (n : Int)) (e : xF d 39 [.inr 2] M = rI v M') : (-2 ≤ v ∧ v ≤ -2 ∧ M' 5 1 = (n : Int)) ∨ (-4 ≤ v ∧ v ≤ -4 ∧ M' 5 1 = (n : Int)) ∨ (0 ≤ v ∧ v ≤ 450 ∧ M' 5 1 = 1) := by
  rcases (show n = 0 ∨ n = 1 ∨ n = 2 ∨ n = 3 ∨ n = 4 ∨ n = 5 ∨ n = 6 ∨ n = 7 ∨ n = 8 ∨ n = 9 ∨ n = 10 ∨ n = 11 by omega) with rfl | rfl | rfl | rfl | rfl | rfl | rfl | rfl | rfl | rfl | rfl | rfl
  · obtain ⟨z, M2, e2, r⟩ := nu_X_apart_0 (d := d) (by omega) hM (by omega)
    obtain ⟨y1, y2⟩ := rI_inj (e.symm.trans e2)
    rw [y1, y2]
    omega
  · obtain ⟨z, M2, e2, r⟩ := nu_X_apart_1 (d := d) (by omega) hM (by omega)
    obtain ⟨y1, y2⟩ := rI_inj (e.symm.trans e2)
    rw [y1, y2]
    omega
  · obtain ⟨z, M2, e2, r⟩ := nu_X_apart_2 (d := d) (by omega) hM (by omega)
    obtain ⟨y1, y2⟩ := rI_inj (e.symm.trans e2)
    rw [y1, y2]
    omega
  · obtain ⟨z, M2, e2, r⟩ := nu_X_apart_3 (d := d) (by omega) hM (by omega)
    obtain ⟨y1, y2⟩ := rI_inj (e.symm.trans e2)
    rw [y1, y2]
    omega
  · obtain ⟨z, M2, e2, r⟩ := nu_X_apart_4 (d := d) (by omega) hM (by omega)
    obtain ⟨y1, y2⟩ := rI_inj (e.symm.trans e2)
    rw [y1, y2]
    omega
  · obtain ⟨z, M2, e2, r⟩ := nu_X_apart_5 (d := d) (by omega) hM (by omega)
    obtain ⟨y1, y2⟩ := rI_inj (e.symm.trans e2)
    rw [y1, y2]
    omega
  · obtain ⟨z, M2, e2, r⟩ := nu_X_apart_6 (d := d) (by omega) hM (by omega)
    obtain ⟨y1, y2⟩ := rI_inj (e.symm.trans e2)
    rw [y1, y2]
    omega
  · obtain ⟨z, M2, e2, r⟩ := nu_X_apart_7 (d := d) (by omega) hM (by omega)
    obtain ⟨y1, y2⟩ := rI_inj (e.symm.trans e2)
    rw [y1, y2]
    omega
  · obtain ⟨z, M2, e2, r⟩ := nu_X_apart_8 (d := d) (by omega) hM (by omega)
    obtain ⟨y1, y2⟩ := rI_inj (e.symm.trans e2)
    rw [y1, y2]
    omega
  · obtain ⟨z, M2, e2, r⟩ := nu_X_apart_9 (d := d) (by omega) hM (by omega)
    obtain ⟨y1, y2⟩ := rI_inj (e.symm.trans e2)
    rw [y1, y2]
    omega
  · obtain ⟨z, M2, e2, r⟩ := nu_X_apart_10 (d := d) (by omega) hM (by omega)
    obtain ⟨y1, y2⟩ := rI_inj (e.symm.trans e2)
    rw [y1, y2]
    omega
  · obtain ⟨z, M2, e2, r⟩ := nu_X_apart_11 (d := d) (by omega) hM (by omega)
    obtain ⟨y1, y2⟩ := rI_inj (e.symm.trans e2)
    rw [y1, y2]
    omega
theorem nu_X_best_0 {d : Nat} (hd : 32 ≤ d) {M : pM} (hM : gM gAll M) (p0 : 0 ≤ M 5 1 ∧ M 5 1 ≤ 0) : ∃ z M', xF d 23 [.inr 2] M = rI z M' ∧ ((-2 ≤ z ∧ z ≤ -2 ∧ 0 ≤ M' 5 1 ∧ M' 5 1 ≤ 0) ∨ (-3 ≤ z ∧ z ≤ -3 ∧ 0 ≤ M' 5 1 ∧ M' 5 1 ≤ 0) ∨ (1 ≤ z ∧ z ≤ 1 ∧ 1 ≤ M' 5 1 ∧ M' 5 1 ≤ 11)) := by
  have c0 : cOK gAll (xF d) 23 K_690 := (ct_of (d := d) ct_ok (show K_690 ∈ CT.getD 23 [] from (show CT.getD 23 [] = [K_751, K_690, K_691, K_692, K_693, K_694, K_695, K_696, K_697, K_698, K_699, K_700, K_701, K_753, K_755, K_757, K_759, K_761, K_763, K_765, K_767, K_769, K_771, K_389] from rfl) ▸ by simp) hd)
  obtain ⟨z, M', e, -, -, alt, ha, q, p⟩ := cOK_I c0 (A := [.inr 2]) (show aF2 gW [aRef 2] [.inr 2] from ⟨gW_o, trivial⟩) hM (show gP0 [(5, 1, (0, 0, 0, 0, 0, 0))] M from fun e he => by
    simp only [List.mem_cons, List.not_mem_nil, or_false] at he
    rcases he with rfl
    · exact gR_i p0.1 p0.2) rfl
  refine ⟨z, M', e, ?_⟩
  have ha : alt ∈ [(some (0, -2, -2, 0, 0, 0), [], [(5, 1, (0, 0, 0, 0, 0, 0))]), (some (0, -3, -3, 0, 0, 0), [], [(5, 1, (0, 0, 0, 0, 0, 0))]), (some (0, 1, 1, 0, 0, 0), [], [(5, 1, (0, 1, 11, 0, 0, 0))])] := ha
  simp only [List.mem_cons, List.not_mem_nil, or_false] at ha
  rcases ha with rfl | rfl | rfl
  · obtain ⟨z2, e2, r⟩ := gW_int (show gW _ _ from q) (Nat.le_of_ble_eq_true rfl)
    cases e2
    have := gR0 r
    have w := gR0 (show gR (0, 0, 0, 0, 0, 0) (M' 5 1) from (p _ List.mem_cons_self).1)
    omega
  · obtain ⟨z2, e2, r⟩ := gW_int (show gW _ _ from q) (Nat.le_of_ble_eq_true rfl)
    cases e2
    have := gR0 r
    have w := gR0 (show gR (0, 0, 0, 0, 0, 0) (M' 5 1) from (p _ List.mem_cons_self).1)
    omega
  · obtain ⟨z2, e2, r⟩ := gW_int (show gW _ _ from q) (Nat.le_of_ble_eq_true rfl)
    cases e2
    have := gR0 r
    have w := gR0 (show gR (0, 1, 11, 0, 0, 0) (M' 5 1) from (p _ List.mem_cons_self).1)
    omega
theorem nu_X_best_1 {d : Nat} (hd : 32 ≤ d) {M : pM} (hM : gM gAll M) (p0 : 1 ≤ M 5 1 ∧ M 5 1 ≤ 1) : ∃ z M', xF d 23 [.inr 2] M = rI z M' ∧ ((-2 ≤ z ∧ z ≤ -2 ∧ 1 ≤ M' 5 1 ∧ M' 5 1 ≤ 1) ∨ (-3 ≤ z ∧ z ≤ -3 ∧ 1 ≤ M' 5 1 ∧ M' 5 1 ≤ 1) ∨ (1 ≤ z ∧ z ≤ 1 ∧ 1 ≤ M' 5 1 ∧ M' 5 1 ≤ 11)) := by
  have c0 : cOK gAll (xF d) 23 K_691 := (ct_of (d := d) ct_ok (show K_691 ∈ CT.getD 23 [] from (show CT.getD 23 [] = [K_751, K_690, K_691, K_692, K_693, K_694, K_695, K_696, K_697, K_698, K_699, K_700, K_701, K_753, K_755, K_757, K_759, K_761, K_763, K_765, K_767, K_769, K_771, K_389] from rfl) ▸ by simp) hd)
  obtain ⟨z, M', e, -, -, alt, ha, q, p⟩ := cOK_I c0 (A := [.inr 2]) (show aF2 gW [aRef 2] [.inr 2] from ⟨gW_o, trivial⟩) hM (show gP0 [(5, 1, (0, 1, 1, 0, 0, 0))] M from fun e he => by
    simp only [List.mem_cons, List.not_mem_nil, or_false] at he
    rcases he with rfl
    · exact gR_i p0.1 p0.2) rfl
  refine ⟨z, M', e, ?_⟩
  have ha : alt ∈ [(some (0, -2, -2, 0, 0, 0), [], [(5, 1, (0, 1, 1, 0, 0, 0))]), (some (0, -3, -3, 0, 0, 0), [], [(5, 1, (0, 1, 1, 0, 0, 0))]), (some (0, 1, 1, 0, 0, 0), [], [(5, 1, (0, 1, 11, 0, 0, 0))])] := ha
  simp only [List.mem_cons, List.not_mem_nil, or_false] at ha
  rcases ha with rfl | rfl | rfl
  · obtain ⟨z2, e2, r⟩ := gW_int (show gW _ _ from q) (Nat.le_of_ble_eq_true rfl)
    cases e2
    have := gR0 r
    have w := gR0 (show gR (0, 1, 1, 0, 0, 0) (M' 5 1) from (p _ List.mem_cons_self).1)
    omega
  · obtain ⟨z2, e2, r⟩ := gW_int (show gW _ _ from q) (Nat.le_of_ble_eq_true rfl)
    cases e2
    have := gR0 r
    have w := gR0 (show gR (0, 1, 1, 0, 0, 0) (M' 5 1) from (p _ List.mem_cons_self).1)
    omega
  · obtain ⟨z2, e2, r⟩ := gW_int (show gW _ _ from q) (Nat.le_of_ble_eq_true rfl)
    cases e2
    have := gR0 r
    have w := gR0 (show gR (0, 1, 11, 0, 0, 0) (M' 5 1) from (p _ List.mem_cons_self).1)
    omega
theorem nu_X_best_2 {d : Nat} (hd : 32 ≤ d) {M : pM} (hM : gM gAll M) (p0 : 2 ≤ M 5 1 ∧ M 5 1 ≤ 2) : ∃ z M', xF d 23 [.inr 2] M = rI z M' ∧ ((-2 ≤ z ∧ z ≤ -2 ∧ 2 ≤ M' 5 1 ∧ M' 5 1 ≤ 2) ∨ (-3 ≤ z ∧ z ≤ -3 ∧ 2 ≤ M' 5 1 ∧ M' 5 1 ≤ 2) ∨ (1 ≤ z ∧ z ≤ 1 ∧ 1 ≤ M' 5 1 ∧ M' 5 1 ≤ 11)) := by
  have c0 : cOK gAll (xF d) 23 K_692 := (ct_of (d := d) ct_ok (show K_692 ∈ CT.getD 23 [] from (show CT.getD 23 [] = [K_751, K_690, K_691, K_692, K_693, K_694, K_695, K_696, K_697, K_698, K_699, K_700, K_701, K_753, K_755, K_757, K_759, K_761, K_763, K_765, K_767, K_769, K_771, K_389] from rfl) ▸ by simp) hd)
  obtain ⟨z, M', e, -, -, alt, ha, q, p⟩ := cOK_I c0 (A := [.inr 2]) (show aF2 gW [aRef 2] [.inr 2] from ⟨gW_o, trivial⟩) hM (show gP0 [(5, 1, (0, 2, 2, 0, 0, 0))] M from fun e he => by
    simp only [List.mem_cons, List.not_mem_nil, or_false] at he
    rcases he with rfl
    · exact gR_i p0.1 p0.2) rfl
  refine ⟨z, M', e, ?_⟩
  have ha : alt ∈ [(some (0, -2, -2, 0, 0, 0), [], [(5, 1, (0, 2, 2, 0, 0, 0))]), (some (0, -3, -3, 0, 0, 0), [], [(5, 1, (0, 2, 2, 0, 0, 0))]), (some (0, 1, 1, 0, 0, 0), [], [(5, 1, (0, 1, 11, 0, 0, 0))])] := ha
  simp only [List.mem_cons, List.not_mem_nil, or_false] at ha
  rcases ha with rfl | rfl | rfl
  · obtain ⟨z2, e2, r⟩ := gW_int (show gW _ _ from q) (Nat.le_of_ble_eq_true rfl)
    cases e2
    have := gR0 r
    have w := gR0 (show gR (0, 2, 2, 0, 0, 0) (M' 5 1) from (p _ List.mem_cons_self).1)
    omega
  · obtain ⟨z2, e2, r⟩ := gW_int (show gW _ _ from q) (Nat.le_of_ble_eq_true rfl)
    cases e2
    have := gR0 r
    have w := gR0 (show gR (0, 2, 2, 0, 0, 0) (M' 5 1) from (p _ List.mem_cons_self).1)
    omega
  · obtain ⟨z2, e2, r⟩ := gW_int (show gW _ _ from q) (Nat.le_of_ble_eq_true rfl)
    cases e2
    have := gR0 r
    have w := gR0 (show gR (0, 1, 11, 0, 0, 0) (M' 5 1) from (p _ List.mem_cons_self).1)
    omega
theorem nu_X_best_3 {d : Nat} (hd : 32 ≤ d) {M : pM} (hM : gM gAll M) (p0 : 3 ≤ M 5 1 ∧ M 5 1 ≤ 3) : ∃ z M', xF d 23 [.inr 2] M = rI z M' ∧ ((-2 ≤ z ∧ z ≤ -2 ∧ 3 ≤ M' 5 1 ∧ M' 5 1 ≤ 3) ∨ (-3 ≤ z ∧ z ≤ -3 ∧ 3 ≤ M' 5 1 ∧ M' 5 1 ≤ 3) ∨ (1 ≤ z ∧ z ≤ 1 ∧ 1 ≤ M' 5 1 ∧ M' 5 1 ≤ 11)) := by
  have c0 : cOK gAll (xF d) 23 K_693 := (ct_of (d := d) ct_ok (show K_693 ∈ CT.getD 23 [] from (show CT.getD 23 [] = [K_751, K_690, K_691, K_692, K_693, K_694, K_695, K_696, K_697, K_698, K_699, K_700, K_701, K_753, K_755, K_757, K_759, K_761, K_763, K_765, K_767, K_769, K_771, K_389] from rfl) ▸ by simp) hd)
  obtain ⟨z, M', e, -, -, alt, ha, q, p⟩ := cOK_I c0 (A := [.inr 2]) (show aF2 gW [aRef 2] [.inr 2] from ⟨gW_o, trivial⟩) hM (show gP0 [(5, 1, (0, 3, 3, 0, 0, 0))] M from fun e he => by
    simp only [List.mem_cons, List.not_mem_nil, or_false] at he
    rcases he with rfl
    · exact gR_i p0.1 p0.2) rfl
  refine ⟨z, M', e, ?_⟩
  have ha : alt ∈ [(some (0, -2, -2, 0, 0, 0), [], [(5, 1, (0, 3, 3, 0, 0, 0))]), (some (0, -3, -3, 0, 0, 0), [], [(5, 1, (0, 3, 3, 0, 0, 0))]), (some (0, 1, 1, 0, 0, 0), [], [(5, 1, (0, 1, 11, 0, 0, 0))])] := ha
  simp only [List.mem_cons, List.not_mem_nil, or_false] at ha
  rcases ha with rfl | rfl | rfl
  · obtain ⟨z2, e2, r⟩ := gW_int (show gW _ _ from q) (Nat.le_of_ble_eq_true rfl)
    cases e2
    have := gR0 r
    have w := gR0 (show gR (0, 3, 3, 0, 0, 0) (M' 5 1) from (p _ List.mem_cons_self).1)
    omega
  · obtain ⟨z2, e2, r⟩ := gW_int (show gW _ _ from q) (Nat.le_of_ble_eq_true rfl)
    cases e2
    have := gR0 r
    have w := gR0 (show gR (0, 3, 3, 0, 0, 0) (M' 5 1) from (p _ List.mem_cons_self).1)
    omega
  · obtain ⟨z2, e2, r⟩ := gW_int (show gW _ _ from q) (Nat.le_of_ble_eq_true rfl)
    cases e2
    have := gR0 r
    have w := gR0 (show gR (0, 1, 11, 0, 0, 0) (M' 5 1) from (p _ List.mem_cons_self).1)
    omega
theorem nu_X_best_4 {d : Nat} (hd : 32 ≤ d) {M : pM} (hM : gM gAll M) (p0 : 4 ≤ M 5 1 ∧ M 5 1 ≤ 4) : ∃ z M', xF d 23 [.inr 2] M = rI z M' ∧ ((-2 ≤ z ∧ z ≤ -2 ∧ 4 ≤ M' 5 1 ∧ M' 5 1 ≤ 4) ∨ (-3 ≤ z ∧ z ≤ -3 ∧ 4 ≤ M' 5 1 ∧ M' 5 1 ≤ 4) ∨ (1 ≤ z ∧ z ≤ 1 ∧ 1 ≤ M' 5 1 ∧ M' 5 1 ≤ 11)) := by
  have c0 : cOK gAll (xF d) 23 K_694 := (ct_of (d := d) ct_ok (show K_694 ∈ CT.getD 23 [] from (show CT.getD 23 [] = [K_751, K_690, K_691, K_692, K_693, K_694, K_695, K_696, K_697, K_698, K_699, K_700, K_701, K_753, K_755, K_757, K_759, K_761, K_763, K_765, K_767, K_769, K_771, K_389] from rfl) ▸ by simp) hd)
  obtain ⟨z, M', e, -, -, alt, ha, q, p⟩ := cOK_I c0 (A := [.inr 2]) (show aF2 gW [aRef 2] [.inr 2] from ⟨gW_o, trivial⟩) hM (show gP0 [(5, 1, (0, 4, 4, 0, 0, 0))] M from fun e he => by
    simp only [List.mem_cons, List.not_mem_nil, or_false] at he
    rcases he with rfl
    · exact gR_i p0.1 p0.2) rfl
  refine ⟨z, M', e, ?_⟩
  have ha : alt ∈ [(some (0, -2, -2, 0, 0, 0), [], [(5, 1, (0, 4, 4, 0, 0, 0))]), (some (0, -3, -3, 0, 0, 0), [], [(5, 1, (0, 4, 4, 0, 0, 0))]), (some (0, 1, 1, 0, 0, 0), [], [(5, 1, (0, 1, 11, 0, 0, 0))])] := ha
  simp only [List.mem_cons, List.not_mem_nil, or_false] at ha
  rcases ha with rfl | rfl | rfl
  · obtain ⟨z2, e2, r⟩ := gW_int (show gW _ _ from q) (Nat.le_of_ble_eq_true rfl)
    cases e2
    have := gR0 r
    have w := gR0 (show gR (0, 4, 4, 0, 0, 0) (M' 5 1) from (p _ List.mem_cons_self).1)
    omega
  · obtain ⟨z2, e2, r⟩ := gW_int (show gW _ _ from q) (Nat.le_of_ble_eq_true rfl)
    cases e2
    have := gR0 r
    have w := gR0 (show gR (0, 4, 4, 0, 0, 0) (M' 5 1) from (p _ List.mem_cons_self).1)
    omega
  · obtain ⟨z2, e2, r⟩ := gW_int (show gW _ _ from q) (Nat.le_of_ble_eq_true rfl)
    cases e2
    have := gR0 r
    have w := gR0 (show gR (0, 1, 11, 0, 0, 0) (M' 5 1) from (p _ List.mem_cons_self).1)
    omega
theorem nu_X_best_5 {d : Nat} (hd : 32 ≤ d) {M : pM} (hM : gM gAll M) (p0 : 5 ≤ M 5 1 ∧ M 5 1 ≤ 5) : ∃ z M', xF d 23 [.inr 2] M = rI z M' ∧ ((-2 ≤ z ∧ z ≤ -2 ∧ 5 ≤ M' 5 1 ∧ M' 5 1 ≤ 5) ∨ (-3 ≤ z ∧ z ≤ -3 ∧ 5 ≤ M' 5 1 ∧ M' 5 1 ≤ 5) ∨ (1 ≤ z ∧ z ≤ 1 ∧ 1 ≤ M' 5 1 ∧ M' 5 1 ≤ 11)) := by
  have c0 : cOK gAll (xF d) 23 K_695 := (ct_of (d := d) ct_ok (show K_695 ∈ CT.getD 23 [] from (show CT.getD 23 [] = [K_751, K_690, K_691, K_692, K_693, K_694, K_695, K_696, K_697, K_698, K_699, K_700, K_701, K_753, K_755, K_757, K_759, K_761, K_763, K_765, K_767, K_769, K_771, K_389] from rfl) ▸ by simp) hd)
  obtain ⟨z, M', e, -, -, alt, ha, q, p⟩ := cOK_I c0 (A := [.inr 2]) (show aF2 gW [aRef 2] [.inr 2] from ⟨gW_o, trivial⟩) hM (show gP0 [(5, 1, (0, 5, 5, 0, 0, 0))] M from fun e he => by
    simp only [List.mem_cons, List.not_mem_nil, or_false] at he
    rcases he with rfl
    · exact gR_i p0.1 p0.2) rfl
  refine ⟨z, M', e, ?_⟩
  have ha : alt ∈ [(some (0, -2, -2, 0, 0, 0), [], [(5, 1, (0, 5, 5, 0, 0, 0))]), (some (0, -3, -3, 0, 0, 0), [], [(5, 1, (0, 5, 5, 0, 0, 0))]), (some (0, 1, 1, 0, 0, 0), [], [(5, 1, (0, 1, 11, 0, 0, 0))])] := ha
  simp only [List.mem_cons, List.not_mem_nil, or_false] at ha
  rcases ha with rfl | rfl | rfl
  · obtain ⟨z2, e2, r⟩ := gW_int (show gW _ _ from q) (Nat.le_of_ble_eq_true rfl)
    cases e2
    have := gR0 r
    have w := gR0 (show gR (0, 5, 5, 0, 0, 0) (M' 5 1) from (p _ List.mem_cons_self).1)
    omega
  · obtain ⟨z2, e2, r⟩ := gW_int (show gW _ _ from q) (Nat.le_of_ble_eq_true rfl)
    cases e2
    have := gR0 r
    have w := gR0 (show gR (0, 5, 5, 0, 0, 0) (M' 5 1) from (p _ List.mem_cons_self).1)
    omega
  · obtain ⟨z2, e2, r⟩ := gW_int (show gW _ _ from q) (Nat.le_of_ble_eq_true rfl)
    cases e2
    have := gR0 r
    have w := gR0 (show gR (0, 1, 11, 0, 0, 0) (M' 5 1) from (p _ List.mem_cons_self).1)
    omega
theorem nu_X_best_6 {d : Nat} (hd : 32 ≤ d) {M : pM} (hM : gM gAll M) (p0 : 6 ≤ M 5 1 ∧ M 5 1 ≤ 6) : ∃ z M', xF d 23 [.inr 2] M = rI z M' ∧ ((-2 ≤ z ∧ z ≤ -2 ∧ 6 ≤ M' 5 1 ∧ M' 5 1 ≤ 6) ∨ (-3 ≤ z ∧ z ≤ -3 ∧ 6 ≤ M' 5 1 ∧ M' 5 1 ≤ 6) ∨ (1 ≤ z ∧ z ≤ 1 ∧ 1 ≤ M' 5 1 ∧ M' 5 1 ≤ 11)) := by
  have c0 : cOK gAll (xF d) 23 K_696 := (ct_of (d := d) ct_ok (show K_696 ∈ CT.getD 23 [] from (show CT.getD 23 [] = [K_751, K_690, K_691, K_692, K_693, K_694, K_695, K_696, K_697, K_698, K_699, K_700, K_701, K_753, K_755, K_757, K_759, K_761, K_763, K_765, K_767, K_769, K_771, K_389] from rfl) ▸ by simp) hd)
  obtain ⟨z, M', e, -, -, alt, ha, q, p⟩ := cOK_I c0 (A := [.inr 2]) (show aF2 gW [aRef 2] [.inr 2] from ⟨gW_o, trivial⟩) hM (show gP0 [(5, 1, (0, 6, 6, 0, 0, 0))] M from fun e he => by
    simp only [List.mem_cons, List.not_mem_nil, or_false] at he
    rcases he with rfl
    · exact gR_i p0.1 p0.2) rfl
  refine ⟨z, M', e, ?_⟩
  have ha : alt ∈ [(some (0, -2, -2, 0, 0, 0), [], [(5, 1, (0, 6, 6, 0, 0, 0))]), (some (0, -3, -3, 0, 0, 0), [], [(5, 1, (0, 6, 6, 0, 0, 0))]), (some (0, 1, 1, 0, 0, 0), [], [(5, 1, (0, 1, 11, 0, 0, 0))])] := ha
  simp only [List.mem_cons, List.not_mem_nil, or_false] at ha
  rcases ha with rfl | rfl | rfl
  · obtain ⟨z2, e2, r⟩ := gW_int (show gW _ _ from q) (Nat.le_of_ble_eq_true rfl)
    cases e2
    have := gR0 r
    have w := gR0 (show gR (0, 6, 6, 0, 0, 0) (M' 5 1) from (p _ List.mem_cons_self).1)
    omega
  · obtain ⟨z2, e2, r⟩ := gW_int (show gW _ _ from q) (Nat.le_of_ble_eq_true rfl)
    cases e2
    have := gR0 r
    have w := gR0 (show gR (0, 6, 6, 0, 0, 0) (M' 5 1) from (p _ List.mem_cons_self).1)
    omega
  · obtain ⟨z2, e2, r⟩ := gW_int (show gW _ _ from q) (Nat.le_of_ble_eq_true rfl)
    cases e2
    have := gR0 r
    have w := gR0 (show gR (0, 1, 11, 0, 0, 0) (M' 5 1) from (p _ List.mem_cons_self).1)
    omega
theorem nu_X_best_7 {d : Nat} (hd : 32 ≤ d) {M : pM} (hM : gM gAll M) (p0 : 7 ≤ M 5 1 ∧ M 5 1 ≤ 7) : ∃ z M', xF d 23 [.inr 2] M = rI z M' ∧ ((-2 ≤ z ∧ z ≤ -2 ∧ 7 ≤ M' 5 1 ∧ M' 5 1 ≤ 7) ∨ (-3 ≤ z ∧ z ≤ -3 ∧ 7 ≤ M' 5 1 ∧ M' 5 1 ≤ 7) ∨ (1 ≤ z ∧ z ≤ 1 ∧ 1 ≤ M' 5 1 ∧ M' 5 1 ≤ 11)) := by
  have c0 : cOK gAll (xF d) 23 K_697 := (ct_of (d := d) ct_ok (show K_697 ∈ CT.getD 23 [] from (show CT.getD 23 [] = [K_751, K_690, K_691, K_692, K_693, K_694, K_695, K_696, K_697, K_698, K_699, K_700, K_701, K_753, K_755, K_757, K_759, K_761, K_763, K_765, K_767, K_769, K_771, K_389] from rfl) ▸ by simp) hd)
  obtain ⟨z, M', e, -, -, alt, ha, q, p⟩ := cOK_I c0 (A := [.inr 2]) (show aF2 gW [aRef 2] [.inr 2] from ⟨gW_o, trivial⟩) hM (show gP0 [(5, 1, (0, 7, 7, 0, 0, 0))] M from fun e he => by
    simp only [List.mem_cons, List.not_mem_nil, or_false] at he
    rcases he with rfl
    · exact gR_i p0.1 p0.2) rfl
  refine ⟨z, M', e, ?_⟩
  have ha : alt ∈ [(some (0, -2, -2, 0, 0, 0), [], [(5, 1, (0, 7, 7, 0, 0, 0))]), (some (0, -3, -3, 0, 0, 0), [], [(5, 1, (0, 7, 7, 0, 0, 0))]), (some (0, 1, 1, 0, 0, 0), [], [(5, 1, (0, 1, 11, 0, 0, 0))])] := ha
  simp only [List.mem_cons, List.not_mem_nil, or_false] at ha
  rcases ha with rfl | rfl | rfl
  · obtain ⟨z2, e2, r⟩ := gW_int (show gW _ _ from q) (Nat.le_of_ble_eq_true rfl)
    cases e2
    have := gR0 r
    have w := gR0 (show gR (0, 7, 7, 0, 0, 0) (M' 5 1) from (p _ List.mem_cons_self).1)
    omega
  · obtain ⟨z2, e2, r⟩ := gW_int (show gW _ _ from q) (Nat.le_of_ble_eq_true rfl)
    cases e2
    have := gR0 r
    have w := gR0 (show gR (0, 7, 7, 0, 0, 0) (M' 5 1) from (p _ List.mem_cons_self).1)
    omega
  · obtain ⟨z2, e2, r⟩ := gW_int (show gW _ _ from q) (Nat.le_of_ble_eq_true rfl)
    cases e2
    have := gR0 r
    have w := gR0 (show gR (0, 1, 11, 0, 0, 0) (M' 5 1) from (p _ List.mem_cons_self).1)
    omega
theorem nu_X_best_8 {d : Nat} (hd : 32 ≤ d) {M : pM} (hM : gM gAll M) (p0 : 8 ≤ M 5 1 ∧ M 5 1 ≤ 8) : ∃ z M', xF d 23 [.inr 2] M = rI z M' ∧ ((-2 ≤ z ∧ z ≤ -2 ∧ 8 ≤ M' 5 1 ∧ M' 5 1 ≤ 8) ∨ (-3 ≤ z ∧ z ≤ -3 ∧ 8 ≤ M' 5 1 ∧ M' 5 1 ≤ 8) ∨ (1 ≤ z ∧ z ≤ 1 ∧ 1 ≤ M' 5 1 ∧ M' 5 1 ≤ 11)) := by
  have c0 : cOK gAll (xF d) 23 K_698 := (ct_of (d := d) ct_ok (show K_698 ∈ CT.getD 23 [] from (show CT.getD 23 [] = [K_751, K_690, K_691, K_692, K_693, K_694, K_695, K_696, K_697, K_698, K_699, K_700, K_701, K_753, K_755, K_757, K_759, K_761, K_763, K_765, K_767, K_769, K_771, K_389] from rfl) ▸ by simp) hd)
  obtain ⟨z, M', e, -, -, alt, ha, q, p⟩ := cOK_I c0 (A := [.inr 2]) (show aF2 gW [aRef 2] [.inr 2] from ⟨gW_o, trivial⟩) hM (show gP0 [(5, 1, (0, 8, 8, 0, 0, 0))] M from fun e he => by
    simp only [List.mem_cons, List.not_mem_nil, or_false] at he
    rcases he with rfl
    · exact gR_i p0.1 p0.2) rfl
  refine ⟨z, M', e, ?_⟩
  have ha : alt ∈ [(some (0, -2, -2, 0, 0, 0), [], [(5, 1, (0, 8, 8, 0, 0, 0))]), (some (0, -3, -3, 0, 0, 0), [], [(5, 1, (0, 8, 8, 0, 0, 0))]), (some (0, 1, 1, 0, 0, 0), [], [(5, 1, (0, 1, 11, 0, 0, 0))])] := ha
  simp only [List.mem_cons, List.not_mem_nil, or_false] at ha
  rcases ha with rfl | rfl | rfl
  · obtain ⟨z2, e2, r⟩ := gW_int (show gW _ _ from q) (Nat.le_of_ble_eq_true rfl)
    cases e2
    have := gR0 r
    have w := gR0 (show gR (0, 8, 8, 0, 0, 0) (M' 5 1) from (p _ List.mem_cons_self).1)
    omega
  · obtain ⟨z2, e2, r⟩ := gW_int (show gW _ _ from q) (Nat.le_of_ble_eq_true rfl)
    cases e2
    have := gR0 r
    have w := gR0 (show gR (0, 8, 8, 0, 0, 0) (M' 5 1) from (p _ List.mem_cons_self).1)
    omega
  · obtain ⟨z2, e2, r⟩ := gW_int (show gW _ _ from q) (Nat.le_of_ble_eq_true rfl)
    cases e2
    have := gR0 r
    have w := gR0 (show gR (0, 1, 11, 0, 0, 0) (M' 5 1) from (p _ List.mem_cons_self).1)
    omega
