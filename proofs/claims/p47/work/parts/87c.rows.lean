/-! more of that (by program) -/
theorem nu_X_evenings_2 {d : Nat} (hd : 8 ≤ d) {M : pM} (hM : gM gAll M) (p0 : 2 ≤ M 5 1 ∧ M 5 1 ≤ 2) : ∃ z M', xF d 41 [.inr 2] M = rI z M' ∧ ((-2 ≤ z ∧ z ≤ -2 ∧ 2 ≤ M' 5 1 ∧ M' 5 1 ≤ 2) ∨ (-3 ≤ z ∧ z ≤ -3 ∧ 2 ≤ M' 5 1 ∧ M' 5 1 ≤ 2) ∨ (-4 ≤ z ∧ z ≤ -4 ∧ 2 ≤ M' 5 1 ∧ M' 5 1 ≤ 2) ∨ (0 ≤ z ∧ z ≤ 0 ∧ 1 ≤ M' 5 1 ∧ M' 5 1 ≤ 1) ∨ (1 ≤ z ∧ z ≤ 300 ∧ 2 ≤ M' 5 1 ∧ M' 5 1 ≤ 11)) := by
  have c0 : cOK gAll (xF d) 41 K_731 := (ct_of (d := d) ct_ok (show K_731 ∈ CT.getD 41 [] from (show CT.getD 41 [] = [K_816, K_727, K_729, K_731, K_733, K_735, K_737, K_739, K_741, K_743, K_745, K_747, K_749, K_817, K_818, K_819, K_820, K_821, K_822, K_823, K_824, K_825, K_826, K_460] from rfl) ▸ by simp) hd)
  obtain ⟨z, M', e, -, -, alt, ha, q, p⟩ := cOK_I c0 (A := [.inr 2]) (show aF2 gW [aRef 2] [.inr 2] from ⟨gW_o, trivial⟩) hM (show gP0 [(5, 1, (0, 2, 2, 0, 0, 0))] M from fun e he => by
    simp only [List.mem_cons, List.not_mem_nil, or_false] at he
    rcases he with rfl
    · exact gR_i p0.1 p0.2) rfl
  refine ⟨z, M', e, ?_⟩
  have ha : alt ∈ [(some (0, -2, -2, 0, 0, 0), [], [(0, 14, (0, 1, 10, 0, 0, 0)), (5, 1, (0, 2, 2, 0, 0, 0)), (7, 10, (0, 1, 10, 0, 0, 0))]), (some (0, -3, -3, 0, 0, 0), [], [(0, 14, (0, 1, 10, 0, 0, 0)), (5, 1, (0, 2, 2, 0, 0, 0)), (7, 10, (0, 1, 10, 0, 0, 0))]), (some (0, -4, -4, 0, 0, 0), [], [(5, 1, (0, 2, 2, 0, 0, 0))]), (some (0, 0, 0, 0, 0, 0), [], [(0, 14, (0, 1, 10, 0, 0, 0)), (5, 1, (0, 1, 1, 0, 0, 0)), (6, 0, (0, -2147483648, 2147483647, 0, 0, 0)), (7, 10, (0, 1, 10, 0, 0, 0))]), (some (0, 1, 300, 0, 0, 0), [], [(0, 14, (0, 1, 10, 0, 0, 0)), (5, 1, (0, 2, 11, 0, 0, 0)), (7, 10, (0, 1, 10, 0, 0, 0)), (52, 5, (0, 1, 300, 0, 0, 0)), (52, 7, (0, 0, 299, 0, 0, 0)), (52, 9, (0, 0, 299, 0, 0, 0))])] := ha
  simp only [List.mem_cons, List.not_mem_nil, or_false] at ha
  rcases ha with rfl | rfl | rfl | rfl | rfl
  · obtain ⟨z2, e2, r⟩ := gW_int (show gW _ _ from q) (Nat.le_of_ble_eq_true rfl)
    cases e2
    have := gR0 r
    have w := gR0 (show gR (0, 2, 2, 0, 0, 0) (M' 5 1) from (p _ (List.mem_cons_of_mem _ List.mem_cons_self)).1)
    exact Or.inl ⟨this.1, this.2, w.1, w.2⟩
  · obtain ⟨z2, e2, r⟩ := gW_int (show gW _ _ from q) (Nat.le_of_ble_eq_true rfl)
    cases e2
    have := gR0 r
    have w := gR0 (show gR (0, 2, 2, 0, 0, 0) (M' 5 1) from (p _ (List.mem_cons_of_mem _ List.mem_cons_self)).1)
    exact Or.inr (Or.inl ⟨this.1, this.2, w.1, w.2⟩)
  · obtain ⟨z2, e2, r⟩ := gW_int (show gW _ _ from q) (Nat.le_of_ble_eq_true rfl)
    cases e2
    have := gR0 r
    have w := gR0 (show gR (0, 2, 2, 0, 0, 0) (M' 5 1) from (p _ List.mem_cons_self).1)
    exact Or.inr (Or.inr (Or.inl ⟨this.1, this.2, w.1, w.2⟩))
  · obtain ⟨z2, e2, r⟩ := gW_int (show gW _ _ from q) (Nat.le_of_ble_eq_true rfl)
    cases e2
    have := gR0 r
    have w := gR0 (show gR (0, 1, 1, 0, 0, 0) (M' 5 1) from (p _ (List.mem_cons_of_mem _ List.mem_cons_self)).1)
    exact Or.inr (Or.inr (Or.inr (Or.inl ⟨this.1, this.2, w.1, w.2⟩)))
  · obtain ⟨z2, e2, r⟩ := gW_int (show gW _ _ from q) (Nat.le_of_ble_eq_true rfl)
    cases e2
    have := gR0 r
    have w := gR0 (show gR (0, 2, 11, 0, 0, 0) (M' 5 1) from (p _ (List.mem_cons_of_mem _ List.mem_cons_self)).1)
    exact Or.inr (Or.inr (Or.inr (Or.inr ⟨this.1, this.2, w.1, w.2⟩)))
theorem nu_X_evenings_3 {d : Nat} (hd : 8 ≤ d) {M : pM} (hM : gM gAll M) (p0 : 3 ≤ M 5 1 ∧ M 5 1 ≤ 3) : ∃ z M', xF d 41 [.inr 2] M = rI z M' ∧ ((-2 ≤ z ∧ z ≤ -2 ∧ 3 ≤ M' 5 1 ∧ M' 5 1 ≤ 3) ∨ (-3 ≤ z ∧ z ≤ -3 ∧ 3 ≤ M' 5 1 ∧ M' 5 1 ≤ 3) ∨ (-4 ≤ z ∧ z ≤ -4 ∧ 3 ≤ M' 5 1 ∧ M' 5 1 ≤ 3) ∨ (0 ≤ z ∧ z ≤ 0 ∧ 1 ≤ M' 5 1 ∧ M' 5 1 ≤ 1) ∨ (1 ≤ z ∧ z ≤ 300 ∧ 2 ≤ M' 5 1 ∧ M' 5 1 ≤ 11)) := by
  have c0 : cOK gAll (xF d) 41 K_733 := (ct_of (d := d) ct_ok (show K_733 ∈ CT.getD 41 [] from (show CT.getD 41 [] = [K_816, K_727, K_729, K_731, K_733, K_735, K_737, K_739, K_741, K_743, K_745, K_747, K_749, K_817, K_818, K_819, K_820, K_821, K_822, K_823, K_824, K_825, K_826, K_460] from rfl) ▸ by simp) hd)
  obtain ⟨z, M', e, -, -, alt, ha, q, p⟩ := cOK_I c0 (A := [.inr 2]) (show aF2 gW [aRef 2] [.inr 2] from ⟨gW_o, trivial⟩) hM (show gP0 [(5, 1, (0, 3, 3, 0, 0, 0))] M from fun e he => by
    simp only [List.mem_cons, List.not_mem_nil, or_false] at he
    rcases he with rfl
    · exact gR_i p0.1 p0.2) rfl
  refine ⟨z, M', e, ?_⟩
  have ha : alt ∈ [(some (0, -2, -2, 0, 0, 0), [], [(0, 14, (0, 1, 10, 0, 0, 0)), (5, 1, (0, 3, 3, 0, 0, 0)), (7, 10, (0, 1, 10, 0, 0, 0))]), (some (0, -3, -3, 0, 0, 0), [], [(0, 14, (0, 1, 10, 0, 0, 0)), (5, 1, (0, 3, 3, 0, 0, 0)), (7, 10, (0, 1, 10, 0, 0, 0))]), (some (0, -4, -4, 0, 0, 0), [], [(5, 1, (0, 3, 3, 0, 0, 0))]), (some (0, 0, 0, 0, 0, 0), [], [(0, 14, (0, 1, 10, 0, 0, 0)), (5, 1, (0, 1, 1, 0, 0, 0)), (6, 0, (0, -2147483648, 2147483647, 0, 0, 0)), (7, 10, (0, 1, 10, 0, 0, 0))]), (some (0, 1, 300, 0, 0, 0), [], [(0, 14, (0, 1, 10, 0, 0, 0)), (5, 1, (0, 2, 11, 0, 0, 0)), (7, 10, (0, 1, 10, 0, 0, 0)), (52, 5, (0, 1, 300, 0, 0, 0)), (52, 7, (0, 0, 299, 0, 0, 0)), (52, 9, (0, 0, 299, 0, 0, 0))])] := ha
  simp only [List.mem_cons, List.not_mem_nil, or_false] at ha
  rcases ha with rfl | rfl | rfl | rfl | rfl
  · obtain ⟨z2, e2, r⟩ := gW_int (show gW _ _ from q) (Nat.le_of_ble_eq_true rfl)
    cases e2
    have := gR0 r
    have w := gR0 (show gR (0, 3, 3, 0, 0, 0) (M' 5 1) from (p _ (List.mem_cons_of_mem _ List.mem_cons_self)).1)
    exact Or.inl ⟨this.1, this.2, w.1, w.2⟩
  · obtain ⟨z2, e2, r⟩ := gW_int (show gW _ _ from q) (Nat.le_of_ble_eq_true rfl)
    cases e2
    have := gR0 r
    have w := gR0 (show gR (0, 3, 3, 0, 0, 0) (M' 5 1) from (p _ (List.mem_cons_of_mem _ List.mem_cons_self)).1)
    exact Or.inr (Or.inl ⟨this.1, this.2, w.1, w.2⟩)
  · obtain ⟨z2, e2, r⟩ := gW_int (show gW _ _ from q) (Nat.le_of_ble_eq_true rfl)
    cases e2
    have := gR0 r
    have w := gR0 (show gR (0, 3, 3, 0, 0, 0) (M' 5 1) from (p _ List.mem_cons_self).1)
    exact Or.inr (Or.inr (Or.inl ⟨this.1, this.2, w.1, w.2⟩))
  · obtain ⟨z2, e2, r⟩ := gW_int (show gW _ _ from q) (Nat.le_of_ble_eq_true rfl)
    cases e2
    have := gR0 r
    have w := gR0 (show gR (0, 1, 1, 0, 0, 0) (M' 5 1) from (p _ (List.mem_cons_of_mem _ List.mem_cons_self)).1)
    exact Or.inr (Or.inr (Or.inr (Or.inl ⟨this.1, this.2, w.1, w.2⟩)))
  · obtain ⟨z2, e2, r⟩ := gW_int (show gW _ _ from q) (Nat.le_of_ble_eq_true rfl)
    cases e2
    have := gR0 r
    have w := gR0 (show gR (0, 2, 11, 0, 0, 0) (M' 5 1) from (p _ (List.mem_cons_of_mem _ List.mem_cons_self)).1)
    exact Or.inr (Or.inr (Or.inr (Or.inr ⟨this.1, this.2, w.1, w.2⟩)))
theorem nu_X_evenings_4 {d : Nat} (hd : 8 ≤ d) {M : pM} (hM : gM gAll M) (p0 : 4 ≤ M 5 1 ∧ M 5 1 ≤ 4) : ∃ z M', xF d 41 [.inr 2] M = rI z M' ∧ ((-2 ≤ z ∧ z ≤ -2 ∧ 4 ≤ M' 5 1 ∧ M' 5 1 ≤ 4) ∨ (-3 ≤ z ∧ z ≤ -3 ∧ 4 ≤ M' 5 1 ∧ M' 5 1 ≤ 4) ∨ (-4 ≤ z ∧ z ≤ -4 ∧ 4 ≤ M' 5 1 ∧ M' 5 1 ≤ 4) ∨ (0 ≤ z ∧ z ≤ 0 ∧ 1 ≤ M' 5 1 ∧ M' 5 1 ≤ 1) ∨ (1 ≤ z ∧ z ≤ 300 ∧ 2 ≤ M' 5 1 ∧ M' 5 1 ≤ 11)) := by
  have c0 : cOK gAll (xF d) 41 K_735 := (ct_of (d := d) ct_ok (show K_735 ∈ CT.getD 41 [] from (show CT.getD 41 [] = [K_816, K_727, K_729, K_731, K_733, K_735, K_737, K_739, K_741, K_743, K_745, K_747, K_749, K_817, K_818, K_819, K_820, K_821, K_822, K_823, K_824, K_825, K_826, K_460] from rfl) ▸ by simp) hd)
  obtain ⟨z, M', e, -, -, alt, ha, q, p⟩ := cOK_I c0 (A := [.inr 2]) (show aF2 gW [aRef 2] [.inr 2] from ⟨gW_o, trivial⟩) hM (show gP0 [(5, 1, (0, 4, 4, 0, 0, 0))] M from fun e he => by
    simp only [List.mem_cons, List.not_mem_nil, or_false] at he
    rcases he with rfl
    · exact gR_i p0.1 p0.2) rfl
  refine ⟨z, M', e, ?_⟩
  have ha : alt ∈ [(some (0, -2, -2, 0, 0, 0), [], [(0, 14, (0, 1, 10, 0, 0, 0)), (5, 1, (0, 4, 4, 0, 0, 0)), (7, 10, (0, 1, 10, 0, 0, 0))]), (some (0, -3, -3, 0, 0, 0), [], [(0, 14, (0, 1, 10, 0, 0, 0)), (5, 1, (0, 4, 4, 0, 0, 0)), (7, 10, (0, 1, 10, 0, 0, 0))]), (some (0, -4, -4, 0, 0, 0), [], [(5, 1, (0, 4, 4, 0, 0, 0))]), (some (0, 0, 0, 0, 0, 0), [], [(0, 14, (0, 1, 10, 0, 0, 0)), (5, 1, (0, 1, 1, 0, 0, 0)), (6, 0, (0, -2147483648, 2147483647, 0, 0, 0)), (7, 10, (0, 1, 10, 0, 0, 0))]), (some (0, 1, 300, 0, 0, 0), [], [(0, 14, (0, 1, 10, 0, 0, 0)), (5, 1, (0, 2, 11, 0, 0, 0)), (7, 10, (0, 1, 10, 0, 0, 0)), (52, 5, (0, 1, 300, 0, 0, 0)), (52, 7, (0, 0, 299, 0, 0, 0)), (52, 9, (0, 0, 299, 0, 0, 0))])] := ha
  simp only [List.mem_cons, List.not_mem_nil, or_false] at ha
  rcases ha with rfl | rfl | rfl | rfl | rfl
  · obtain ⟨z2, e2, r⟩ := gW_int (show gW _ _ from q) (Nat.le_of_ble_eq_true rfl)
    cases e2
    have := gR0 r
    have w := gR0 (show gR (0, 4, 4, 0, 0, 0) (M' 5 1) from (p _ (List.mem_cons_of_mem _ List.mem_cons_self)).1)
    exact Or.inl ⟨this.1, this.2, w.1, w.2⟩
  · obtain ⟨z2, e2, r⟩ := gW_int (show gW _ _ from q) (Nat.le_of_ble_eq_true rfl)
    cases e2
    have := gR0 r
    have w := gR0 (show gR (0, 4, 4, 0, 0, 0) (M' 5 1) from (p _ (List.mem_cons_of_mem _ List.mem_cons_self)).1)
    exact Or.inr (Or.inl ⟨this.1, this.2, w.1, w.2⟩)
  · obtain ⟨z2, e2, r⟩ := gW_int (show gW _ _ from q) (Nat.le_of_ble_eq_true rfl)
    cases e2
    have := gR0 r
    have w := gR0 (show gR (0, 4, 4, 0, 0, 0) (M' 5 1) from (p _ List.mem_cons_self).1)
    exact Or.inr (Or.inr (Or.inl ⟨this.1, this.2, w.1, w.2⟩))
  · obtain ⟨z2, e2, r⟩ := gW_int (show gW _ _ from q) (Nat.le_of_ble_eq_true rfl)
    cases e2
    have := gR0 r
    have w := gR0 (show gR (0, 1, 1, 0, 0, 0) (M' 5 1) from (p _ (List.mem_cons_of_mem _ List.mem_cons_self)).1)
    exact Or.inr (Or.inr (Or.inr (Or.inl ⟨this.1, this.2, w.1, w.2⟩)))
  · obtain ⟨z2, e2, r⟩ := gW_int (show gW _ _ from q) (Nat.le_of_ble_eq_true rfl)
    cases e2
    have := gR0 r
    have w := gR0 (show gR (0, 2, 11, 0, 0, 0) (M' 5 1) from (p _ (List.mem_cons_of_mem _ List.mem_cons_self)).1)
    exact Or.inr (Or.inr (Or.inr (Or.inr ⟨this.1, this.2, w.1, w.2⟩)))
theorem nu_X_evenings_5 {d : Nat} (hd : 8 ≤ d) {M : pM} (hM : gM gAll M) (p0 : 5 ≤ M 5 1 ∧ M 5 1 ≤ 5) : ∃ z M', xF d 41 [.inr 2] M = rI z M' ∧ ((-2 ≤ z ∧ z ≤ -2 ∧ 5 ≤ M' 5 1 ∧ M' 5 1 ≤ 5) ∨ (-3 ≤ z ∧ z ≤ -3 ∧ 5 ≤ M' 5 1 ∧ M' 5 1 ≤ 5) ∨ (-4 ≤ z ∧ z ≤ -4 ∧ 5 ≤ M' 5 1 ∧ M' 5 1 ≤ 5) ∨ (0 ≤ z ∧ z ≤ 0 ∧ 1 ≤ M' 5 1 ∧ M' 5 1 ≤ 1) ∨ (1 ≤ z ∧ z ≤ 300 ∧ 2 ≤ M' 5 1 ∧ M' 5 1 ≤ 11)) := by
  have c0 : cOK gAll (xF d) 41 K_737 := (ct_of (d := d) ct_ok (show K_737 ∈ CT.getD 41 [] from (show CT.getD 41 [] = [K_816, K_727, K_729, K_731, K_733, K_735, K_737, K_739, K_741, K_743, K_745, K_747, K_749, K_817, K_818, K_819, K_820, K_821, K_822, K_823, K_824, K_825, K_826, K_460] from rfl) ▸ by simp) hd)
  obtain ⟨z, M', e, -, -, alt, ha, q, p⟩ := cOK_I c0 (A := [.inr 2]) (show aF2 gW [aRef 2] [.inr 2] from ⟨gW_o, trivial⟩) hM (show gP0 [(5, 1, (0, 5, 5, 0, 0, 0))] M from fun e he => by
    simp only [List.mem_cons, List.not_mem_nil, or_false] at he
    rcases he with rfl
    · exact gR_i p0.1 p0.2) rfl
  refine ⟨z, M', e, ?_⟩
  have ha : alt ∈ [(some (0, -2, -2, 0, 0, 0), [], [(0, 14, (0, 1, 10, 0, 0, 0)), (5, 1, (0, 5, 5, 0, 0, 0)), (7, 10, (0, 1, 10, 0, 0, 0))]), (some (0, -3, -3, 0, 0, 0), [], [(0, 14, (0, 1, 10, 0, 0, 0)), (5, 1, (0, 5, 5, 0, 0, 0)), (7, 10, (0, 1, 10, 0, 0, 0))]), (some (0, -4, -4, 0, 0, 0), [], [(5, 1, (0, 5, 5, 0, 0, 0))]), (some (0, 0, 0, 0, 0, 0), [], [(0, 14, (0, 1, 10, 0, 0, 0)), (5, 1, (0, 1, 1, 0, 0, 0)), (6, 0, (0, -2147483648, 2147483647, 0, 0, 0)), (7, 10, (0, 1, 10, 0, 0, 0))]), (some (0, 1, 300, 0, 0, 0), [], [(0, 14, (0, 1, 10, 0, 0, 0)), (5, 1, (0, 2, 11, 0, 0, 0)), (7, 10, (0, 1, 10, 0, 0, 0)), (52, 5, (0, 1, 300, 0, 0, 0)), (52, 7, (0, 0, 299, 0, 0, 0)), (52, 9, (0, 0, 299, 0, 0, 0))])] := ha
  simp only [List.mem_cons, List.not_mem_nil, or_false] at ha
  rcases ha with rfl | rfl | rfl | rfl | rfl
  · obtain ⟨z2, e2, r⟩ := gW_int (show gW _ _ from q) (Nat.le_of_ble_eq_true rfl)
    cases e2
    have := gR0 r
    have w := gR0 (show gR (0, 5, 5, 0, 0, 0) (M' 5 1) from (p _ (List.mem_cons_of_mem _ List.mem_cons_self)).1)
    exact Or.inl ⟨this.1, this.2, w.1, w.2⟩
  · obtain ⟨z2, e2, r⟩ := gW_int (show gW _ _ from q) (Nat.le_of_ble_eq_true rfl)
    cases e2
    have := gR0 r
    have w := gR0 (show gR (0, 5, 5, 0, 0, 0) (M' 5 1) from (p _ (List.mem_cons_of_mem _ List.mem_cons_self)).1)
    exact Or.inr (Or.inl ⟨this.1, this.2, w.1, w.2⟩)
  · obtain ⟨z2, e2, r⟩ := gW_int (show gW _ _ from q) (Nat.le_of_ble_eq_true rfl)
    cases e2
    have := gR0 r
    have w := gR0 (show gR (0, 5, 5, 0, 0, 0) (M' 5 1) from (p _ List.mem_cons_self).1)
    exact Or.inr (Or.inr (Or.inl ⟨this.1, this.2, w.1, w.2⟩))
  · obtain ⟨z2, e2, r⟩ := gW_int (show gW _ _ from q) (Nat.le_of_ble_eq_true rfl)
    cases e2
    have := gR0 r
    have w := gR0 (show gR (0, 1, 1, 0, 0, 0) (M' 5 1) from (p _ (List.mem_cons_of_mem _ List.mem_cons_self)).1)
    exact Or.inr (Or.inr (Or.inr (Or.inl ⟨this.1, this.2, w.1, w.2⟩)))
  · obtain ⟨z2, e2, r⟩ := gW_int (show gW _ _ from q) (Nat.le_of_ble_eq_true rfl)
    cases e2
    have := gR0 r
    have w := gR0 (show gR (0, 2, 11, 0, 0, 0) (M' 5 1) from (p _ (List.mem_cons_of_mem _ List.mem_cons_self)).1)
    exact Or.inr (Or.inr (Or.inr (Or.inr ⟨this.1, this.2, w.1, w.2⟩)))
theorem nu_X_evenings_6 {d : Nat} (hd : 8 ≤ d) {M : pM} (hM : gM gAll M) (p0 : 6 ≤ M 5 1 ∧ M 5 1 ≤ 6) : ∃ z M', xF d 41 [.inr 2] M = rI z M' ∧ ((-2 ≤ z ∧ z ≤ -2 ∧ 6 ≤ M' 5 1 ∧ M' 5 1 ≤ 6) ∨ (-3 ≤ z ∧ z ≤ -3 ∧ 6 ≤ M' 5 1 ∧ M' 5 1 ≤ 6) ∨ (-4 ≤ z ∧ z ≤ -4 ∧ 6 ≤ M' 5 1 ∧ M' 5 1 ≤ 6) ∨ (0 ≤ z ∧ z ≤ 0 ∧ 1 ≤ M' 5 1 ∧ M' 5 1 ≤ 1) ∨ (1 ≤ z ∧ z ≤ 300 ∧ 2 ≤ M' 5 1 ∧ M' 5 1 ≤ 11)) := by
  have c0 : cOK gAll (xF d) 41 K_739 := (ct_of (d := d) ct_ok (show K_739 ∈ CT.getD 41 [] from (show CT.getD 41 [] = [K_816, K_727, K_729, K_731, K_733, K_735, K_737, K_739, K_741, K_743, K_745, K_747, K_749, K_817, K_818, K_819, K_820, K_821, K_822, K_823, K_824, K_825, K_826, K_460] from rfl) ▸ by simp) hd)
  obtain ⟨z, M', e, -, -, alt, ha, q, p⟩ := cOK_I c0 (A := [.inr 2]) (show aF2 gW [aRef 2] [.inr 2] from ⟨gW_o, trivial⟩) hM (show gP0 [(5, 1, (0, 6, 6, 0, 0, 0))] M from fun e he => by
    simp only [List.mem_cons, List.not_mem_nil, or_false] at he
    rcases he with rfl
    · exact gR_i p0.1 p0.2) rfl
  refine ⟨z, M', e, ?_⟩
  have ha : alt ∈ [(some (0, -2, -2, 0, 0, 0), [], [(0, 14, (0, 1, 10, 0, 0, 0)), (5, 1, (0, 6, 6, 0, 0, 0)), (7, 10, (0, 1, 10, 0, 0, 0))]), (some (0, -3, -3, 0, 0, 0), [], [(0, 14, (0, 1, 10, 0, 0, 0)), (5, 1, (0, 6, 6, 0, 0, 0)), (7, 10, (0, 1, 10, 0, 0, 0))]), (some (0, -4, -4, 0, 0, 0), [], [(5, 1, (0, 6, 6, 0, 0, 0))]), (some (0, 0, 0, 0, 0, 0), [], [(0, 14, (0, 1, 10, 0, 0, 0)), (5, 1, (0, 1, 1, 0, 0, 0)), (6, 0, (0, -2147483648, 2147483647, 0, 0, 0)), (7, 10, (0, 1, 10, 0, 0, 0))]), (some (0, 1, 300, 0, 0, 0), [], [(0, 14, (0, 1, 10, 0, 0, 0)), (5, 1, (0, 2, 11, 0, 0, 0)), (7, 10, (0, 1, 10, 0, 0, 0)), (52, 5, (0, 1, 300, 0, 0, 0)), (52, 7, (0, 0, 299, 0, 0, 0)), (52, 9, (0, 0, 299, 0, 0, 0))])] := ha
  simp only [List.mem_cons, List.not_mem_nil, or_false] at ha
  rcases ha with rfl | rfl | rfl | rfl | rfl
  · obtain ⟨z2, e2, r⟩ := gW_int (show gW _ _ from q) (Nat.le_of_ble_eq_true rfl)
    cases e2
    have := gR0 r
    have w := gR0 (show gR (0, 6, 6, 0, 0, 0) (M' 5 1) from (p _ (List.mem_cons_of_mem _ List.mem_cons_self)).1)
    exact Or.inl ⟨this.1, this.2, w.1, w.2⟩
  · obtain ⟨z2, e2, r⟩ := gW_int (show gW _ _ from q) (Nat.le_of_ble_eq_true rfl)
    cases e2
    have := gR0 r
    have w := gR0 (show gR (0, 6, 6, 0, 0, 0) (M' 5 1) from (p _ (List.mem_cons_of_mem _ List.mem_cons_self)).1)
    exact Or.inr (Or.inl ⟨this.1, this.2, w.1, w.2⟩)
  · obtain ⟨z2, e2, r⟩ := gW_int (show gW _ _ from q) (Nat.le_of_ble_eq_true rfl)
    cases e2
    have := gR0 r
    have w := gR0 (show gR (0, 6, 6, 0, 0, 0) (M' 5 1) from (p _ List.mem_cons_self).1)
    exact Or.inr (Or.inr (Or.inl ⟨this.1, this.2, w.1, w.2⟩))
  · obtain ⟨z2, e2, r⟩ := gW_int (show gW _ _ from q) (Nat.le_of_ble_eq_true rfl)
    cases e2
    have := gR0 r
    have w := gR0 (show gR (0, 1, 1, 0, 0, 0) (M' 5 1) from (p _ (List.mem_cons_of_mem _ List.mem_cons_self)).1)
    exact Or.inr (Or.inr (Or.inr (Or.inl ⟨this.1, this.2, w.1, w.2⟩)))
  · obtain ⟨z2, e2, r⟩ := gW_int (show gW _ _ from q) (Nat.le_of_ble_eq_true rfl)
    cases e2
    have := gR0 r
    have w := gR0 (show gR (0, 2, 11, 0, 0, 0) (M' 5 1) from (p _ (List.mem_cons_of_mem _ List.mem_cons_self)).1)
    exact Or.inr (Or.inr (Or.inr (Or.inr ⟨this.1, this.2, w.1, w.2⟩)))
theorem nu_X_evenings_7 {d : Nat} (hd : 8 ≤ d) {M : pM} (hM : gM gAll M) (p0 : 7 ≤ M 5 1 ∧ M 5 1 ≤ 7) : ∃ z M', xF d 41 [.inr 2] M = rI z M' ∧ ((-2 ≤ z ∧ z ≤ -2 ∧ 7 ≤ M' 5 1 ∧ M' 5 1 ≤ 7) ∨ (-3 ≤ z ∧ z ≤ -3 ∧ 7 ≤ M' 5 1 ∧ M' 5 1 ≤ 7) ∨ (-4 ≤ z ∧ z ≤ -4 ∧ 7 ≤ M' 5 1 ∧ M' 5 1 ≤ 7) ∨ (0 ≤ z ∧ z ≤ 0 ∧ 1 ≤ M' 5 1 ∧ M' 5 1 ≤ 1) ∨ (1 ≤ z ∧ z ≤ 300 ∧ 2 ≤ M' 5 1 ∧ M' 5 1 ≤ 11)) := by
  have c0 : cOK gAll (xF d) 41 K_741 := (ct_of (d := d) ct_ok (show K_741 ∈ CT.getD 41 [] from (show CT.getD 41 [] = [K_816, K_727, K_729, K_731, K_733, K_735, K_737, K_739, K_741, K_743, K_745, K_747, K_749, K_817, K_818, K_819, K_820, K_821, K_822, K_823, K_824, K_825, K_826, K_460] from rfl) ▸ by simp) hd)
  obtain ⟨z, M', e, -, -, alt, ha, q, p⟩ := cOK_I c0 (A := [.inr 2]) (show aF2 gW [aRef 2] [.inr 2] from ⟨gW_o, trivial⟩) hM (show gP0 [(5, 1, (0, 7, 7, 0, 0, 0))] M from fun e he => by
    simp only [List.mem_cons, List.not_mem_nil, or_false] at he
    rcases he with rfl
    · exact gR_i p0.1 p0.2) rfl
  refine ⟨z, M', e, ?_⟩
  have ha : alt ∈ [(some (0, -2, -2, 0, 0, 0), [], [(0, 14, (0, 1, 10, 0, 0, 0)), (5, 1, (0, 7, 7, 0, 0, 0)), (7, 10, (0, 1, 10, 0, 0, 0))]), (some (0, -3, -3, 0, 0, 0), [], [(0, 14, (0, 1, 10, 0, 0, 0)), (5, 1, (0, 7, 7, 0, 0, 0)), (7, 10, (0, 1, 10, 0, 0, 0))]), (some (0, -4, -4, 0, 0, 0), [], [(5, 1, (0, 7, 7, 0, 0, 0))]), (some (0, 0, 0, 0, 0, 0), [], [(0, 14, (0, 1, 10, 0, 0, 0)), (5, 1, (0, 1, 1, 0, 0, 0)), (6, 0, (0, -2147483648, 2147483647, 0, 0, 0)), (7, 10, (0, 1, 10, 0, 0, 0))]), (some (0, 1, 300, 0, 0, 0), [], [(0, 14, (0, 1, 10, 0, 0, 0)), (5, 1, (0, 2, 11, 0, 0, 0)), (7, 10, (0, 1, 10, 0, 0, 0)), (52, 5, (0, 1, 300, 0, 0, 0)), (52, 7, (0, 0, 299, 0, 0, 0)), (52, 9, (0, 0, 299, 0, 0, 0))])] := ha
  simp only [List.mem_cons, List.not_mem_nil, or_false] at ha
  rcases ha with rfl | rfl | rfl | rfl | rfl
  · obtain ⟨z2, e2, r⟩ := gW_int (show gW _ _ from q) (Nat.le_of_ble_eq_true rfl)
    cases e2
    have := gR0 r
    have w := gR0 (show gR (0, 7, 7, 0, 0, 0) (M' 5 1) from (p _ (List.mem_cons_of_mem _ List.mem_cons_self)).1)
    exact Or.inl ⟨this.1, this.2, w.1, w.2⟩
  · obtain ⟨z2, e2, r⟩ := gW_int (show gW _ _ from q) (Nat.le_of_ble_eq_true rfl)
    cases e2
    have := gR0 r
    have w := gR0 (show gR (0, 7, 7, 0, 0, 0) (M' 5 1) from (p _ (List.mem_cons_of_mem _ List.mem_cons_self)).1)
    exact Or.inr (Or.inl ⟨this.1, this.2, w.1, w.2⟩)
  · obtain ⟨z2, e2, r⟩ := gW_int (show gW _ _ from q) (Nat.le_of_ble_eq_true rfl)
    cases e2
    have := gR0 r
    have w := gR0 (show gR (0, 7, 7, 0, 0, 0) (M' 5 1) from (p _ List.mem_cons_self).1)
    exact Or.inr (Or.inr (Or.inl ⟨this.1, this.2, w.1, w.2⟩))
  · obtain ⟨z2, e2, r⟩ := gW_int (show gW _ _ from q) (Nat.le_of_ble_eq_true rfl)
    cases e2
    have := gR0 r
    have w := gR0 (show gR (0, 1, 1, 0, 0, 0) (M' 5 1) from (p _ (List.mem_cons_of_mem _ List.mem_cons_self)).1)
    exact Or.inr (Or.inr (Or.inr (Or.inl ⟨this.1, this.2, w.1, w.2⟩)))
  · obtain ⟨z2, e2, r⟩ := gW_int (show gW _ _ from q) (Nat.le_of_ble_eq_true rfl)
    cases e2
    have := gR0 r
    have w := gR0 (show gR (0, 2, 11, 0, 0, 0) (M' 5 1) from (p _ (List.mem_cons_of_mem _ List.mem_cons_self)).1)
    exact Or.inr (Or.inr (Or.inr (Or.inr ⟨this.1, this.2, w.1, w.2⟩)))
theorem nu_X_evenings_8 {d : Nat} (hd : 8 ≤ d) {M : pM} (hM : gM gAll M) (p0 : 8 ≤ M 5 1 ∧ M 5 1 ≤ 8) : ∃ z M', xF d 41 [.inr 2] M = rI z M' ∧ ((-2 ≤ z ∧ z ≤ -2 ∧ 8 ≤ M' 5 1 ∧ M' 5 1 ≤ 8) ∨ (-3 ≤ z ∧ z ≤ -3 ∧ 8 ≤ M' 5 1 ∧ M' 5 1 ≤ 8) ∨ (-4 ≤ z ∧ z ≤ -4 ∧ 8 ≤ M' 5 1 ∧ M' 5 1 ≤ 8) ∨ (0 ≤ z ∧ z ≤ 0 ∧ 1 ≤ M' 5 1 ∧ M' 5 1 ≤ 1) ∨ (1 ≤ z ∧ z ≤ 300 ∧ 2 ≤ M' 5 1 ∧ M' 5 1 ≤ 11)) := by
  have c0 : cOK gAll (xF d) 41 K_743 := (ct_of (d := d) ct_ok (show K_743 ∈ CT.getD 41 [] from (show CT.getD 41 [] = [K_816, K_727, K_729, K_731, K_733, K_735, K_737, K_739, K_741, K_743, K_745, K_747, K_749, K_817, K_818, K_819, K_820, K_821, K_822, K_823, K_824, K_825, K_826, K_460] from rfl) ▸ by simp) hd)
  obtain ⟨z, M', e, -, -, alt, ha, q, p⟩ := cOK_I c0 (A := [.inr 2]) (show aF2 gW [aRef 2] [.inr 2] from ⟨gW_o, trivial⟩) hM (show gP0 [(5, 1, (0, 8, 8, 0, 0, 0))] M from fun e he => by
    simp only [List.mem_cons, List.not_mem_nil, or_false] at he
    rcases he with rfl
    · exact gR_i p0.1 p0.2) rfl
  refine ⟨z, M', e, ?_⟩
  have ha : alt ∈ [(some (0, -2, -2, 0, 0, 0), [], [(0, 14, (0, 1, 10, 0, 0, 0)), (5, 1, (0, 8, 8, 0, 0, 0)), (7, 10, (0, 1, 10, 0, 0, 0))]), (some (0, -3, -3, 0, 0, 0), [], [(0, 14, (0, 1, 10, 0, 0, 0)), (5, 1, (0, 8, 8, 0, 0, 0)), (7, 10, (0, 1, 10, 0, 0, 0))]), (some (0, -4, -4, 0, 0, 0), [], [(5, 1, (0, 8, 8, 0, 0, 0))]), (some (0, 0, 0, 0, 0, 0), [], [(0, 14, (0, 1, 10, 0, 0, 0)), (5, 1, (0, 1, 1, 0, 0, 0)), (6, 0, (0, -2147483648, 2147483647, 0, 0, 0)), (7, 10, (0, 1, 10, 0, 0, 0))]), (some (0, 1, 300, 0, 0, 0), [], [(0, 14, (0, 1, 10, 0, 0, 0)), (5, 1, (0, 2, 11, 0, 0, 0)), (7, 10, (0, 1, 10, 0, 0, 0)), (52, 5, (0, 1, 300, 0, 0, 0)), (52, 7, (0, 0, 299, 0, 0, 0)), (52, 9, (0, 0, 299, 0, 0, 0))])] := ha
  simp only [List.mem_cons, List.not_mem_nil, or_false] at ha
  rcases ha with rfl | rfl | rfl | rfl | rfl
  · obtain ⟨z2, e2, r⟩ := gW_int (show gW _ _ from q) (Nat.le_of_ble_eq_true rfl)
    cases e2
    have := gR0 r
    have w := gR0 (show gR (0, 8, 8, 0, 0, 0) (M' 5 1) from (p _ (List.mem_cons_of_mem _ List.mem_cons_self)).1)
    exact Or.inl ⟨this.1, this.2, w.1, w.2⟩
  · obtain ⟨z2, e2, r⟩ := gW_int (show gW _ _ from q) (Nat.le_of_ble_eq_true rfl)
    cases e2
    have := gR0 r
    have w := gR0 (show gR (0, 8, 8, 0, 0, 0) (M' 5 1) from (p _ (List.mem_cons_of_mem _ List.mem_cons_self)).1)
    exact Or.inr (Or.inl ⟨this.1, this.2, w.1, w.2⟩)
  · obtain ⟨z2, e2, r⟩ := gW_int (show gW _ _ from q) (Nat.le_of_ble_eq_true rfl)
    cases e2
    have := gR0 r
    have w := gR0 (show gR (0, 8, 8, 0, 0, 0) (M' 5 1) from (p _ List.mem_cons_self).1)
    exact Or.inr (Or.inr (Or.inl ⟨this.1, this.2, w.1, w.2⟩))
  · obtain ⟨z2, e2, r⟩ := gW_int (show gW _ _ from q) (Nat.le_of_ble_eq_true rfl)
    cases e2
    have := gR0 r
    have w := gR0 (show gR (0, 1, 1, 0, 0, 0) (M' 5 1) from (p _ (List.mem_cons_of_mem _ List.mem_cons_self)).1)
    exact Or.inr (Or.inr (Or.inr (Or.inl ⟨this.1, this.2, w.1, w.2⟩)))
  · obtain ⟨z2, e2, r⟩ := gW_int (show gW _ _ from q) (Nat.le_of_ble_eq_true rfl)
    cases e2
    have := gR0 r
    have w := gR0 (show gR (0, 2, 11, 0, 0, 0) (M' 5 1) from (p _ (List.mem_cons_of_mem _ List.mem_cons_self)).1)
    exact Or.inr (Or.inr (Or.inr (Or.inr ⟨this.1, this.2, w.1, w.2⟩)))
theorem nu_X_evenings_9 {d : Nat} (hd : 8 ≤ d) {M : pM} (hM : gM gAll M) (p0 : 9 ≤ M 5 1 ∧ M 5 1 ≤ 9) : ∃ z M', xF d 41 [.inr 2] M = rI z M' ∧ ((-2 ≤ z ∧ z ≤ -2 ∧ 9 ≤ M' 5 1 ∧ M' 5 1 ≤ 9) ∨ (-3 ≤ z ∧ z ≤ -3 ∧ 9 ≤ M' 5 1 ∧ M' 5 1 ≤ 9) ∨ (-4 ≤ z ∧ z ≤ -4 ∧ 9 ≤ M' 5 1 ∧ M' 5 1 ≤ 9) ∨ (0 ≤ z ∧ z ≤ 0 ∧ 1 ≤ M' 5 1 ∧ M' 5 1 ≤ 1) ∨ (1 ≤ z ∧ z ≤ 300 ∧ 2 ≤ M' 5 1 ∧ M' 5 1 ≤ 11)) := by
  have c0 : cOK gAll (xF d) 41 K_745 := (ct_of (d := d) ct_ok (show K_745 ∈ CT.getD 41 [] from (show CT.getD 41 [] = [K_816, K_727, K_729, K_731, K_733, K_735, K_737, K_739, K_741, K_743, K_745, K_747, K_749, K_817, K_818, K_819, K_820, K_821, K_822, K_823, K_824, K_825, K_826, K_460] from rfl) ▸ by simp) hd)
  obtain ⟨z, M', e, -, -, alt, ha, q, p⟩ := cOK_I c0 (A := [.inr 2]) (show aF2 gW [aRef 2] [.inr 2] from ⟨gW_o, trivial⟩) hM (show gP0 [(5, 1, (0, 9, 9, 0, 0, 0))] M from fun e he => by
    simp only [List.mem_cons, List.not_mem_nil, or_false] at he
    rcases he with rfl
    · exact gR_i p0.1 p0.2) rfl
  refine ⟨z, M', e, ?_⟩
  have ha : alt ∈ [(some (0, -2, -2, 0, 0, 0), [], [(0, 14, (0, 1, 10, 0, 0, 0)), (5, 1, (0, 9, 9, 0, 0, 0)), (7, 10, (0, 1, 10, 0, 0, 0))]), (some (0, -3, -3, 0, 0, 0), [], [(0, 14, (0, 1, 10, 0, 0, 0)), (5, 1, (0, 9, 9, 0, 0, 0)), (7, 10, (0, 1, 10, 0, 0, 0))]), (some (0, -4, -4, 0, 0, 0), [], [(5, 1, (0, 9, 9, 0, 0, 0))]), (some (0, 0, 0, 0, 0, 0), [], [(0, 14, (0, 1, 10, 0, 0, 0)), (5, 1, (0, 1, 1, 0, 0, 0)), (6, 0, (0, -2147483648, 2147483647, 0, 0, 0)), (7, 10, (0, 1, 10, 0, 0, 0))]), (some (0, 1, 300, 0, 0, 0), [], [(0, 14, (0, 1, 10, 0, 0, 0)), (5, 1, (0, 2, 11, 0, 0, 0)), (7, 10, (0, 1, 10, 0, 0, 0)), (52, 5, (0, 1, 300, 0, 0, 0)), (52, 7, (0, 0, 299, 0, 0, 0)), (52, 9, (0, 0, 299, 0, 0, 0))])] := ha
  simp only [List.mem_cons, List.not_mem_nil, or_false] at ha
  rcases ha with rfl | rfl | rfl | rfl | rfl
  · obtain ⟨z2, e2, r⟩ := gW_int (show gW _ _ from q) (Nat.le_of_ble_eq_true rfl)
    cases e2
    have := gR0 r
    have w := gR0 (show gR (0, 9, 9, 0, 0, 0) (M' 5 1) from (p _ (List.mem_cons_of_mem _ List.mem_cons_self)).1)
    exact Or.inl ⟨this.1, this.2, w.1, w.2⟩
  · obtain ⟨z2, e2, r⟩ := gW_int (show gW _ _ from q) (Nat.le_of_ble_eq_true rfl)
    cases e2
    have := gR0 r
    have w := gR0 (show gR (0, 9, 9, 0, 0, 0) (M' 5 1) from (p _ (List.mem_cons_of_mem _ List.mem_cons_self)).1)
    exact Or.inr (Or.inl ⟨this.1, this.2, w.1, w.2⟩)
  · obtain ⟨z2, e2, r⟩ := gW_int (show gW _ _ from q) (Nat.le_of_ble_eq_true rfl)
    cases e2
    have := gR0 r
    have w := gR0 (show gR (0, 9, 9, 0, 0, 0) (M' 5 1) from (p _ List.mem_cons_self).1)
    exact Or.inr (Or.inr (Or.inl ⟨this.1, this.2, w.1, w.2⟩))
  · obtain ⟨z2, e2, r⟩ := gW_int (show gW _ _ from q) (Nat.le_of_ble_eq_true rfl)
    cases e2
    have := gR0 r
    have w := gR0 (show gR (0, 1, 1, 0, 0, 0) (M' 5 1) from (p _ (List.mem_cons_of_mem _ List.mem_cons_self)).1)
    exact Or.inr (Or.inr (Or.inr (Or.inl ⟨this.1, this.2, w.1, w.2⟩)))
  · obtain ⟨z2, e2, r⟩ := gW_int (show gW _ _ from q) (Nat.le_of_ble_eq_true rfl)
    cases e2
    have := gR0 r
    have w := gR0 (show gR (0, 2, 11, 0, 0, 0) (M' 5 1) from (p _ (List.mem_cons_of_mem _ List.mem_cons_self)).1)
    exact Or.inr (Or.inr (Or.inr (Or.inr ⟨this.1, this.2, w.1, w.2⟩)))
theorem nu_X_evenings_10 {d : Nat} (hd : 8 ≤ d) {M : pM} (hM : gM gAll M) (p0 : 10 ≤ M 5 1 ∧ M 5 1 ≤ 10) : ∃ z M', xF d 41 [.inr 2] M = rI z M' ∧ ((-2 ≤ z ∧ z ≤ -2 ∧ 10 ≤ M' 5 1 ∧ M' 5 1 ≤ 10) ∨ (-3 ≤ z ∧ z ≤ -3 ∧ 10 ≤ M' 5 1 ∧ M' 5 1 ≤ 10) ∨ (-4 ≤ z ∧ z ≤ -4 ∧ 10 ≤ M' 5 1 ∧ M' 5 1 ≤ 10) ∨ (0 ≤ z ∧ z ≤ 0 ∧ 1 ≤ M' 5 1 ∧ M' 5 1 ≤ 1) ∨ (1 ≤ z ∧ z ≤ 300 ∧ 2 ≤ M' 5 1 ∧ M' 5 1 ≤ 11)) := by
  have c0 : cOK gAll (xF d) 41 K_747 := (ct_of (d := d) ct_ok (show K_747 ∈ CT.getD 41 [] from (show CT.getD 41 [] = [K_816, K_727, K_729, K_731, K_733, K_735, K_737, K_739, K_741, K_743, K_745, K_747, K_749, K_817, K_818, K_819, K_820, K_821, K_822, K_823, K_824, K_825, K_826, K_460] from rfl) ▸ by simp) hd)
  obtain ⟨z, M', e, -, -, alt, ha, q, p⟩ := cOK_I c0 (A := [.inr 2]) (show aF2 gW [aRef 2] [.inr 2] from ⟨gW_o, trivial⟩) hM (show gP0 [(5, 1, (0, 10, 10, 0, 0, 0))] M from fun e he => by
    simp only [List.mem_cons, List.not_mem_nil, or_false] at he
    rcases he with rfl
    · exact gR_i p0.1 p0.2) rfl
  refine ⟨z, M', e, ?_⟩
  have ha : alt ∈ [(some (0, -2, -2, 0, 0, 0), [], [(0, 14, (0, 1, 10, 0, 0, 0)), (5, 1, (0, 10, 10, 0, 0, 0)), (7, 10, (0, 1, 10, 0, 0, 0))]), (some (0, -3, -3, 0, 0, 0), [], [(0, 14, (0, 1, 10, 0, 0, 0)), (5, 1, (0, 10, 10, 0, 0, 0)), (7, 10, (0, 1, 10, 0, 0, 0))]), (some (0, -4, -4, 0, 0, 0), [], [(5, 1, (0, 10, 10, 0, 0, 0))]), (some (0, 0, 0, 0, 0, 0), [], [(0, 14, (0, 1, 10, 0, 0, 0)), (5, 1, (0, 1, 1, 0, 0, 0)), (6, 0, (0, -2147483648, 2147483647, 0, 0, 0)), (7, 10, (0, 1, 10, 0, 0, 0))]), (some (0, 1, 300, 0, 0, 0), [], [(0, 14, (0, 1, 10, 0, 0, 0)), (5, 1, (0, 2, 11, 0, 0, 0)), (7, 10, (0, 1, 10, 0, 0, 0)), (52, 5, (0, 1, 300, 0, 0, 0)), (52, 7, (0, 0, 299, 0, 0, 0)), (52, 9, (0, 0, 299, 0, 0, 0))])] := ha
  simp only [List.mem_cons, List.not_mem_nil, or_false] at ha
  rcases ha with rfl | rfl | rfl | rfl | rfl
  · obtain ⟨z2, e2, r⟩ := gW_int (show gW _ _ from q) (Nat.le_of_ble_eq_true rfl)
    cases e2
    have := gR0 r
    have w := gR0 (show gR (0, 10, 10, 0, 0, 0) (M' 5 1) from (p _ (List.mem_cons_of_mem _ List.mem_cons_self)).1)
    exact Or.inl ⟨this.1, this.2, w.1, w.2⟩
  · obtain ⟨z2, e2, r⟩ := gW_int (show gW _ _ from q) (Nat.le_of_ble_eq_true rfl)
    cases e2
    have := gR0 r
    have w := gR0 (show gR (0, 10, 10, 0, 0, 0) (M' 5 1) from (p _ (List.mem_cons_of_mem _ List.mem_cons_self)).1)
    exact Or.inr (Or.inl ⟨this.1, this.2, w.1, w.2⟩)
  · obtain ⟨z2, e2, r⟩ := gW_int (show gW _ _ from q) (Nat.le_of_ble_eq_true rfl)
    cases e2
    have := gR0 r
    have w := gR0 (show gR (0, 10, 10, 0, 0, 0) (M' 5 1) from (p _ List.mem_cons_self).1)
    exact Or.inr (Or.inr (Or.inl ⟨this.1, this.2, w.1, w.2⟩))
  · obtain ⟨z2, e2, r⟩ := gW_int (show gW _ _ from q) (Nat.le_of_ble_eq_true rfl)
    cases e2
    have := gR0 r
    have w := gR0 (show gR (0, 1, 1, 0, 0, 0) (M' 5 1) from (p _ (List.mem_cons_of_mem _ List.mem_cons_self)).1)
    exact Or.inr (Or.inr (Or.inr (Or.inl ⟨this.1, this.2, w.1, w.2⟩)))
  · obtain ⟨z2, e2, r⟩ := gW_int (show gW _ _ from q) (Nat.le_of_ble_eq_true rfl)
    cases e2
    have := gR0 r
    have w := gR0 (show gR (0, 2, 11, 0, 0, 0) (M' 5 1) from (p _ (List.mem_cons_of_mem _ List.mem_cons_self)).1)
    exact Or.inr (Or.inr (Or.inr (Or.inr ⟨this.1, this.2, w.1, w.2⟩)))
theorem nu_X_evenings_11 {d : Nat} (hd : 8 ≤ d) {M : pM} (hM : gM gAll M) (p0 : 11 ≤ M 5 1 ∧ M 5 1 ≤ 11) : ∃ z M', xF d 41 [.inr 2] M = rI z M' ∧ ((-2 ≤ z ∧ z ≤ -2 ∧ 11 ≤ M' 5 1 ∧ M' 5 1 ≤ 11) ∨ (-3 ≤ z ∧ z ≤ -3 ∧ 11 ≤ M' 5 1 ∧ M' 5 1 ≤ 11) ∨ (-4 ≤ z ∧ z ≤ -4 ∧ 11 ≤ M' 5 1 ∧ M' 5 1 ≤ 11) ∨ (0 ≤ z ∧ z ≤ 0 ∧ 1 ≤ M' 5 1 ∧ M' 5 1 ≤ 1) ∨ (1 ≤ z ∧ z ≤ 300 ∧ 2 ≤ M' 5 1 ∧ M' 5 1 ≤ 11)) := by
  have c0 : cOK gAll (xF d) 41 K_749 := (ct_of (d := d) ct_ok (show K_749 ∈ CT.getD 41 [] from (show CT.getD 41 [] = [K_816, K_727, K_729, K_731, K_733, K_735, K_737, K_739, K_741, K_743, K_745, K_747, K_749, K_817, K_818, K_819, K_820, K_821, K_822, K_823, K_824, K_825, K_826, K_460] from rfl) ▸ by simp) hd)
  obtain ⟨z, M', e, -, -, alt, ha, q, p⟩ := cOK_I c0 (A := [.inr 2]) (show aF2 gW [aRef 2] [.inr 2] from ⟨gW_o, trivial⟩) hM (show gP0 [(5, 1, (0, 11, 11, 0, 0, 0))] M from fun e he => by
    simp only [List.mem_cons, List.not_mem_nil, or_false] at he
    rcases he with rfl
    · exact gR_i p0.1 p0.2) rfl
  refine ⟨z, M', e, ?_⟩
  have ha : alt ∈ [(some (0, -2, -2, 0, 0, 0), [], [(0, 14, (0, 1, 10, 0, 0, 0)), (5, 1, (0, 11, 11, 0, 0, 0)), (7, 10, (0, 1, 10, 0, 0, 0))]), (some (0, -3, -3, 0, 0, 0), [], [(0, 14, (0, 1, 10, 0, 0, 0)), (5, 1, (0, 11, 11, 0, 0, 0)), (7, 10, (0, 1, 10, 0, 0, 0))]), (some (0, -4, -4, 0, 0, 0), [], [(5, 1, (0, 11, 11, 0, 0, 0))]), (some (0, 0, 0, 0, 0, 0), [], [(0, 14, (0, 1, 10, 0, 0, 0)), (5, 1, (0, 1, 1, 0, 0, 0)), (6, 0, (0, -2147483648, 2147483647, 0, 0, 0)), (7, 10, (0, 1, 10, 0, 0, 0))]), (some (0, 1, 300, 0, 0, 0), [], [(0, 14, (0, 1, 10, 0, 0, 0)), (5, 1, (0, 2, 11, 0, 0, 0)), (7, 10, (0, 1, 10, 0, 0, 0)), (52, 5, (0, 1, 300, 0, 0, 0)), (52, 7, (0, 0, 299, 0, 0, 0)), (52, 9, (0, 0, 299, 0, 0, 0))])] := ha
  simp only [List.mem_cons, List.not_mem_nil, or_false] at ha
  rcases ha with rfl | rfl | rfl | rfl | rfl
  · obtain ⟨z2, e2, r⟩ := gW_int (show gW _ _ from q) (Nat.le_of_ble_eq_true rfl)
    cases e2
    have := gR0 r
    have w := gR0 (show gR (0, 11, 11, 0, 0, 0) (M' 5 1) from (p _ (List.mem_cons_of_mem _ List.mem_cons_self)).1)
    exact Or.inl ⟨this.1, this.2, w.1, w.2⟩
  · obtain ⟨z2, e2, r⟩ := gW_int (show gW _ _ from q) (Nat.le_of_ble_eq_true rfl)
    cases e2
    have := gR0 r
    have w := gR0 (show gR (0, 11, 11, 0, 0, 0) (M' 5 1) from (p _ (List.mem_cons_of_mem _ List.mem_cons_self)).1)
    exact Or.inr (Or.inl ⟨this.1, this.2, w.1, w.2⟩)
  · obtain ⟨z2, e2, r⟩ := gW_int (show gW _ _ from q) (Nat.le_of_ble_eq_true rfl)
    cases e2
    have := gR0 r
    have w := gR0 (show gR (0, 11, 11, 0, 0, 0) (M' 5 1) from (p _ List.mem_cons_self).1)
    exact Or.inr (Or.inr (Or.inl ⟨this.1, this.2, w.1, w.2⟩))
  · obtain ⟨z2, e2, r⟩ := gW_int (show gW _ _ from q) (Nat.le_of_ble_eq_true rfl)
    cases e2
    have := gR0 r
    have w := gR0 (show gR (0, 1, 1, 0, 0, 0) (M' 5 1) from (p _ (List.mem_cons_of_mem _ List.mem_cons_self)).1)
    exact Or.inr (Or.inr (Or.inr (Or.inl ⟨this.1, this.2, w.1, w.2⟩)))
  · obtain ⟨z2, e2, r⟩ := gW_int (show gW _ _ from q) (Nat.le_of_ble_eq_true rfl)
    cases e2
    have := gR0 r
    have w := gR0 (show gR (0, 2, 11, 0, 0, 0) (M' 5 1) from (p _ (List.mem_cons_of_mem _ List.mem_cons_self)).1)
    exact Or.inr (Or.inr (Or.inr (Or.inr ⟨this.1, this.2, w.1, w.2⟩)))
theorem nu_X_evenings {d : Nat} (hd : 8 ≤ d) {M M' : pM} {v : Int} (hM : gM gAll M) {n : Nat} (hn : n ≤ 11) (hc : M 5 1 = (n : Int)) (e : xF d 41 [.inr 2] M = rI v M') : (-2 ≤ v ∧ v ≤ -2 ∧ M' 5 1 = (n : Int)) ∨ (-3 ≤ v ∧ v ≤ -3 ∧ M' 5 1 = (n : Int)) ∨ (-4 ≤ v ∧ v ≤ -4 ∧ M' 5 1 = (n : Int)) ∨ (0 ≤ v ∧ v ≤ 0 ∧ M' 5 1 = 1) ∨ (1 ≤ v ∧ v ≤ 300 ∧ 2 ≤ M' 5 1 ∧ M' 5 1 ≤ 11) := by
  rcases (show n = 0 ∨ n = 1 ∨ n = 2 ∨ n = 3 ∨ n = 4 ∨ n = 5 ∨ n = 6 ∨ n = 7 ∨ n = 8 ∨ n = 9 ∨ n = 10 ∨ n = 11 by omega) with rfl | rfl | rfl | rfl | rfl | rfl | rfl | rfl | rfl | rfl | rfl | rfl
  · obtain ⟨z, M2, e2, r⟩ := nu_X_evenings_0 (d := d) (by omega) hM (by omega)
    obtain ⟨y1, y2⟩ := rI_inj (e.symm.trans e2)
    rw [y1, y2]
    rcases r with r | r | r | r | r
    · exact Or.inl (by omega)
    · exact Or.inr (Or.inl (by omega))
    · exact Or.inr (Or.inr (Or.inl (by omega)))
    · exact Or.inr (Or.inr (Or.inr (Or.inl (by omega))))
    · exact Or.inr (Or.inr (Or.inr (Or.inr ((by omega)))))
  · obtain ⟨z, M2, e2, r⟩ := nu_X_evenings_1 (d := d) (by omega) hM (by omega)
    obtain ⟨y1, y2⟩ := rI_inj (e.symm.trans e2)
    rw [y1, y2]
    rcases r with r | r | r | r | r
    · exact Or.inl (by omega)
    · exact Or.inr (Or.inl (by omega))
    · exact Or.inr (Or.inr (Or.inl (by omega)))
    · exact Or.inr (Or.inr (Or.inr (Or.inl (by omega))))
    · exact Or.inr (Or.inr (Or.inr (Or.inr ((by omega)))))
  · obtain ⟨z, M2, e2, r⟩ := nu_X_evenings_2 (d := d) (by omega) hM (by omega)
    obtain ⟨y1, y2⟩ := rI_inj (e.symm.trans e2)
    rw [y1, y2]
    rcases r with r | r | r | r | r
    · exact Or.inl (by omega)
    · exact Or.inr (Or.inl (by omega))
    · exact Or.inr (Or.inr (Or.inl (by omega)))
    · exact Or.inr (Or.inr (Or.inr (Or.inl (by omega))))
    · exact Or.inr (Or.inr (Or.inr (Or.inr ((by omega)))))
  · obtain ⟨z, M2, e2, r⟩ := nu_X_evenings_3 (d := d) (by omega) hM (by omega)
    obtain ⟨y1, y2⟩ := rI_inj (e.symm.trans e2)
    rw [y1, y2]
    rcases r with r | r | r | r | r
    · exact Or.inl (by omega)
    · exact Or.inr (Or.inl (by omega))
    · exact Or.inr (Or.inr (Or.inl (by omega)))
    · exact Or.inr (Or.inr (Or.inr (Or.inl (by omega))))
    · exact Or.inr (Or.inr (Or.inr (Or.inr ((by omega)))))
  · obtain ⟨z, M2, e2, r⟩ := nu_X_evenings_4 (d := d) (by omega) hM (by omega)
    obtain ⟨y1, y2⟩ := rI_inj (e.symm.trans e2)
    rw [y1, y2]
    rcases r with r | r | r | r | r
    · exact Or.inl (by omega)
    · exact Or.inr (Or.inl (by omega))
    · exact Or.inr (Or.inr (Or.inl (by omega)))
    · exact Or.inr (Or.inr (Or.inr (Or.inl (by omega))))
    · exact Or.inr (Or.inr (Or.inr (Or.inr ((by omega)))))
  · obtain ⟨z, M2, e2, r⟩ := nu_X_evenings_5 (d := d) (by omega) hM (by omega)
    obtain ⟨y1, y2⟩ := rI_inj (e.symm.trans e2)
    rw [y1, y2]
    rcases r with r | r | r | r | r
    · exact Or.inl (by omega)
    · exact Or.inr (Or.inl (by omega))
    · exact Or.inr (Or.inr (Or.inl (by omega)))
    · exact Or.inr (Or.inr (Or.inr (Or.inl (by omega))))
    · exact Or.inr (Or.inr (Or.inr (Or.inr ((by omega)))))
  · obtain ⟨z, M2, e2, r⟩ := nu_X_evenings_6 (d := d) (by omega) hM (by omega)
    obtain ⟨y1, y2⟩ := rI_inj (e.symm.trans e2)
    rw [y1, y2]
    rcases r with r | r | r | r | r
    · exact Or.inl (by omega)
    · exact Or.inr (Or.inl (by omega))
    · exact Or.inr (Or.inr (Or.inl (by omega)))
    · exact Or.inr (Or.inr (Or.inr (Or.inl (by omega))))
    · exact Or.inr (Or.inr (Or.inr (Or.inr ((by omega)))))
  · obtain ⟨z, M2, e2, r⟩ := nu_X_evenings_7 (d := d) (by omega) hM (by omega)
    obtain ⟨y1, y2⟩ := rI_inj (e.symm.trans e2)
    rw [y1, y2]
    rcases r with r | r | r | r | r
    · exact Or.inl (by omega)
    · exact Or.inr (Or.inl (by omega))
    · exact Or.inr (Or.inr (Or.inl (by omega)))
    · exact Or.inr (Or.inr (Or.inr (Or.inl (by omega))))
    · exact Or.inr (Or.inr (Or.inr (Or.inr ((by omega)))))
  · obtain ⟨z, M2, e2, r⟩ := nu_X_evenings_8 (d := d) (by omega) hM (by omega)
    obtain ⟨y1, y2⟩ := rI_inj (e.symm.trans e2)
    rw [y1, y2]
    rcases r with r | r | r | r | r
    · exact Or.inl (by omega)
    · exact Or.inr (Or.inl (by omega))
    · exact Or.inr (Or.inr (Or.inl (by omega)))
    · exact Or.inr (Or.inr (Or.inr (Or.inl (by omega))))
    · exact Or.inr (Or.inr (Or.inr (Or.inr ((by omega)))))
  · obtain ⟨z, M2, e2, r⟩ := nu_X_evenings_9 (d := d) (by omega) hM (by omega)
    obtain ⟨y1, y2⟩ := rI_inj (e.symm.trans e2)
    rw [y1, y2]
    rcases r with r | r | r | r | r
    · exact Or.inl (by omega)
    · exact Or.inr (Or.inl (by omega))
    · exact Or.inr (Or.inr (Or.inl (by omega)))
    · exact Or.inr (Or.inr (Or.inr (Or.inl (by omega))))
    · exact Or.inr (Or.inr (Or.inr (Or.inr ((by omega)))))
  · obtain ⟨z, M2, e2, r⟩ := nu_X_evenings_10 (d := d) (by omega) hM (by omega)
    obtain ⟨y1, y2⟩ := rI_inj (e.symm.trans e2)
    rw [y1, y2]
    rcases r with r | r | r | r | r
    · exact Or.inl (by omega)
    · exact Or.inr (Or.inl (by omega))
    · exact Or.inr (Or.inr (Or.inl (by omega)))
    · exact Or.inr (Or.inr (Or.inr (Or.inl (by omega))))
    · exact Or.inr (Or.inr (Or.inr (Or.inr ((by omega)))))
  · obtain ⟨z, M2, e2, r⟩ := nu_X_evenings_11 (d := d) (by omega) hM (by omega)
    obtain ⟨y1, y2⟩ := rI_inj (e.symm.trans e2)
    rw [y1, y2]
    rcases r with r | r | r | r | r
    · exact Or.inl (by omega)
    · exact Or.inr (Or.inl (by omega))
    · exact Or.inr (Or.inr (Or.inl (by omega)))
    · exact Or.inr (Or.inr (Or.inr (Or.inl (by omega))))
    · exact Or.inr (Or.inr (Or.inr (Or.inr ((by omega)))))
theorem nu_X_readyJourney_0 {d : Nat} (hd : 7 ≤ d) {M : pM} (hM : gM gAll M) (p0 : 0 ≤ M 5 1 ∧ M 5 1 ≤ 0) : ∃ z M', xF d 61 [.inr 2] M = rI z M' ∧ ((-2 ≤ z ∧ z ≤ -2 ∧ 0 ≤ M' 5 1 ∧ M' 5 1 ≤ 0) ∨ (-3 ≤ z ∧ z ≤ -3 ∧ 0 ≤ M' 5 1 ∧ M' 5 1 ≤ 0) ∨ (-4 ≤ z ∧ z ≤ -4 ∧ 0 ≤ M' 5 1 ∧ M' 5 1 ≤ 0) ∨ (0 ≤ z ∧ z ≤ 0 ∧ 1 ≤ M' 5 1 ∧ M' 5 1 ≤ 1) ∨ (1 ≤ z ∧ z ≤ 1 ∧ 0 ≤ M' 5 1 ∧ M' 5 1 ≤ 0)) := by
  have c0 : cOK gAll (xF d) 61 K_726 := (ct_of (d := d) ct_ok (show K_726 ∈ CT.getD 61 [] from (show CT.getD 61 [] = [K_726, K_728, K_730, K_732, K_734, K_736, K_738, K_740, K_742, K_744, K_746, K_748, K_453] from rfl) ▸ by simp) hd)
  obtain ⟨z, M', e, -, -, alt, ha, q, p⟩ := cOK_I c0 (A := [.inr 2]) (show aF2 gW [aRef 2] [.inr 2] from ⟨gW_o, trivial⟩) hM (show gP0 [(5, 1, (0, 0, 0, 0, 0, 0))] M from fun e he => by
    simp only [List.mem_cons, List.not_mem_nil, or_false] at he
    rcases he with rfl
    · exact gR_i p0.1 p0.2) rfl
  refine ⟨z, M', e, ?_⟩
  have ha : alt ∈ [(some (0, -2, -2, 0, 0, 0), [], [(0, 14, (0, 1, 10, 0, 0, 0)), (5, 1, (0, 0, 0, 0, 0, 0)), (7, 10, (0, 1, 10, 0, 0, 0)), (52, 7, (0, -1, -1, 0, 0, 0))]), (some (0, -3, -3, 0, 0, 0), [], [(0, 14, (0, 1, 10, 0, 0, 0)), (5, 1, (0, 0, 0, 0, 0, 0)), (7, 10, (0, 1, 10, 0, 0, 0))]), (some (0, -4, -4, 0, 0, 0), [], [(5, 1, (0, 0, 0, 0, 0, 0))]), (some (0, 0, 0, 0, 0, 0), [], [(0, 14, (0, 1, 10, 0, 0, 0)), (5, 1, (0, 1, 1, 0, 0, 0)), (6, 0, (0, -2147483648, 2147483647, 0, 0, 0)), (7, 10, (0, 1, 10, 0, 0, 0))]), (some (0, 1, 1, 0, 0, 0), [], [(0, 14, (0, 1, 10, 0, 0, 0)), (5, 1, (0, 0, 0, 0, 0, 0)), (7, 10, (0, 1, 10, 0, 0, 0)), (52, 5, (0, 1, 300, 0, 0, 0)), (52, 7, (0, 0, 299, 0, 0, 0))])] := ha
  simp only [List.mem_cons, List.not_mem_nil, or_false] at ha
  rcases ha with rfl | rfl | rfl | rfl | rfl
  · obtain ⟨z2, e2, r⟩ := gW_int (show gW _ _ from q) (Nat.le_of_ble_eq_true rfl)
    cases e2
    have := gR0 r
    have w := gR0 (show gR (0, 0, 0, 0, 0, 0) (M' 5 1) from (p _ (List.mem_cons_of_mem _ List.mem_cons_self)).1)
    exact Or.inl ⟨this.1, this.2, w.1, w.2⟩
  · obtain ⟨z2, e2, r⟩ := gW_int (show gW _ _ from q) (Nat.le_of_ble_eq_true rfl)
    cases e2
    have := gR0 r
    have w := gR0 (show gR (0, 0, 0, 0, 0, 0) (M' 5 1) from (p _ (List.mem_cons_of_mem _ List.mem_cons_self)).1)
    exact Or.inr (Or.inl ⟨this.1, this.2, w.1, w.2⟩)
  · obtain ⟨z2, e2, r⟩ := gW_int (show gW _ _ from q) (Nat.le_of_ble_eq_true rfl)
    cases e2
    have := gR0 r
    have w := gR0 (show gR (0, 0, 0, 0, 0, 0) (M' 5 1) from (p _ List.mem_cons_self).1)
    exact Or.inr (Or.inr (Or.inl ⟨this.1, this.2, w.1, w.2⟩))
  · obtain ⟨z2, e2, r⟩ := gW_int (show gW _ _ from q) (Nat.le_of_ble_eq_true rfl)
    cases e2
    have := gR0 r
    have w := gR0 (show gR (0, 1, 1, 0, 0, 0) (M' 5 1) from (p _ (List.mem_cons_of_mem _ List.mem_cons_self)).1)
    exact Or.inr (Or.inr (Or.inr (Or.inl ⟨this.1, this.2, w.1, w.2⟩)))
  · obtain ⟨z2, e2, r⟩ := gW_int (show gW _ _ from q) (Nat.le_of_ble_eq_true rfl)
    cases e2
    have := gR0 r
    have w := gR0 (show gR (0, 0, 0, 0, 0, 0) (M' 5 1) from (p _ (List.mem_cons_of_mem _ List.mem_cons_self)).1)
    exact Or.inr (Or.inr (Or.inr (Or.inr ⟨this.1, this.2, w.1, w.2⟩)))
theorem nu_X_readyJourney_1 {d : Nat} (hd : 7 ≤ d) {M : pM} (hM : gM gAll M) (p0 : 1 ≤ M 5 1 ∧ M 5 1 ≤ 1) : ∃ z M', xF d 61 [.inr 2] M = rI z M' ∧ ((-2 ≤ z ∧ z ≤ -2 ∧ 1 ≤ M' 5 1 ∧ M' 5 1 ≤ 1) ∨ (-3 ≤ z ∧ z ≤ -3 ∧ 1 ≤ M' 5 1 ∧ M' 5 1 ≤ 1) ∨ (-4 ≤ z ∧ z ≤ -4 ∧ 1 ≤ M' 5 1 ∧ M' 5 1 ≤ 1) ∨ (0 ≤ z ∧ z ≤ 0 ∧ 1 ≤ M' 5 1 ∧ M' 5 1 ≤ 1) ∨ (1 ≤ z ∧ z ≤ 1 ∧ 1 ≤ M' 5 1 ∧ M' 5 1 ≤ 1)) := by
  have c0 : cOK gAll (xF d) 61 K_728 := (ct_of (d := d) ct_ok (show K_728 ∈ CT.getD 61 [] from (show CT.getD 61 [] = [K_726, K_728, K_730, K_732, K_734, K_736, K_738, K_740, K_742, K_744, K_746, K_748, K_453] from rfl) ▸ by simp) hd)
  obtain ⟨z, M', e, -, -, alt, ha, q, p⟩ := cOK_I c0 (A := [.inr 2]) (show aF2 gW [aRef 2] [.inr 2] from ⟨gW_o, trivial⟩) hM (show gP0 [(5, 1, (0, 1, 1, 0, 0, 0))] M from fun e he => by
    simp only [List.mem_cons, List.not_mem_nil, or_false] at he
    rcases he with rfl
    · exact gR_i p0.1 p0.2) rfl
  refine ⟨z, M', e, ?_⟩
  have ha : alt ∈ [(some (0, -2, -2, 0, 0, 0), [], [(0, 14, (0, 1, 10, 0, 0, 0)), (5, 1, (0, 1, 1, 0, 0, 0)), (7, 10, (0, 1, 10, 0, 0, 0)), (52, 7, (0, -1, -1, 0, 0, 0))]), (some (0, -3, -3, 0, 0, 0), [], [(0, 14, (0, 1, 10, 0, 0, 0)), (5, 1, (0, 1, 1, 0, 0, 0)), (7, 10, (0, 1, 10, 0, 0, 0))]), (some (0, -4, -4, 0, 0, 0), [], [(5, 1, (0, 1, 1, 0, 0, 0))]), (some (0, 0, 0, 0, 0, 0), [], [(0, 14, (0, 1, 10, 0, 0, 0)), (5, 1, (0, 1, 1, 0, 0, 0)), (6, 0, (0, -2147483648, 2147483647, 0, 0, 0)), (7, 10, (0, 1, 10, 0, 0, 0))]), (some (0, 1, 1, 0, 0, 0), [], [(0, 14, (0, 1, 10, 0, 0, 0)), (5, 1, (0, 1, 1, 0, 0, 0)), (7, 10, (0, 1, 10, 0, 0, 0)), (52, 5, (0, 1, 300, 0, 0, 0)), (52, 7, (0, 0, 299, 0, 0, 0))])] := ha
  simp only [List.mem_cons, List.not_mem_nil, or_false] at ha
  rcases ha with rfl | rfl | rfl | rfl | rfl
  · obtain ⟨z2, e2, r⟩ := gW_int (show gW _ _ from q) (Nat.le_of_ble_eq_true rfl)
    cases e2
    have := gR0 r
    have w := gR0 (show gR (0, 1, 1, 0, 0, 0) (M' 5 1) from (p _ (List.mem_cons_of_mem _ List.mem_cons_self)).1)
    exact Or.inl ⟨this.1, this.2, w.1, w.2⟩
  · obtain ⟨z2, e2, r⟩ := gW_int (show gW _ _ from q) (Nat.le_of_ble_eq_true rfl)
    cases e2
    have := gR0 r
    have w := gR0 (show gR (0, 1, 1, 0, 0, 0) (M' 5 1) from (p _ (List.mem_cons_of_mem _ List.mem_cons_self)).1)
    exact Or.inr (Or.inl ⟨this.1, this.2, w.1, w.2⟩)
  · obtain ⟨z2, e2, r⟩ := gW_int (show gW _ _ from q) (Nat.le_of_ble_eq_true rfl)
    cases e2
    have := gR0 r
    have w := gR0 (show gR (0, 1, 1, 0, 0, 0) (M' 5 1) from (p _ List.mem_cons_self).1)
    exact Or.inr (Or.inr (Or.inl ⟨this.1, this.2, w.1, w.2⟩))
  · obtain ⟨z2, e2, r⟩ := gW_int (show gW _ _ from q) (Nat.le_of_ble_eq_true rfl)
    cases e2
    have := gR0 r
    have w := gR0 (show gR (0, 1, 1, 0, 0, 0) (M' 5 1) from (p _ (List.mem_cons_of_mem _ List.mem_cons_self)).1)
    exact Or.inr (Or.inr (Or.inr (Or.inl ⟨this.1, this.2, w.1, w.2⟩)))
  · obtain ⟨z2, e2, r⟩ := gW_int (show gW _ _ from q) (Nat.le_of_ble_eq_true rfl)
    cases e2
    have := gR0 r
    have w := gR0 (show gR (0, 1, 1, 0, 0, 0) (M' 5 1) from (p _ (List.mem_cons_of_mem _ List.mem_cons_self)).1)
    exact Or.inr (Or.inr (Or.inr (Or.inr ⟨this.1, this.2, w.1, w.2⟩)))
theorem nu_X_readyJourney_2 {d : Nat} (hd : 7 ≤ d) {M : pM} (hM : gM gAll M) (p0 : 2 ≤ M 5 1 ∧ M 5 1 ≤ 2) : ∃ z M', xF d 61 [.inr 2] M = rI z M' ∧ ((-2 ≤ z ∧ z ≤ -2 ∧ 2 ≤ M' 5 1 ∧ M' 5 1 ≤ 2) ∨ (-3 ≤ z ∧ z ≤ -3 ∧ 2 ≤ M' 5 1 ∧ M' 5 1 ≤ 2) ∨ (-4 ≤ z ∧ z ≤ -4 ∧ 2 ≤ M' 5 1 ∧ M' 5 1 ≤ 2) ∨ (0 ≤ z ∧ z ≤ 0 ∧ 1 ≤ M' 5 1 ∧ M' 5 1 ≤ 1) ∨ (1 ≤ z ∧ z ≤ 1 ∧ 2 ≤ M' 5 1 ∧ M' 5 1 ≤ 2)) := by
  have c0 : cOK gAll (xF d) 61 K_730 := (ct_of (d := d) ct_ok (show K_730 ∈ CT.getD 61 [] from (show CT.getD 61 [] = [K_726, K_728, K_730, K_732, K_734, K_736, K_738, K_740, K_742, K_744, K_746, K_748, K_453] from rfl) ▸ by simp) hd)
  obtain ⟨z, M', e, -, -, alt, ha, q, p⟩ := cOK_I c0 (A := [.inr 2]) (show aF2 gW [aRef 2] [.inr 2] from ⟨gW_o, trivial⟩) hM (show gP0 [(5, 1, (0, 2, 2, 0, 0, 0))] M from fun e he => by
    simp only [List.mem_cons, List.not_mem_nil, or_false] at he
    rcases he with rfl
    · exact gR_i p0.1 p0.2) rfl
  refine ⟨z, M', e, ?_⟩
  have ha : alt ∈ [(some (0, -2, -2, 0, 0, 0), [], [(0, 14, (0, 1, 10, 0, 0, 0)), (5, 1, (0, 2, 2, 0, 0, 0)), (7, 10, (0, 1, 10, 0, 0, 0)), (52, 7, (0, -1, -1, 0, 0, 0))]), (some (0, -3, -3, 0, 0, 0), [], [(0, 14, (0, 1, 10, 0, 0, 0)), (5, 1, (0, 2, 2, 0, 0, 0)), (7, 10, (0, 1, 10, 0, 0, 0))]), (some (0, -4, -4, 0, 0, 0), [], [(5, 1, (0, 2, 2, 0, 0, 0))]), (some (0, 0, 0, 0, 0, 0), [], [(0, 14, (0, 1, 10, 0, 0, 0)), (5, 1, (0, 1, 1, 0, 0, 0)), (6, 0, (0, -2147483648, 2147483647, 0, 0, 0)), (7, 10, (0, 1, 10, 0, 0, 0))]), (some (0, 1, 1, 0, 0, 0), [], [(0, 14, (0, 1, 10, 0, 0, 0)), (5, 1, (0, 2, 2, 0, 0, 0)), (7, 10, (0, 1, 10, 0, 0, 0)), (52, 5, (0, 1, 300, 0, 0, 0)), (52, 7, (0, 0, 299, 0, 0, 0))])] := ha
  simp only [List.mem_cons, List.not_mem_nil, or_false] at ha
  rcases ha with rfl | rfl | rfl | rfl | rfl
  · obtain ⟨z2, e2, r⟩ := gW_int (show gW _ _ from q) (Nat.le_of_ble_eq_true rfl)
    cases e2
    have := gR0 r
    have w := gR0 (show gR (0, 2, 2, 0, 0, 0) (M' 5 1) from (p _ (List.mem_cons_of_mem _ List.mem_cons_self)).1)
    exact Or.inl ⟨this.1, this.2, w.1, w.2⟩
  · obtain ⟨z2, e2, r⟩ := gW_int (show gW _ _ from q) (Nat.le_of_ble_eq_true rfl)
    cases e2
    have := gR0 r
    have w := gR0 (show gR (0, 2, 2, 0, 0, 0) (M' 5 1) from (p _ (List.mem_cons_of_mem _ List.mem_cons_self)).1)
    exact Or.inr (Or.inl ⟨this.1, this.2, w.1, w.2⟩)
  · obtain ⟨z2, e2, r⟩ := gW_int (show gW _ _ from q) (Nat.le_of_ble_eq_true rfl)
    cases e2
    have := gR0 r
    have w := gR0 (show gR (0, 2, 2, 0, 0, 0) (M' 5 1) from (p _ List.mem_cons_self).1)
    exact Or.inr (Or.inr (Or.inl ⟨this.1, this.2, w.1, w.2⟩))
  · obtain ⟨z2, e2, r⟩ := gW_int (show gW _ _ from q) (Nat.le_of_ble_eq_true rfl)
    cases e2
    have := gR0 r
    have w := gR0 (show gR (0, 1, 1, 0, 0, 0) (M' 5 1) from (p _ (List.mem_cons_of_mem _ List.mem_cons_self)).1)
    exact Or.inr (Or.inr (Or.inr (Or.inl ⟨this.1, this.2, w.1, w.2⟩)))
  · obtain ⟨z2, e2, r⟩ := gW_int (show gW _ _ from q) (Nat.le_of_ble_eq_true rfl)
    cases e2
    have := gR0 r
    have w := gR0 (show gR (0, 2, 2, 0, 0, 0) (M' 5 1) from (p _ (List.mem_cons_of_mem _ List.mem_cons_self)).1)
    exact Or.inr (Or.inr (Or.inr (Or.inr ⟨this.1, this.2, w.1, w.2⟩)))
theorem nu_X_readyJourney_3 {d : Nat} (hd : 7 ≤ d) {M : pM} (hM : gM gAll M) (p0 : 3 ≤ M 5 1 ∧ M 5 1 ≤ 3) : ∃ z M', xF d 61 [.inr 2] M = rI z M' ∧ ((-2 ≤ z ∧ z ≤ -2 ∧ 3 ≤ M' 5 1 ∧ M' 5 1 ≤ 3) ∨ (-3 ≤ z ∧ z ≤ -3 ∧ 3 ≤ M' 5 1 ∧ M' 5 1 ≤ 3) ∨ (-4 ≤ z ∧ z ≤ -4 ∧ 3 ≤ M' 5 1 ∧ M' 5 1 ≤ 3) ∨ (0 ≤ z ∧ z ≤ 0 ∧ 1 ≤ M' 5 1 ∧ M' 5 1 ≤ 1) ∨ (1 ≤ z ∧ z ≤ 1 ∧ 3 ≤ M' 5 1 ∧ M' 5 1 ≤ 3)) := by
  have c0 : cOK gAll (xF d) 61 K_732 := (ct_of (d := d) ct_ok (show K_732 ∈ CT.getD 61 [] from (show CT.getD 61 [] = [K_726, K_728, K_730, K_732, K_734, K_736, K_738, K_740, K_742, K_744, K_746, K_748, K_453] from rfl) ▸ by simp) hd)
  obtain ⟨z, M', e, -, -, alt, ha, q, p⟩ := cOK_I c0 (A := [.inr 2]) (show aF2 gW [aRef 2] [.inr 2] from ⟨gW_o, trivial⟩) hM (show gP0 [(5, 1, (0, 3, 3, 0, 0, 0))] M from fun e he => by
    simp only [List.mem_cons, List.not_mem_nil, or_false] at he
    rcases he with rfl
    · exact gR_i p0.1 p0.2) rfl
  refine ⟨z, M', e, ?_⟩
  have ha : alt ∈ [(some (0, -2, -2, 0, 0, 0), [], [(0, 14, (0, 1, 10, 0, 0, 0)), (5, 1, (0, 3, 3, 0, 0, 0)), (7, 10, (0, 1, 10, 0, 0, 0)), (52, 7, (0, -1, -1, 0, 0, 0))]), (some (0, -3, -3, 0, 0, 0), [], [(0, 14, (0, 1, 10, 0, 0, 0)), (5, 1, (0, 3, 3, 0, 0, 0)), (7, 10, (0, 1, 10, 0, 0, 0))]), (some (0, -4, -4, 0, 0, 0), [], [(5, 1, (0, 3, 3, 0, 0, 0))]), (some (0, 0, 0, 0, 0, 0), [], [(0, 14, (0, 1, 10, 0, 0, 0)), (5, 1, (0, 1, 1, 0, 0, 0)), (6, 0, (0, -2147483648, 2147483647, 0, 0, 0)), (7, 10, (0, 1, 10, 0, 0, 0))]), (some (0, 1, 1, 0, 0, 0), [], [(0, 14, (0, 1, 10, 0, 0, 0)), (5, 1, (0, 3, 3, 0, 0, 0)), (7, 10, (0, 1, 10, 0, 0, 0)), (52, 5, (0, 1, 300, 0, 0, 0)), (52, 7, (0, 0, 299, 0, 0, 0))])] := ha
  simp only [List.mem_cons, List.not_mem_nil, or_false] at ha
  rcases ha with rfl | rfl | rfl | rfl | rfl
  · obtain ⟨z2, e2, r⟩ := gW_int (show gW _ _ from q) (Nat.le_of_ble_eq_true rfl)
    cases e2
    have := gR0 r
    have w := gR0 (show gR (0, 3, 3, 0, 0, 0) (M' 5 1) from (p _ (List.mem_cons_of_mem _ List.mem_cons_self)).1)
    exact Or.inl ⟨this.1, this.2, w.1, w.2⟩
  · obtain ⟨z2, e2, r⟩ := gW_int (show gW _ _ from q) (Nat.le_of_ble_eq_true rfl)
    cases e2
    have := gR0 r
    have w := gR0 (show gR (0, 3, 3, 0, 0, 0) (M' 5 1) from (p _ (List.mem_cons_of_mem _ List.mem_cons_self)).1)
    exact Or.inr (Or.inl ⟨this.1, this.2, w.1, w.2⟩)
  · obtain ⟨z2, e2, r⟩ := gW_int (show gW _ _ from q) (Nat.le_of_ble_eq_true rfl)
    cases e2
    have := gR0 r
    have w := gR0 (show gR (0, 3, 3, 0, 0, 0) (M' 5 1) from (p _ List.mem_cons_self).1)
    exact Or.inr (Or.inr (Or.inl ⟨this.1, this.2, w.1, w.2⟩))
  · obtain ⟨z2, e2, r⟩ := gW_int (show gW _ _ from q) (Nat.le_of_ble_eq_true rfl)
    cases e2
    have := gR0 r
    have w := gR0 (show gR (0, 1, 1, 0, 0, 0) (M' 5 1) from (p _ (List.mem_cons_of_mem _ List.mem_cons_self)).1)
    exact Or.inr (Or.inr (Or.inr (Or.inl ⟨this.1, this.2, w.1, w.2⟩)))
  · obtain ⟨z2, e2, r⟩ := gW_int (show gW _ _ from q) (Nat.le_of_ble_eq_true rfl)
    cases e2
    have := gR0 r
    have w := gR0 (show gR (0, 3, 3, 0, 0, 0) (M' 5 1) from (p _ (List.mem_cons_of_mem _ List.mem_cons_self)).1)
    exact Or.inr (Or.inr (Or.inr (Or.inr ⟨this.1, this.2, w.1, w.2⟩)))
theorem nu_X_readyJourney_4 {d : Nat} (hd : 7 ≤ d) {M : pM} (hM : gM gAll M) (p0 : 4 ≤ M 5 1 ∧ M 5 1 ≤ 4) : ∃ z M', xF d 61 [.inr 2] M = rI z M' ∧ ((-2 ≤ z ∧ z ≤ -2 ∧ 4 ≤ M' 5 1 ∧ M' 5 1 ≤ 4) ∨ (-3 ≤ z ∧ z ≤ -3 ∧ 4 ≤ M' 5 1 ∧ M' 5 1 ≤ 4) ∨ (-4 ≤ z ∧ z ≤ -4 ∧ 4 ≤ M' 5 1 ∧ M' 5 1 ≤ 4) ∨ (0 ≤ z ∧ z ≤ 0 ∧ 1 ≤ M' 5 1 ∧ M' 5 1 ≤ 1) ∨ (1 ≤ z ∧ z ≤ 1 ∧ 4 ≤ M' 5 1 ∧ M' 5 1 ≤ 4)) := by
  have c0 : cOK gAll (xF d) 61 K_734 := (ct_of (d := d) ct_ok (show K_734 ∈ CT.getD 61 [] from (show CT.getD 61 [] = [K_726, K_728, K_730, K_732, K_734, K_736, K_738, K_740, K_742, K_744, K_746, K_748, K_453] from rfl) ▸ by simp) hd)
  obtain ⟨z, M', e, -, -, alt, ha, q, p⟩ := cOK_I c0 (A := [.inr 2]) (show aF2 gW [aRef 2] [.inr 2] from ⟨gW_o, trivial⟩) hM (show gP0 [(5, 1, (0, 4, 4, 0, 0, 0))] M from fun e he => by
    simp only [List.mem_cons, List.not_mem_nil, or_false] at he
    rcases he with rfl
    · exact gR_i p0.1 p0.2) rfl
  refine ⟨z, M', e, ?_⟩
  have ha : alt ∈ [(some (0, -2, -2, 0, 0, 0), [], [(0, 14, (0, 1, 10, 0, 0, 0)), (5, 1, (0, 4, 4, 0, 0, 0)), (7, 10, (0, 1, 10, 0, 0, 0)), (52, 7, (0, -1, -1, 0, 0, 0))]), (some (0, -3, -3, 0, 0, 0), [], [(0, 14, (0, 1, 10, 0, 0, 0)), (5, 1, (0, 4, 4, 0, 0, 0)), (7, 10, (0, 1, 10, 0, 0, 0))]), (some (0, -4, -4, 0, 0, 0), [], [(5, 1, (0, 4, 4, 0, 0, 0))]), (some (0, 0, 0, 0, 0, 0), [], [(0, 14, (0, 1, 10, 0, 0, 0)), (5, 1, (0, 1, 1, 0, 0, 0)), (6, 0, (0, -2147483648, 2147483647, 0, 0, 0)), (7, 10, (0, 1, 10, 0, 0, 0))]), (some (0, 1, 1, 0, 0, 0), [], [(0, 14, (0, 1, 10, 0, 0, 0)), (5, 1, (0, 4, 4, 0, 0, 0)), (7, 10, (0, 1, 10, 0, 0, 0)), (52, 5, (0, 1, 300, 0, 0, 0)), (52, 7, (0, 0, 299, 0, 0, 0))])] := ha
  simp only [List.mem_cons, List.not_mem_nil, or_false] at ha
  rcases ha with rfl | rfl | rfl | rfl | rfl
  · obtain ⟨z2, e2, r⟩ := gW_int (show gW _ _ from q) (Nat.le_of_ble_eq_true rfl)
    cases e2
    have := gR0 r
    have w := gR0 (show gR (0, 4, 4, 0, 0, 0) (M' 5 1) from (p _ (List.mem_cons_of_mem _ List.mem_cons_self)).1)
    exact Or.inl ⟨this.1, this.2, w.1, w.2⟩
  · obtain ⟨z2, e2, r⟩ := gW_int (show gW _ _ from q) (Nat.le_of_ble_eq_true rfl)
    cases e2
    have := gR0 r
    have w := gR0 (show gR (0, 4, 4, 0, 0, 0) (M' 5 1) from (p _ (List.mem_cons_of_mem _ List.mem_cons_self)).1)
    exact Or.inr (Or.inl ⟨this.1, this.2, w.1, w.2⟩)
  · obtain ⟨z2, e2, r⟩ := gW_int (show gW _ _ from q) (Nat.le_of_ble_eq_true rfl)
    cases e2
    have := gR0 r
    have w := gR0 (show gR (0, 4, 4, 0, 0, 0) (M' 5 1) from (p _ List.mem_cons_self).1)
    exact Or.inr (Or.inr (Or.inl ⟨this.1, this.2, w.1, w.2⟩))
  · obtain ⟨z2, e2, r⟩ := gW_int (show gW _ _ from q) (Nat.le_of_ble_eq_true rfl)
    cases e2
    have := gR0 r
    have w := gR0 (show gR (0, 1, 1, 0, 0, 0) (M' 5 1) from (p _ (List.mem_cons_of_mem _ List.mem_cons_self)).1)
    exact Or.inr (Or.inr (Or.inr (Or.inl ⟨this.1, this.2, w.1, w.2⟩)))
  · obtain ⟨z2, e2, r⟩ := gW_int (show gW _ _ from q) (Nat.le_of_ble_eq_true rfl)
    cases e2
    have := gR0 r
    have w := gR0 (show gR (0, 4, 4, 0, 0, 0) (M' 5 1) from (p _ (List.mem_cons_of_mem _ List.mem_cons_self)).1)
    exact Or.inr (Or.inr (Or.inr (Or.inr ⟨this.1, this.2, w.1, w.2⟩)))
theorem nu_X_readyJourney_5 {d : Nat} (hd : 7 ≤ d) {M : pM} (hM : gM gAll M) (p0 : 5 ≤ M 5 1 ∧ M 5 1 ≤ 5) : ∃ z M', xF d 61 [.inr 2] M = rI z M' ∧ ((-2 ≤ z ∧ z ≤ -2 ∧ 5 ≤ M' 5 1 ∧ M' 5 1 ≤ 5) ∨ (-3 ≤ z ∧ z ≤ -3 ∧ 5 ≤ M' 5 1 ∧ M' 5 1 ≤ 5) ∨ (-4 ≤ z ∧ z ≤ -4 ∧ 5 ≤ M' 5 1 ∧ M' 5 1 ≤ 5) ∨ (0 ≤ z ∧ z ≤ 0 ∧ 1 ≤ M' 5 1 ∧ M' 5 1 ≤ 1) ∨ (1 ≤ z ∧ z ≤ 1 ∧ 5 ≤ M' 5 1 ∧ M' 5 1 ≤ 5)) := by
  have c0 : cOK gAll (xF d) 61 K_736 := (ct_of (d := d) ct_ok (show K_736 ∈ CT.getD 61 [] from (show CT.getD 61 [] = [K_726, K_728, K_730, K_732, K_734, K_736, K_738, K_740, K_742, K_744, K_746, K_748, K_453] from rfl) ▸ by simp) hd)
  obtain ⟨z, M', e, -, -, alt, ha, q, p⟩ := cOK_I c0 (A := [.inr 2]) (show aF2 gW [aRef 2] [.inr 2] from ⟨gW_o, trivial⟩) hM (show gP0 [(5, 1, (0, 5, 5, 0, 0, 0))] M from fun e he => by
    simp only [List.mem_cons, List.not_mem_nil, or_false] at he
    rcases he with rfl
    · exact gR_i p0.1 p0.2) rfl
  refine ⟨z, M', e, ?_⟩
  have ha : alt ∈ [(some (0, -2, -2, 0, 0, 0), [], [(0, 14, (0, 1, 10, 0, 0, 0)), (5, 1, (0, 5, 5, 0, 0, 0)), (7, 10, (0, 1, 10, 0, 0, 0)), (52, 7, (0, -1, -1, 0, 0, 0))]), (some (0, -3, -3, 0, 0, 0), [], [(0, 14, (0, 1, 10, 0, 0, 0)), (5, 1, (0, 5, 5, 0, 0, 0)), (7, 10, (0, 1, 10, 0, 0, 0))]), (some (0, -4, -4, 0, 0, 0), [], [(5, 1, (0, 5, 5, 0, 0, 0))]), (some (0, 0, 0, 0, 0, 0), [], [(0, 14, (0, 1, 10, 0, 0, 0)), (5, 1, (0, 1, 1, 0, 0, 0)), (6, 0, (0, -2147483648, 2147483647, 0, 0, 0)), (7, 10, (0, 1, 10, 0, 0, 0))]), (some (0, 1, 1, 0, 0, 0), [], [(0, 14, (0, 1, 10, 0, 0, 0)), (5, 1, (0, 5, 5, 0, 0, 0)), (7, 10, (0, 1, 10, 0, 0, 0)), (52, 5, (0, 1, 300, 0, 0, 0)), (52, 7, (0, 0, 299, 0, 0, 0))])] := ha
  simp only [List.mem_cons, List.not_mem_nil, or_false] at ha
  rcases ha with rfl | rfl | rfl | rfl | rfl
  · obtain ⟨z2, e2, r⟩ := gW_int (show gW _ _ from q) (Nat.le_of_ble_eq_true rfl)
    cases e2
    have := gR0 r
    have w := gR0 (show gR (0, 5, 5, 0, 0, 0) (M' 5 1) from (p _ (List.mem_cons_of_mem _ List.mem_cons_self)).1)
    exact Or.inl ⟨this.1, this.2, w.1, w.2⟩
  · obtain ⟨z2, e2, r⟩ := gW_int (show gW _ _ from q) (Nat.le_of_ble_eq_true rfl)
    cases e2
    have := gR0 r
    have w := gR0 (show gR (0, 5, 5, 0, 0, 0) (M' 5 1) from (p _ (List.mem_cons_of_mem _ List.mem_cons_self)).1)
    exact Or.inr (Or.inl ⟨this.1, this.2, w.1, w.2⟩)
  · obtain ⟨z2, e2, r⟩ := gW_int (show gW _ _ from q) (Nat.le_of_ble_eq_true rfl)
    cases e2
    have := gR0 r
    have w := gR0 (show gR (0, 5, 5, 0, 0, 0) (M' 5 1) from (p _ List.mem_cons_self).1)
    exact Or.inr (Or.inr (Or.inl ⟨this.1, this.2, w.1, w.2⟩))
  · obtain ⟨z2, e2, r⟩ := gW_int (show gW _ _ from q) (Nat.le_of_ble_eq_true rfl)
    cases e2
    have := gR0 r
    have w := gR0 (show gR (0, 1, 1, 0, 0, 0) (M' 5 1) from (p _ (List.mem_cons_of_mem _ List.mem_cons_self)).1)
    exact Or.inr (Or.inr (Or.inr (Or.inl ⟨this.1, this.2, w.1, w.2⟩)))
  · obtain ⟨z2, e2, r⟩ := gW_int (show gW _ _ from q) (Nat.le_of_ble_eq_true rfl)
    cases e2
    have := gR0 r
    have w := gR0 (show gR (0, 5, 5, 0, 0, 0) (M' 5 1) from (p _ (List.mem_cons_of_mem _ List.mem_cons_self)).1)
    exact Or.inr (Or.inr (Or.inr (Or.inr ⟨this.1, this.2, w.1, w.2⟩)))
theorem nu_X_readyJourney_6 {d : Nat} (hd : 7 ≤ d) {M : pM} (hM : gM gAll M) (p0 : 6 ≤ M 5 1 ∧ M 5 1 ≤ 6) : ∃ z M', xF d 61 [.inr 2] M = rI z M' ∧ ((-2 ≤ z ∧ z ≤ -2 ∧ 6 ≤ M' 5 1 ∧ M' 5 1 ≤ 6) ∨ (-3 ≤ z ∧ z ≤ -3 ∧ 6 ≤ M' 5 1 ∧ M' 5 1 ≤ 6) ∨ (-4 ≤ z ∧ z ≤ -4 ∧ 6 ≤ M' 5 1 ∧ M' 5 1 ≤ 6) ∨ (0 ≤ z ∧ z ≤ 0 ∧ 1 ≤ M' 5 1 ∧ M' 5 1 ≤ 1) ∨ (1 ≤ z ∧ z ≤ 1 ∧ 6 ≤ M' 5 1 ∧ M' 5 1 ≤ 6)) := by
  have c0 : cOK gAll (xF d) 61 K_738 := (ct_of (d := d) ct_ok (show K_738 ∈ CT.getD 61 [] from (show CT.getD 61 [] = [K_726, K_728, K_730, K_732, K_734, K_736, K_738, K_740, K_742, K_744, K_746, K_748, K_453] from rfl) ▸ by simp) hd)
  obtain ⟨z, M', e, -, -, alt, ha, q, p⟩ := cOK_I c0 (A := [.inr 2]) (show aF2 gW [aRef 2] [.inr 2] from ⟨gW_o, trivial⟩) hM (show gP0 [(5, 1, (0, 6, 6, 0, 0, 0))] M from fun e he => by
    simp only [List.mem_cons, List.not_mem_nil, or_false] at he
    rcases he with rfl
    · exact gR_i p0.1 p0.2) rfl
  refine ⟨z, M', e, ?_⟩
  have ha : alt ∈ [(some (0, -2, -2, 0, 0, 0), [], [(0, 14, (0, 1, 10, 0, 0, 0)), (5, 1, (0, 6, 6, 0, 0, 0)), (7, 10, (0, 1, 10, 0, 0, 0)), (52, 7, (0, -1, -1, 0, 0, 0))]), (some (0, -3, -3, 0, 0, 0), [], [(0, 14, (0, 1, 10, 0, 0, 0)), (5, 1, (0, 6, 6, 0, 0, 0)), (7, 10, (0, 1, 10, 0, 0, 0))]), (some (0, -4, -4, 0, 0, 0), [], [(5, 1, (0, 6, 6, 0, 0, 0))]), (some (0, 0, 0, 0, 0, 0), [], [(0, 14, (0, 1, 10, 0, 0, 0)), (5, 1, (0, 1, 1, 0, 0, 0)), (6, 0, (0, -2147483648, 2147483647, 0, 0, 0)), (7, 10, (0, 1, 10, 0, 0, 0))]), (some (0, 1, 1, 0, 0, 0), [], [(0, 14, (0, 1, 10, 0, 0, 0)), (5, 1, (0, 6, 6, 0, 0, 0)), (7, 10, (0, 1, 10, 0, 0, 0)), (52, 5, (0, 1, 300, 0, 0, 0)), (52, 7, (0, 0, 299, 0, 0, 0))])] := ha
  simp only [List.mem_cons, List.not_mem_nil, or_false] at ha
  rcases ha with rfl | rfl | rfl | rfl | rfl
  · obtain ⟨z2, e2, r⟩ := gW_int (show gW _ _ from q) (Nat.le_of_ble_eq_true rfl)
    cases e2
    have := gR0 r
    have w := gR0 (show gR (0, 6, 6, 0, 0, 0) (M' 5 1) from (p _ (List.mem_cons_of_mem _ List.mem_cons_self)).1)
    exact Or.inl ⟨this.1, this.2, w.1, w.2⟩
  · obtain ⟨z2, e2, r⟩ := gW_int (show gW _ _ from q) (Nat.le_of_ble_eq_true rfl)
    cases e2
    have := gR0 r
    have w := gR0 (show gR (0, 6, 6, 0, 0, 0) (M' 5 1) from (p _ (List.mem_cons_of_mem _ List.mem_cons_self)).1)
    exact Or.inr (Or.inl ⟨this.1, this.2, w.1, w.2⟩)
  · obtain ⟨z2, e2, r⟩ := gW_int (show gW _ _ from q) (Nat.le_of_ble_eq_true rfl)
    cases e2
    have := gR0 r
    have w := gR0 (show gR (0, 6, 6, 0, 0, 0) (M' 5 1) from (p _ List.mem_cons_self).1)
    exact Or.inr (Or.inr (Or.inl ⟨this.1, this.2, w.1, w.2⟩))
  · obtain ⟨z2, e2, r⟩ := gW_int (show gW _ _ from q) (Nat.le_of_ble_eq_true rfl)
    cases e2
    have := gR0 r
    have w := gR0 (show gR (0, 1, 1, 0, 0, 0) (M' 5 1) from (p _ (List.mem_cons_of_mem _ List.mem_cons_self)).1)
    exact Or.inr (Or.inr (Or.inr (Or.inl ⟨this.1, this.2, w.1, w.2⟩)))
  · obtain ⟨z2, e2, r⟩ := gW_int (show gW _ _ from q) (Nat.le_of_ble_eq_true rfl)
    cases e2
    have := gR0 r
    have w := gR0 (show gR (0, 6, 6, 0, 0, 0) (M' 5 1) from (p _ (List.mem_cons_of_mem _ List.mem_cons_self)).1)
    exact Or.inr (Or.inr (Or.inr (Or.inr ⟨this.1, this.2, w.1, w.2⟩)))
theorem nu_X_readyJourney_7 {d : Nat} (hd : 7 ≤ d) {M : pM} (hM : gM gAll M) (p0 : 7 ≤ M 5 1 ∧ M 5 1 ≤ 7) : ∃ z M', xF d 61 [.inr 2] M = rI z M' ∧ ((-2 ≤ z ∧ z ≤ -2 ∧ 7 ≤ M' 5 1 ∧ M' 5 1 ≤ 7) ∨ (-3 ≤ z ∧ z ≤ -3 ∧ 7 ≤ M' 5 1 ∧ M' 5 1 ≤ 7) ∨ (-4 ≤ z ∧ z ≤ -4 ∧ 7 ≤ M' 5 1 ∧ M' 5 1 ≤ 7) ∨ (0 ≤ z ∧ z ≤ 0 ∧ 1 ≤ M' 5 1 ∧ M' 5 1 ≤ 1) ∨ (1 ≤ z ∧ z ≤ 1 ∧ 7 ≤ M' 5 1 ∧ M' 5 1 ≤ 7)) := by
  have c0 : cOK gAll (xF d) 61 K_740 := (ct_of (d := d) ct_ok (show K_740 ∈ CT.getD 61 [] from (show CT.getD 61 [] = [K_726, K_728, K_730, K_732, K_734, K_736, K_738, K_740, K_742, K_744, K_746, K_748, K_453] from rfl) ▸ by simp) hd)
  obtain ⟨z, M', e, -, -, alt, ha, q, p⟩ := cOK_I c0 (A := [.inr 2]) (show aF2 gW [aRef 2] [.inr 2] from ⟨gW_o, trivial⟩) hM (show gP0 [(5, 1, (0, 7, 7, 0, 0, 0))] M from fun e he => by
    simp only [List.mem_cons, List.not_mem_nil, or_false] at he
    rcases he with rfl
    · exact gR_i p0.1 p0.2) rfl
  refine ⟨z, M', e, ?_⟩
  have ha : alt ∈ [(some (0, -2, -2, 0, 0, 0), [], [(0, 14, (0, 1, 10, 0, 0, 0)), (5, 1, (0, 7, 7, 0, 0, 0)), (7, 10, (0, 1, 10, 0, 0, 0)), (52, 7, (0, -1, -1, 0, 0, 0))]), (some (0, -3, -3, 0, 0, 0), [], [(0, 14, (0, 1, 10, 0, 0, 0)), (5, 1, (0, 7, 7, 0, 0, 0)), (7, 10, (0, 1, 10, 0, 0, 0))]), (some (0, -4, -4, 0, 0, 0), [], [(5, 1, (0, 7, 7, 0, 0, 0))]), (some (0, 0, 0, 0, 0, 0), [], [(0, 14, (0, 1, 10, 0, 0, 0)), (5, 1, (0, 1, 1, 0, 0, 0)), (6, 0, (0, -2147483648, 2147483647, 0, 0, 0)), (7, 10, (0, 1, 10, 0, 0, 0))]), (some (0, 1, 1, 0, 0, 0), [], [(0, 14, (0, 1, 10, 0, 0, 0)), (5, 1, (0, 7, 7, 0, 0, 0)), (7, 10, (0, 1, 10, 0, 0, 0)), (52, 5, (0, 1, 300, 0, 0, 0)), (52, 7, (0, 0, 299, 0, 0, 0))])] := ha
  simp only [List.mem_cons, List.not_mem_nil, or_false] at ha
  rcases ha with rfl | rfl | rfl | rfl | rfl
  · obtain ⟨z2, e2, r⟩ := gW_int (show gW _ _ from q) (Nat.le_of_ble_eq_true rfl)
    cases e2
    have := gR0 r
    have w := gR0 (show gR (0, 7, 7, 0, 0, 0) (M' 5 1) from (p _ (List.mem_cons_of_mem _ List.mem_cons_self)).1)
    exact Or.inl ⟨this.1, this.2, w.1, w.2⟩
  · obtain ⟨z2, e2, r⟩ := gW_int (show gW _ _ from q) (Nat.le_of_ble_eq_true rfl)
    cases e2
    have := gR0 r
    have w := gR0 (show gR (0, 7, 7, 0, 0, 0) (M' 5 1) from (p _ (List.mem_cons_of_mem _ List.mem_cons_self)).1)
    exact Or.inr (Or.inl ⟨this.1, this.2, w.1, w.2⟩)
  · obtain ⟨z2, e2, r⟩ := gW_int (show gW _ _ from q) (Nat.le_of_ble_eq_true rfl)
    cases e2
    have := gR0 r
    have w := gR0 (show gR (0, 7, 7, 0, 0, 0) (M' 5 1) from (p _ List.mem_cons_self).1)
    exact Or.inr (Or.inr (Or.inl ⟨this.1, this.2, w.1, w.2⟩))
  · obtain ⟨z2, e2, r⟩ := gW_int (show gW _ _ from q) (Nat.le_of_ble_eq_true rfl)
    cases e2
    have := gR0 r
    have w := gR0 (show gR (0, 1, 1, 0, 0, 0) (M' 5 1) from (p _ (List.mem_cons_of_mem _ List.mem_cons_self)).1)
    exact Or.inr (Or.inr (Or.inr (Or.inl ⟨this.1, this.2, w.1, w.2⟩)))
  · obtain ⟨z2, e2, r⟩ := gW_int (show gW _ _ from q) (Nat.le_of_ble_eq_true rfl)
    cases e2
    have := gR0 r
    have w := gR0 (show gR (0, 7, 7, 0, 0, 0) (M' 5 1) from (p _ (List.mem_cons_of_mem _ List.mem_cons_self)).1)
    exact Or.inr (Or.inr (Or.inr (Or.inr ⟨this.1, this.2, w.1, w.2⟩)))
theorem nu_X_readyJourney_8 {d : Nat} (hd : 7 ≤ d) {M : pM} (hM : gM gAll M) (p0 : 8 ≤ M 5 1 ∧ M 5 1 ≤ 8) : ∃ z M', xF d 61 [.inr 2] M = rI z M' ∧ ((-2 ≤ z ∧ z ≤ -2 ∧ 8 ≤ M' 5 1 ∧ M' 5 1 ≤ 8) ∨ (-3 ≤ z ∧ z ≤ -3 ∧ 8 ≤ M' 5 1 ∧ M' 5 1 ≤ 8) ∨ (-4 ≤ z ∧ z ≤ -4 ∧ 8 ≤ M' 5 1 ∧ M' 5 1 ≤ 8) ∨ (0 ≤ z ∧ z ≤ 0 ∧ 1 ≤ M' 5 1 ∧ M' 5 1 ≤ 1) ∨ (1 ≤ z ∧ z ≤ 1 ∧ 8 ≤ M' 5 1 ∧ M' 5 1 ≤ 8)) := by
  have c0 : cOK gAll (xF d) 61 K_742 := (ct_of (d := d) ct_ok (show K_742 ∈ CT.getD 61 [] from (show CT.getD 61 [] = [K_726, K_728, K_730, K_732, K_734, K_736, K_738, K_740, K_742, K_744, K_746, K_748, K_453] from rfl) ▸ by simp) hd)
  obtain ⟨z, M', e, -, -, alt, ha, q, p⟩ := cOK_I c0 (A := [.inr 2]) (show aF2 gW [aRef 2] [.inr 2] from ⟨gW_o, trivial⟩) hM (show gP0 [(5, 1, (0, 8, 8, 0, 0, 0))] M from fun e he => by
    simp only [List.mem_cons, List.not_mem_nil, or_false] at he
    rcases he with rfl
    · exact gR_i p0.1 p0.2) rfl
  refine ⟨z, M', e, ?_⟩
  have ha : alt ∈ [(some (0, -2, -2, 0, 0, 0), [], [(0, 14, (0, 1, 10, 0, 0, 0)), (5, 1, (0, 8, 8, 0, 0, 0)), (7, 10, (0, 1, 10, 0, 0, 0)), (52, 7, (0, -1, -1, 0, 0, 0))]), (some (0, -3, -3, 0, 0, 0), [], [(0, 14, (0, 1, 10, 0, 0, 0)), (5, 1, (0, 8, 8, 0, 0, 0)), (7, 10, (0, 1, 10, 0, 0, 0))]), (some (0, -4, -4, 0, 0, 0), [], [(5, 1, (0, 8, 8, 0, 0, 0))]), (some (0, 0, 0, 0, 0, 0), [], [(0, 14, (0, 1, 10, 0, 0, 0)), (5, 1, (0, 1, 1, 0, 0, 0)), (6, 0, (0, -2147483648, 2147483647, 0, 0, 0)), (7, 10, (0, 1, 10, 0, 0, 0))]), (some (0, 1, 1, 0, 0, 0), [], [(0, 14, (0, 1, 10, 0, 0, 0)), (5, 1, (0, 8, 8, 0, 0, 0)), (7, 10, (0, 1, 10, 0, 0, 0)), (52, 5, (0, 1, 300, 0, 0, 0)), (52, 7, (0, 0, 299, 0, 0, 0))])] := ha
  simp only [List.mem_cons, List.not_mem_nil, or_false] at ha
  rcases ha with rfl | rfl | rfl | rfl | rfl
  · obtain ⟨z2, e2, r⟩ := gW_int (show gW _ _ from q) (Nat.le_of_ble_eq_true rfl)
    cases e2
    have := gR0 r
    have w := gR0 (show gR (0, 8, 8, 0, 0, 0) (M' 5 1) from (p _ (List.mem_cons_of_mem _ List.mem_cons_self)).1)
    exact Or.inl ⟨this.1, this.2, w.1, w.2⟩
  · obtain ⟨z2, e2, r⟩ := gW_int (show gW _ _ from q) (Nat.le_of_ble_eq_true rfl)
    cases e2
    have := gR0 r
    have w := gR0 (show gR (0, 8, 8, 0, 0, 0) (M' 5 1) from (p _ (List.mem_cons_of_mem _ List.mem_cons_self)).1)
    exact Or.inr (Or.inl ⟨this.1, this.2, w.1, w.2⟩)
  · obtain ⟨z2, e2, r⟩ := gW_int (show gW _ _ from q) (Nat.le_of_ble_eq_true rfl)
    cases e2
    have := gR0 r
    have w := gR0 (show gR (0, 8, 8, 0, 0, 0) (M' 5 1) from (p _ List.mem_cons_self).1)
    exact Or.inr (Or.inr (Or.inl ⟨this.1, this.2, w.1, w.2⟩))
  · obtain ⟨z2, e2, r⟩ := gW_int (show gW _ _ from q) (Nat.le_of_ble_eq_true rfl)
    cases e2
    have := gR0 r
    have w := gR0 (show gR (0, 1, 1, 0, 0, 0) (M' 5 1) from (p _ (List.mem_cons_of_mem _ List.mem_cons_self)).1)
    exact Or.inr (Or.inr (Or.inr (Or.inl ⟨this.1, this.2, w.1, w.2⟩)))
  · obtain ⟨z2, e2, r⟩ := gW_int (show gW _ _ from q) (Nat.le_of_ble_eq_true rfl)
    cases e2
    have := gR0 r
    have w := gR0 (show gR (0, 8, 8, 0, 0, 0) (M' 5 1) from (p _ (List.mem_cons_of_mem _ List.mem_cons_self)).1)
    exact Or.inr (Or.inr (Or.inr (Or.inr ⟨this.1, this.2, w.1, w.2⟩)))
theorem nu_X_readyJourney_9 {d : Nat} (hd : 7 ≤ d) {M : pM} (hM : gM gAll M) (p0 : 9 ≤ M 5 1 ∧ M 5 1 ≤ 9) : ∃ z M', xF d 61 [.inr 2] M = rI z M' ∧ ((-2 ≤ z ∧ z ≤ -2 ∧ 9 ≤ M' 5 1 ∧ M' 5 1 ≤ 9) ∨ (-3 ≤ z ∧ z ≤ -3 ∧ 9 ≤ M' 5 1 ∧ M' 5 1 ≤ 9) ∨ (-4 ≤ z ∧ z ≤ -4 ∧ 9 ≤ M' 5 1 ∧ M' 5 1 ≤ 9) ∨ (0 ≤ z ∧ z ≤ 0 ∧ 1 ≤ M' 5 1 ∧ M' 5 1 ≤ 1) ∨ (1 ≤ z ∧ z ≤ 1 ∧ 9 ≤ M' 5 1 ∧ M' 5 1 ≤ 9)) := by
  have c0 : cOK gAll (xF d) 61 K_744 := (ct_of (d := d) ct_ok (show K_744 ∈ CT.getD 61 [] from (show CT.getD 61 [] = [K_726, K_728, K_730, K_732, K_734, K_736, K_738, K_740, K_742, K_744, K_746, K_748, K_453] from rfl) ▸ by simp) hd)
  obtain ⟨z, M', e, -, -, alt, ha, q, p⟩ := cOK_I c0 (A := [.inr 2]) (show aF2 gW [aRef 2] [.inr 2] from ⟨gW_o, trivial⟩) hM (show gP0 [(5, 1, (0, 9, 9, 0, 0, 0))] M from fun e he => by
    simp only [List.mem_cons, List.not_mem_nil, or_false] at he
    rcases he with rfl
    · exact gR_i p0.1 p0.2) rfl
  refine ⟨z, M', e, ?_⟩
  have ha : alt ∈ [(some (0, -2, -2, 0, 0, 0), [], [(0, 14, (0, 1, 10, 0, 0, 0)), (5, 1, (0, 9, 9, 0, 0, 0)), (7, 10, (0, 1, 10, 0, 0, 0)), (52, 7, (0, -1, -1, 0, 0, 0))]), (some (0, -3, -3, 0, 0, 0), [], [(0, 14, (0, 1, 10, 0, 0, 0)), (5, 1, (0, 9, 9, 0, 0, 0)), (7, 10, (0, 1, 10, 0, 0, 0))]), (some (0, -4, -4, 0, 0, 0), [], [(5, 1, (0, 9, 9, 0, 0, 0))]), (some (0, 0, 0, 0, 0, 0), [], [(0, 14, (0, 1, 10, 0, 0, 0)), (5, 1, (0, 1, 1, 0, 0, 0)), (6, 0, (0, -2147483648, 2147483647, 0, 0, 0)), (7, 10, (0, 1, 10, 0, 0, 0))]), (some (0, 1, 1, 0, 0, 0), [], [(0, 14, (0, 1, 10, 0, 0, 0)), (5, 1, (0, 9, 9, 0, 0, 0)), (7, 10, (0, 1, 10, 0, 0, 0)), (52, 5, (0, 1, 300, 0, 0, 0)), (52, 7, (0, 0, 299, 0, 0, 0))])] := ha
  simp only [List.mem_cons, List.not_mem_nil, or_false] at ha
  rcases ha with rfl | rfl | rfl | rfl | rfl
  · obtain ⟨z2, e2, r⟩ := gW_int (show gW _ _ from q) (Nat.le_of_ble_eq_true rfl)
    cases e2
    have := gR0 r
    have w := gR0 (show gR (0, 9, 9, 0, 0, 0) (M' 5 1) from (p _ (List.mem_cons_of_mem _ List.mem_cons_self)).1)
    exact Or.inl ⟨this.1, this.2, w.1, w.2⟩
  · obtain ⟨z2, e2, r⟩ := gW_int (show gW _ _ from q) (Nat.le_of_ble_eq_true rfl)
    cases e2
    have := gR0 r
    have w := gR0 (show gR (0, 9, 9, 0, 0, 0) (M' 5 1) from (p _ (List.mem_cons_of_mem _ List.mem_cons_self)).1)
    exact Or.inr (Or.inl ⟨this.1, this.2, w.1, w.2⟩)
  · obtain ⟨z2, e2, r⟩ := gW_int (show gW _ _ from q) (Nat.le_of_ble_eq_true rfl)
    cases e2
    have := gR0 r
    have w := gR0 (show gR (0, 9, 9, 0, 0, 0) (M' 5 1) from (p _ List.mem_cons_self).1)
    exact Or.inr (Or.inr (Or.inl ⟨this.1, this.2, w.1, w.2⟩))
  · obtain ⟨z2, e2, r⟩ := gW_int (show gW _ _ from q) (Nat.le_of_ble_eq_true rfl)
    cases e2
    have := gR0 r
    have w := gR0 (show gR (0, 1, 1, 0, 0, 0) (M' 5 1) from (p _ (List.mem_cons_of_mem _ List.mem_cons_self)).1)
    exact Or.inr (Or.inr (Or.inr (Or.inl ⟨this.1, this.2, w.1, w.2⟩)))
  · obtain ⟨z2, e2, r⟩ := gW_int (show gW _ _ from q) (Nat.le_of_ble_eq_true rfl)
    cases e2
    have := gR0 r
    have w := gR0 (show gR (0, 9, 9, 0, 0, 0) (M' 5 1) from (p _ (List.mem_cons_of_mem _ List.mem_cons_self)).1)
    exact Or.inr (Or.inr (Or.inr (Or.inr ⟨this.1, this.2, w.1, w.2⟩)))
theorem nu_X_readyJourney_10 {d : Nat} (hd : 7 ≤ d) {M : pM} (hM : gM gAll M) (p0 : 10 ≤ M 5 1 ∧ M 5 1 ≤ 10) : ∃ z M', xF d 61 [.inr 2] M = rI z M' ∧ ((-2 ≤ z ∧ z ≤ -2 ∧ 10 ≤ M' 5 1 ∧ M' 5 1 ≤ 10) ∨ (-3 ≤ z ∧ z ≤ -3 ∧ 10 ≤ M' 5 1 ∧ M' 5 1 ≤ 10) ∨ (-4 ≤ z ∧ z ≤ -4 ∧ 10 ≤ M' 5 1 ∧ M' 5 1 ≤ 10) ∨ (0 ≤ z ∧ z ≤ 0 ∧ 1 ≤ M' 5 1 ∧ M' 5 1 ≤ 1) ∨ (1 ≤ z ∧ z ≤ 1 ∧ 10 ≤ M' 5 1 ∧ M' 5 1 ≤ 10)) := by
  have c0 : cOK gAll (xF d) 61 K_746 := (ct_of (d := d) ct_ok (show K_746 ∈ CT.getD 61 [] from (show CT.getD 61 [] = [K_726, K_728, K_730, K_732, K_734, K_736, K_738, K_740, K_742, K_744, K_746, K_748, K_453] from rfl) ▸ by simp) hd)
  obtain ⟨z, M', e, -, -, alt, ha, q, p⟩ := cOK_I c0 (A := [.inr 2]) (show aF2 gW [aRef 2] [.inr 2] from ⟨gW_o, trivial⟩) hM (show gP0 [(5, 1, (0, 10, 10, 0, 0, 0))] M from fun e he => by
    simp only [List.mem_cons, List.not_mem_nil, or_false] at he
    rcases he with rfl
    · exact gR_i p0.1 p0.2) rfl
  refine ⟨z, M', e, ?_⟩
  have ha : alt ∈ [(some (0, -2, -2, 0, 0, 0), [], [(0, 14, (0, 1, 10, 0, 0, 0)), (5, 1, (0, 10, 10, 0, 0, 0)), (7, 10, (0, 1, 10, 0, 0, 0)), (52, 7, (0, -1, -1, 0, 0, 0))]), (some (0, -3, -3, 0, 0, 0), [], [(0, 14, (0, 1, 10, 0, 0, 0)), (5, 1, (0, 10, 10, 0, 0, 0)), (7, 10, (0, 1, 10, 0, 0, 0))]), (some (0, -4, -4, 0, 0, 0), [], [(5, 1, (0, 10, 10, 0, 0, 0))]), (some (0, 0, 0, 0, 0, 0), [], [(0, 14, (0, 1, 10, 0, 0, 0)), (5, 1, (0, 1, 1, 0, 0, 0)), (6, 0, (0, -2147483648, 2147483647, 0, 0, 0)), (7, 10, (0, 1, 10, 0, 0, 0))]), (some (0, 1, 1, 0, 0, 0), [], [(0, 14, (0, 1, 10, 0, 0, 0)), (5, 1, (0, 10, 10, 0, 0, 0)), (7, 10, (0, 1, 10, 0, 0, 0)), (52, 5, (0, 1, 300, 0, 0, 0)), (52, 7, (0, 0, 299, 0, 0, 0))])] := ha
  simp only [List.mem_cons, List.not_mem_nil, or_false] at ha
  rcases ha with rfl | rfl | rfl | rfl | rfl
  · obtain ⟨z2, e2, r⟩ := gW_int (show gW _ _ from q) (Nat.le_of_ble_eq_true rfl)
    cases e2
    have := gR0 r
    have w := gR0 (show gR (0, 10, 10, 0, 0, 0) (M' 5 1) from (p _ (List.mem_cons_of_mem _ List.mem_cons_self)).1)
    exact Or.inl ⟨this.1, this.2, w.1, w.2⟩
  · obtain ⟨z2, e2, r⟩ := gW_int (show gW _ _ from q) (Nat.le_of_ble_eq_true rfl)
    cases e2
    have := gR0 r
    have w := gR0 (show gR (0, 10, 10, 0, 0, 0) (M' 5 1) from (p _ (List.mem_cons_of_mem _ List.mem_cons_self)).1)
    exact Or.inr (Or.inl ⟨this.1, this.2, w.1, w.2⟩)
  · obtain ⟨z2, e2, r⟩ := gW_int (show gW _ _ from q) (Nat.le_of_ble_eq_true rfl)
    cases e2
    have := gR0 r
    have w := gR0 (show gR (0, 10, 10, 0, 0, 0) (M' 5 1) from (p _ List.mem_cons_self).1)
    exact Or.inr (Or.inr (Or.inl ⟨this.1, this.2, w.1, w.2⟩))
  · obtain ⟨z2, e2, r⟩ := gW_int (show gW _ _ from q) (Nat.le_of_ble_eq_true rfl)
    cases e2
    have := gR0 r
    have w := gR0 (show gR (0, 1, 1, 0, 0, 0) (M' 5 1) from (p _ (List.mem_cons_of_mem _ List.mem_cons_self)).1)
    exact Or.inr (Or.inr (Or.inr (Or.inl ⟨this.1, this.2, w.1, w.2⟩)))
  · obtain ⟨z2, e2, r⟩ := gW_int (show gW _ _ from q) (Nat.le_of_ble_eq_true rfl)
    cases e2
    have := gR0 r
    have w := gR0 (show gR (0, 10, 10, 0, 0, 0) (M' 5 1) from (p _ (List.mem_cons_of_mem _ List.mem_cons_self)).1)
    exact Or.inr (Or.inr (Or.inr (Or.inr ⟨this.1, this.2, w.1, w.2⟩)))
theorem nu_X_readyJourney_11 {d : Nat} (hd : 7 ≤ d) {M : pM} (hM : gM gAll M) (p0 : 11 ≤ M 5 1 ∧ M 5 1 ≤ 11) : ∃ z M', xF d 61 [.inr 2] M = rI z M' ∧ ((-2 ≤ z ∧ z ≤ -2 ∧ 11 ≤ M' 5 1 ∧ M' 5 1 ≤ 11) ∨ (-3 ≤ z ∧ z ≤ -3 ∧ 11 ≤ M' 5 1 ∧ M' 5 1 ≤ 11) ∨ (-4 ≤ z ∧ z ≤ -4 ∧ 11 ≤ M' 5 1 ∧ M' 5 1 ≤ 11) ∨ (0 ≤ z ∧ z ≤ 0 ∧ 1 ≤ M' 5 1 ∧ M' 5 1 ≤ 1) ∨ (1 ≤ z ∧ z ≤ 1 ∧ 11 ≤ M' 5 1 ∧ M' 5 1 ≤ 11)) := by
  have c0 : cOK gAll (xF d) 61 K_748 := (ct_of (d := d) ct_ok (show K_748 ∈ CT.getD 61 [] from (show CT.getD 61 [] = [K_726, K_728, K_730, K_732, K_734, K_736, K_738, K_740, K_742, K_744, K_746, K_748, K_453] from rfl) ▸ by simp) hd)
  obtain ⟨z, M', e, -, -, alt, ha, q, p⟩ := cOK_I c0 (A := [.inr 2]) (show aF2 gW [aRef 2] [.inr 2] from ⟨gW_o, trivial⟩) hM (show gP0 [(5, 1, (0, 11, 11, 0, 0, 0))] M from fun e he => by
    simp only [List.mem_cons, List.not_mem_nil, or_false] at he
    rcases he with rfl
    · exact gR_i p0.1 p0.2) rfl
  refine ⟨z, M', e, ?_⟩
  have ha : alt ∈ [(some (0, -2, -2, 0, 0, 0), [], [(0, 14, (0, 1, 10, 0, 0, 0)), (5, 1, (0, 11, 11, 0, 0, 0)), (7, 10, (0, 1, 10, 0, 0, 0)), (52, 7, (0, -1, -1, 0, 0, 0))]), (some (0, -3, -3, 0, 0, 0), [], [(0, 14, (0, 1, 10, 0, 0, 0)), (5, 1, (0, 11, 11, 0, 0, 0)), (7, 10, (0, 1, 10, 0, 0, 0))]), (some (0, -4, -4, 0, 0, 0), [], [(5, 1, (0, 11, 11, 0, 0, 0))]), (some (0, 0, 0, 0, 0, 0), [], [(0, 14, (0, 1, 10, 0, 0, 0)), (5, 1, (0, 1, 1, 0, 0, 0)), (6, 0, (0, -2147483648, 2147483647, 0, 0, 0)), (7, 10, (0, 1, 10, 0, 0, 0))]), (some (0, 1, 1, 0, 0, 0), [], [(0, 14, (0, 1, 10, 0, 0, 0)), (5, 1, (0, 11, 11, 0, 0, 0)), (7, 10, (0, 1, 10, 0, 0, 0)), (52, 5, (0, 1, 300, 0, 0, 0)), (52, 7, (0, 0, 299, 0, 0, 0))])] := ha
  simp only [List.mem_cons, List.not_mem_nil, or_false] at ha
  rcases ha with rfl | rfl | rfl | rfl | rfl
  · obtain ⟨z2, e2, r⟩ := gW_int (show gW _ _ from q) (Nat.le_of_ble_eq_true rfl)
    cases e2
    have := gR0 r
    have w := gR0 (show gR (0, 11, 11, 0, 0, 0) (M' 5 1) from (p _ (List.mem_cons_of_mem _ List.mem_cons_self)).1)
    exact Or.inl ⟨this.1, this.2, w.1, w.2⟩
  · obtain ⟨z2, e2, r⟩ := gW_int (show gW _ _ from q) (Nat.le_of_ble_eq_true rfl)
    cases e2
    have := gR0 r
    have w := gR0 (show gR (0, 11, 11, 0, 0, 0) (M' 5 1) from (p _ (List.mem_cons_of_mem _ List.mem_cons_self)).1)
    exact Or.inr (Or.inl ⟨this.1, this.2, w.1, w.2⟩)
  · obtain ⟨z2, e2, r⟩ := gW_int (show gW _ _ from q) (Nat.le_of_ble_eq_true rfl)
    cases e2
    have := gR0 r
    have w := gR0 (show gR (0, 11, 11, 0, 0, 0) (M' 5 1) from (p _ List.mem_cons_self).1)
    exact Or.inr (Or.inr (Or.inl ⟨this.1, this.2, w.1, w.2⟩))
  · obtain ⟨z2, e2, r⟩ := gW_int (show gW _ _ from q) (Nat.le_of_ble_eq_true rfl)
    cases e2
    have := gR0 r
    have w := gR0 (show gR (0, 1, 1, 0, 0, 0) (M' 5 1) from (p _ (List.mem_cons_of_mem _ List.mem_cons_self)).1)
    exact Or.inr (Or.inr (Or.inr (Or.inl ⟨this.1, this.2, w.1, w.2⟩)))
  · obtain ⟨z2, e2, r⟩ := gW_int (show gW _ _ from q) (Nat.le_of_ble_eq_true rfl)
    cases e2
    have := gR0 r
    have w := gR0 (show gR (0, 11, 11, 0, 0, 0) (M' 5 1) from (p _ (List.mem_cons_of_mem _ List.mem_cons_self)).1)
    exact Or.inr (Or.inr (Or.inr (Or.inr ⟨this.1, this.2, w.1, w.2⟩)))
theorem nu_X_readyJourney {d : Nat} (hd : 7 ≤ d) {M M' : pM} {v : Int} (hM : gM gAll M) {n : Nat} (hn : n ≤ 11) (hc : M 5 1 = (n : Int)) (e : xF d 61 [.inr 2] M = rI v M') : (-2 ≤ v ∧ v ≤ -2 ∧ M' 5 1 = (n : Int)) ∨ (-3 ≤ v ∧ v ≤ -3 ∧ M' 5 1 = (n : Int)) ∨ (-4 ≤ v ∧ v ≤ -4 ∧ M' 5 1 = (n : Int)) ∨ (0 ≤ v ∧ v ≤ 0 ∧ M' 5 1 = 1) ∨ (1 ≤ v ∧ v ≤ 1 ∧ M' 5 1 = (n : Int)) := by
  rcases (show n = 0 ∨ n = 1 ∨ n = 2 ∨ n = 3 ∨ n = 4 ∨ n = 5 ∨ n = 6 ∨ n = 7 ∨ n = 8 ∨ n = 9 ∨ n = 10 ∨ n = 11 by omega) with rfl | rfl | rfl | rfl | rfl | rfl | rfl | rfl | rfl | rfl | rfl | rfl
  · obtain ⟨z, M2, e2, r⟩ := nu_X_readyJourney_0 (d := d) (by omega) hM (by omega)
    obtain ⟨y1, y2⟩ := rI_inj (e.symm.trans e2)
    rw [y1, y2]
    rcases r with r | r | r | r | r
    · exact Or.inl (by omega)
    · exact Or.inr (Or.inl (by omega))
    · exact Or.inr (Or.inr (Or.inl (by omega)))
    · exact Or.inr (Or.inr (Or.inr (Or.inl (by omega))))
    · exact Or.inr (Or.inr (Or.inr (Or.inr ((by omega)))))
  · obtain ⟨z, M2, e2, r⟩ := nu_X_readyJourney_1 (d := d) (by omega) hM (by omega)
    obtain ⟨y1, y2⟩ := rI_inj (e.symm.trans e2)
    rw [y1, y2]
    rcases r with r | r | r | r | r
    · exact Or.inl (by omega)
    · exact Or.inr (Or.inl (by omega))
    · exact Or.inr (Or.inr (Or.inl (by omega)))
    · exact Or.inr (Or.inr (Or.inr (Or.inl (by omega))))
    · exact Or.inr (Or.inr (Or.inr (Or.inr ((by omega)))))
  · obtain ⟨z, M2, e2, r⟩ := nu_X_readyJourney_2 (d := d) (by omega) hM (by omega)
    obtain ⟨y1, y2⟩ := rI_inj (e.symm.trans e2)
    rw [y1, y2]
    rcases r with r | r | r | r | r
    · exact Or.inl (by omega)
    · exact Or.inr (Or.inl (by omega))
    · exact Or.inr (Or.inr (Or.inl (by omega)))
    · exact Or.inr (Or.inr (Or.inr (Or.inl (by omega))))
    · exact Or.inr (Or.inr (Or.inr (Or.inr ((by omega)))))
  · obtain ⟨z, M2, e2, r⟩ := nu_X_readyJourney_3 (d := d) (by omega) hM (by omega)
    obtain ⟨y1, y2⟩ := rI_inj (e.symm.trans e2)
    rw [y1, y2]
    rcases r with r | r | r | r | r
    · exact Or.inl (by omega)
    · exact Or.inr (Or.inl (by omega))
    · exact Or.inr (Or.inr (Or.inl (by omega)))
    · exact Or.inr (Or.inr (Or.inr (Or.inl (by omega))))
    · exact Or.inr (Or.inr (Or.inr (Or.inr ((by omega)))))
  · obtain ⟨z, M2, e2, r⟩ := nu_X_readyJourney_4 (d := d) (by omega) hM (by omega)
    obtain ⟨y1, y2⟩ := rI_inj (e.symm.trans e2)
    rw [y1, y2]
    rcases r with r | r | r | r | r
    · exact Or.inl (by omega)
    · exact Or.inr (Or.inl (by omega))
    · exact Or.inr (Or.inr (Or.inl (by omega)))
    · exact Or.inr (Or.inr (Or.inr (Or.inl (by omega))))
    · exact Or.inr (Or.inr (Or.inr (Or.inr ((by omega)))))
  · obtain ⟨z, M2, e2, r⟩ := nu_X_readyJourney_5 (d := d) (by omega) hM (by omega)
    obtain ⟨y1, y2⟩ := rI_inj (e.symm.trans e2)
    rw [y1, y2]
    rcases r with r | r | r | r | r
    · exact Or.inl (by omega)
    · exact Or.inr (Or.inl (by omega))
    · exact Or.inr (Or.inr (Or.inl (by omega)))
    · exact Or.inr (Or.inr (Or.inr (Or.inl (by omega))))
    · exact Or.inr (Or.inr (Or.inr (Or.inr ((by omega)))))
  · obtain ⟨z, M2, e2, r⟩ := nu_X_readyJourney_6 (d := d) (by omega) hM (by omega)
    obtain ⟨y1, y2⟩ := rI_inj (e.symm.trans e2)
    rw [y1, y2]
    rcases r with r | r | r | r | r
    · exact Or.inl (by omega)
    · exact Or.inr (Or.inl (by omega))
    · exact Or.inr (Or.inr (Or.inl (by omega)))
    · exact Or.inr (Or.inr (Or.inr (Or.inl (by omega))))
    · exact Or.inr (Or.inr (Or.inr (Or.inr ((by omega)))))
  · obtain ⟨z, M2, e2, r⟩ := nu_X_readyJourney_7 (d := d) (by omega) hM (by omega)
    obtain ⟨y1, y2⟩ := rI_inj (e.symm.trans e2)
    rw [y1, y2]
    rcases r with r | r | r | r | r
    · exact Or.inl (by omega)
    · exact Or.inr (Or.inl (by omega))
    · exact Or.inr (Or.inr (Or.inl (by omega)))
    · exact Or.inr (Or.inr (Or.inr (Or.inl (by omega))))
    · exact Or.inr (Or.inr (Or.inr (Or.inr ((by omega)))))
  · obtain ⟨z, M2, e2, r⟩ := nu_X_readyJourney_8 (d := d) (by omega) hM (by omega)
    obtain ⟨y1, y2⟩ := rI_inj (e.symm.trans e2)
    rw [y1, y2]
    rcases r with r | r | r | r | r
    · exact Or.inl (by omega)
    · exact Or.inr (Or.inl (by omega))
    · exact Or.inr (Or.inr (Or.inl (by omega)))
    · exact Or.inr (Or.inr (Or.inr (Or.inl (by omega))))
    · exact Or.inr (Or.inr (Or.inr (Or.inr ((by omega)))))
  · obtain ⟨z, M2, e2, r⟩ := nu_X_readyJourney_9 (d := d) (by omega) hM (by omega)
    obtain ⟨y1, y2⟩ := rI_inj (e.symm.trans e2)
    rw [y1, y2]
    rcases r with r | r | r | r | r
    · exact Or.inl (by omega)
    · exact Or.inr (Or.inl (by omega))
    · exact Or.inr (Or.inr (Or.inl (by omega)))
    · exact Or.inr (Or.inr (Or.inr (Or.inl (by omega))))
    · exact Or.inr (Or.inr (Or.inr (Or.inr ((by omega)))))
  · obtain ⟨z, M2, e2, r⟩ := nu_X_readyJourney_10 (d := d) (by omega) hM (by omega)
    obtain ⟨y1, y2⟩ := rI_inj (e.symm.trans e2)
    rw [y1, y2]
    rcases r with r | r | r | r | r
    · exact Or.inl (by omega)
    · exact Or.inr (Or.inl (by omega))
    · exact Or.inr (Or.inr (Or.inl (by omega)))
    · exact Or.inr (Or.inr (Or.inr (Or.inl (by omega))))
    · exact Or.inr (Or.inr (Or.inr (Or.inr ((by omega)))))
  · obtain ⟨z, M2, e2, r⟩ := nu_X_readyJourney_11 (d := d) (by omega) hM (by omega)
    obtain ⟨y1, y2⟩ := rI_inj (e.symm.trans e2)
    rw [y1, y2]
    rcases r with r | r | r | r | r
    · exact Or.inl (by omega)
    · exact Or.inr (Or.inl (by omega))
    · exact Or.inr (Or.inr (Or.inl (by omega)))
    · exact Or.inr (Or.inr (Or.inr (Or.inl (by omega))))
    · exact Or.inr (Or.inr (Or.inr (Or.inr ((by omega)))))
theorem nt_X_best_0 {d : Nat} (hd : 5 ≤ d) {M : pM} (hM : gM gAll M) (p0 : 0 ≤ M 7 10 ∧ M 7 10 ≤ 0) : ∃ z M', xF d 23 [.inr 2] M = rI z M' ∧ ((-2 ≤ z ∧ z ≤ -2) ∨ (-3 ≤ z ∧ z ≤ -3) ∨ (1 ≤ z ∧ z ≤ 1 ∧ 1 ≤ M' 5 1 ∧ M' 5 1 ≤ 1)) := by
  have c0 : cOK gAll (xF d) 23 K_751 := (ct_of (d := d) ct_ok (show K_751 ∈ CT.getD 23 [] from (show CT.getD 23 [] = [K_751, K_690, K_691, K_692, K_693, K_694, K_695, K_696, K_697, K_698, K_699, K_700, K_701, K_753, K_755, K_757, K_759, K_761, K_763, K_765, K_767, K_769, K_771, K_389] from rfl) ▸ by simp) hd)
  obtain ⟨z, M', e, -, -, alt, ha, q, p⟩ := cOK_I c0 (A := [.inr 2]) (show aF2 gW [aRef 2] [.inr 2] from ⟨gW_o, trivial⟩) hM (show gP0 [(7, 10, (0, 0, 0, 0, 0, 0))] M from fun e he => by
    simp only [List.mem_cons, List.not_mem_nil, or_false] at he
    rcases he with rfl
    · exact gR_i p0.1 p0.2) rfl
  refine ⟨z, M', e, ?_⟩
  have ha : alt ∈ [(some (0, -2, -2, 0, 0, 0), [], [(7, 10, (0, 0, 0, 0, 0, 0))]), (some (0, -3, -3, 0, 0, 0), [], [(7, 10, (0, 0, 0, 0, 0, 0))]), (some (0, 1, 1, 0, 0, 0), [], [(5, 1, (0, 1, 1, 0, 0, 0)), (7, 10, (0, 0, 0, 0, 0, 0))])] := ha
  simp only [List.mem_cons, List.not_mem_nil, or_false] at ha
  rcases ha with rfl | rfl | rfl
  · obtain ⟨z2, e2, r⟩ := gW_int (show gW _ _ from q) (Nat.le_of_ble_eq_true rfl)
    cases e2
    have := gR0 r
    exact Or.inl ⟨this.1, this.2⟩
  · obtain ⟨z2, e2, r⟩ := gW_int (show gW _ _ from q) (Nat.le_of_ble_eq_true rfl)
    cases e2
    have := gR0 r
    exact Or.inr (Or.inl ⟨this.1, this.2⟩)
  · obtain ⟨z2, e2, r⟩ := gW_int (show gW _ _ from q) (Nat.le_of_ble_eq_true rfl)
    cases e2
    have := gR0 r
    have w := gR0 (show gR (0, 1, 1, 0, 0, 0) (M' 5 1) from (p _ List.mem_cons_self).1)
    exact Or.inr (Or.inr ⟨this.1, this.2, w.1, w.2⟩)
theorem nt_X_best_1 {d : Nat} (hd : 32 ≤ d) {M : pM} (hM : gM gAll M) (p0 : 1 ≤ M 7 10 ∧ M 7 10 ≤ 1) : ∃ z M', xF d 23 [.inr 2] M = rI z M' ∧ ((-2 ≤ z ∧ z ≤ -2) ∨ (-3 ≤ z ∧ z ≤ -3) ∨ (1 ≤ z ∧ z ≤ 1 ∧ 2 ≤ M' 5 1 ∧ M' 5 1 ≤ 2)) := by
  have c0 : cOK gAll (xF d) 23 K_753 := (ct_of (d := d) ct_ok (show K_753 ∈ CT.getD 23 [] from (show CT.getD 23 [] = [K_751, K_690, K_691, K_692, K_693, K_694, K_695, K_696, K_697, K_698, K_699, K_700, K_701, K_753, K_755, K_757, K_759, K_761, K_763, K_765, K_767, K_769, K_771, K_389] from rfl) ▸ by simp) hd)
  obtain ⟨z, M', e, -, -, alt, ha, q, p⟩ := cOK_I c0 (A := [.inr 2]) (show aF2 gW [aRef 2] [.inr 2] from ⟨gW_o, trivial⟩) hM (show gP0 [(7, 10, (0, 1, 1, 0, 0, 0))] M from fun e he => by
    simp only [List.mem_cons, List.not_mem_nil, or_false] at he
    rcases he with rfl
    · exact gR_i p0.1 p0.2) rfl
  refine ⟨z, M', e, ?_⟩
  have ha : alt ∈ [(some (0, -2, -2, 0, 0, 0), [], [(7, 10, (0, 1, 1, 0, 0, 0))]), (some (0, -3, -3, 0, 0, 0), [], [(7, 10, (0, 1, 1, 0, 0, 0))]), (some (0, 1, 1, 0, 0, 0), [], [(5, 1, (0, 2, 2, 0, 0, 0)), (6, 1, (0, -2147483648, 2147483647, 0, 0, 0)), (7, 10, (0, 1, 1, 0, 0, 0))])] := ha
  simp only [List.mem_cons, List.not_mem_nil, or_false] at ha
  rcases ha with rfl | rfl | rfl
  · obtain ⟨z2, e2, r⟩ := gW_int (show gW _ _ from q) (Nat.le_of_ble_eq_true rfl)
    cases e2
    have := gR0 r
    exact Or.inl ⟨this.1, this.2⟩
  · obtain ⟨z2, e2, r⟩ := gW_int (show gW _ _ from q) (Nat.le_of_ble_eq_true rfl)
    cases e2
    have := gR0 r
    exact Or.inr (Or.inl ⟨this.1, this.2⟩)
  · obtain ⟨z2, e2, r⟩ := gW_int (show gW _ _ from q) (Nat.le_of_ble_eq_true rfl)
    cases e2
    have := gR0 r
    have w := gR0 (show gR (0, 2, 2, 0, 0, 0) (M' 5 1) from (p _ List.mem_cons_self).1)
    exact Or.inr (Or.inr ⟨this.1, this.2, w.1, w.2⟩)
theorem nt_X_best_2 {d : Nat} (hd : 32 ≤ d) {M : pM} (hM : gM gAll M) (p0 : 2 ≤ M 7 10 ∧ M 7 10 ≤ 2) : ∃ z M', xF d 23 [.inr 2] M = rI z M' ∧ ((-2 ≤ z ∧ z ≤ -2) ∨ (-3 ≤ z ∧ z ≤ -3) ∨ (1 ≤ z ∧ z ≤ 1 ∧ 3 ≤ M' 5 1 ∧ M' 5 1 ≤ 3)) := by
  have c0 : cOK gAll (xF d) 23 K_755 := (ct_of (d := d) ct_ok (show K_755 ∈ CT.getD 23 [] from (show CT.getD 23 [] = [K_751, K_690, K_691, K_692, K_693, K_694, K_695, K_696, K_697, K_698, K_699, K_700, K_701, K_753, K_755, K_757, K_759, K_761, K_763, K_765, K_767, K_769, K_771, K_389] from rfl) ▸ by simp) hd)
  obtain ⟨z, M', e, -, -, alt, ha, q, p⟩ := cOK_I c0 (A := [.inr 2]) (show aF2 gW [aRef 2] [.inr 2] from ⟨gW_o, trivial⟩) hM (show gP0 [(7, 10, (0, 2, 2, 0, 0, 0))] M from fun e he => by
    simp only [List.mem_cons, List.not_mem_nil, or_false] at he
    rcases he with rfl
    · exact gR_i p0.1 p0.2) rfl
  refine ⟨z, M', e, ?_⟩
  have ha : alt ∈ [(some (0, -2, -2, 0, 0, 0), [], [(7, 10, (0, 2, 2, 0, 0, 0))]), (some (0, -3, -3, 0, 0, 0), [], [(7, 10, (0, 2, 2, 0, 0, 0))]), (some (0, 1, 1, 0, 0, 0), [], [(5, 1, (0, 3, 3, 0, 0, 0)), (6, 2, (0, -2147483648, 2147483647, 0, 0, 0)), (7, 10, (0, 2, 2, 0, 0, 0))])] := ha
  simp only [List.mem_cons, List.not_mem_nil, or_false] at ha
  rcases ha with rfl | rfl | rfl
  · obtain ⟨z2, e2, r⟩ := gW_int (show gW _ _ from q) (Nat.le_of_ble_eq_true rfl)
    cases e2
    have := gR0 r
    exact Or.inl ⟨this.1, this.2⟩
  · obtain ⟨z2, e2, r⟩ := gW_int (show gW _ _ from q) (Nat.le_of_ble_eq_true rfl)
    cases e2
    have := gR0 r
    exact Or.inr (Or.inl ⟨this.1, this.2⟩)
  · obtain ⟨z2, e2, r⟩ := gW_int (show gW _ _ from q) (Nat.le_of_ble_eq_true rfl)
    cases e2
    have := gR0 r
    have w := gR0 (show gR (0, 3, 3, 0, 0, 0) (M' 5 1) from (p _ List.mem_cons_self).1)
    exact Or.inr (Or.inr ⟨this.1, this.2, w.1, w.2⟩)
theorem nt_X_best_3 {d : Nat} (hd : 32 ≤ d) {M : pM} (hM : gM gAll M) (p0 : 3 ≤ M 7 10 ∧ M 7 10 ≤ 3) : ∃ z M', xF d 23 [.inr 2] M = rI z M' ∧ ((-2 ≤ z ∧ z ≤ -2) ∨ (-3 ≤ z ∧ z ≤ -3) ∨ (1 ≤ z ∧ z ≤ 1 ∧ 4 ≤ M' 5 1 ∧ M' 5 1 ≤ 4)) := by
  have c0 : cOK gAll (xF d) 23 K_757 := (ct_of (d := d) ct_ok (show K_757 ∈ CT.getD 23 [] from (show CT.getD 23 [] = [K_751, K_690, K_691, K_692, K_693, K_694, K_695, K_696, K_697, K_698, K_699, K_700, K_701, K_753, K_755, K_757, K_759, K_761, K_763, K_765, K_767, K_769, K_771, K_389] from rfl) ▸ by simp) hd)
  obtain ⟨z, M', e, -, -, alt, ha, q, p⟩ := cOK_I c0 (A := [.inr 2]) (show aF2 gW [aRef 2] [.inr 2] from ⟨gW_o, trivial⟩) hM (show gP0 [(7, 10, (0, 3, 3, 0, 0, 0))] M from fun e he => by
    simp only [List.mem_cons, List.not_mem_nil, or_false] at he
    rcases he with rfl
    · exact gR_i p0.1 p0.2) rfl
  refine ⟨z, M', e, ?_⟩
  have ha : alt ∈ [(some (0, -2, -2, 0, 0, 0), [], [(7, 10, (0, 3, 3, 0, 0, 0))]), (some (0, -3, -3, 0, 0, 0), [], [(7, 10, (0, 3, 3, 0, 0, 0))]), (some (0, 1, 1, 0, 0, 0), [], [(5, 1, (0, 4, 4, 0, 0, 0)), (6, 3, (0, -2147483648, 2147483647, 0, 0, 0)), (7, 10, (0, 3, 3, 0, 0, 0))])] := ha
  simp only [List.mem_cons, List.not_mem_nil, or_false] at ha
  rcases ha with rfl | rfl | rfl
  · obtain ⟨z2, e2, r⟩ := gW_int (show gW _ _ from q) (Nat.le_of_ble_eq_true rfl)
    cases e2
    have := gR0 r
    exact Or.inl ⟨this.1, this.2⟩
  · obtain ⟨z2, e2, r⟩ := gW_int (show gW _ _ from q) (Nat.le_of_ble_eq_true rfl)
    cases e2
    have := gR0 r
    exact Or.inr (Or.inl ⟨this.1, this.2⟩)
  · obtain ⟨z2, e2, r⟩ := gW_int (show gW _ _ from q) (Nat.le_of_ble_eq_true rfl)
    cases e2
    have := gR0 r
    have w := gR0 (show gR (0, 4, 4, 0, 0, 0) (M' 5 1) from (p _ List.mem_cons_self).1)
    exact Or.inr (Or.inr ⟨this.1, this.2, w.1, w.2⟩)
theorem nt_X_best_4 {d : Nat} (hd : 32 ≤ d) {M : pM} (hM : gM gAll M) (p0 : 4 ≤ M 7 10 ∧ M 7 10 ≤ 4) : ∃ z M', xF d 23 [.inr 2] M = rI z M' ∧ ((-2 ≤ z ∧ z ≤ -2) ∨ (-3 ≤ z ∧ z ≤ -3) ∨ (1 ≤ z ∧ z ≤ 1 ∧ 5 ≤ M' 5 1 ∧ M' 5 1 ≤ 5)) := by
  have c0 : cOK gAll (xF d) 23 K_759 := (ct_of (d := d) ct_ok (show K_759 ∈ CT.getD 23 [] from (show CT.getD 23 [] = [K_751, K_690, K_691, K_692, K_693, K_694, K_695, K_696, K_697, K_698, K_699, K_700, K_701, K_753, K_755, K_757, K_759, K_761, K_763, K_765, K_767, K_769, K_771, K_389] from rfl) ▸ by simp) hd)
  obtain ⟨z, M', e, -, -, alt, ha, q, p⟩ := cOK_I c0 (A := [.inr 2]) (show aF2 gW [aRef 2] [.inr 2] from ⟨gW_o, trivial⟩) hM (show gP0 [(7, 10, (0, 4, 4, 0, 0, 0))] M from fun e he => by
    simp only [List.mem_cons, List.not_mem_nil, or_false] at he
    rcases he with rfl
    · exact gR_i p0.1 p0.2) rfl
  refine ⟨z, M', e, ?_⟩
  have ha : alt ∈ [(some (0, -2, -2, 0, 0, 0), [], [(7, 10, (0, 4, 4, 0, 0, 0))]), (some (0, -3, -3, 0, 0, 0), [], [(7, 10, (0, 4, 4, 0, 0, 0))]), (some (0, 1, 1, 0, 0, 0), [], [(5, 1, (0, 5, 5, 0, 0, 0)), (6, 4, (0, -2147483648, 2147483647, 0, 0, 0)), (7, 10, (0, 4, 4, 0, 0, 0))])] := ha
  simp only [List.mem_cons, List.not_mem_nil, or_false] at ha
  rcases ha with rfl | rfl | rfl
  · obtain ⟨z2, e2, r⟩ := gW_int (show gW _ _ from q) (Nat.le_of_ble_eq_true rfl)
    cases e2
    have := gR0 r
    exact Or.inl ⟨this.1, this.2⟩
  · obtain ⟨z2, e2, r⟩ := gW_int (show gW _ _ from q) (Nat.le_of_ble_eq_true rfl)
    cases e2
    have := gR0 r
    exact Or.inr (Or.inl ⟨this.1, this.2⟩)
  · obtain ⟨z2, e2, r⟩ := gW_int (show gW _ _ from q) (Nat.le_of_ble_eq_true rfl)
    cases e2
    have := gR0 r
    have w := gR0 (show gR (0, 5, 5, 0, 0, 0) (M' 5 1) from (p _ List.mem_cons_self).1)
    exact Or.inr (Or.inr ⟨this.1, this.2, w.1, w.2⟩)
theorem nt_X_best_5 {d : Nat} (hd : 32 ≤ d) {M : pM} (hM : gM gAll M) (p0 : 5 ≤ M 7 10 ∧ M 7 10 ≤ 5) : ∃ z M', xF d 23 [.inr 2] M = rI z M' ∧ ((-2 ≤ z ∧ z ≤ -2) ∨ (-3 ≤ z ∧ z ≤ -3) ∨ (1 ≤ z ∧ z ≤ 1 ∧ 6 ≤ M' 5 1 ∧ M' 5 1 ≤ 6)) := by
  have c0 : cOK gAll (xF d) 23 K_761 := (ct_of (d := d) ct_ok (show K_761 ∈ CT.getD 23 [] from (show CT.getD 23 [] = [K_751, K_690, K_691, K_692, K_693, K_694, K_695, K_696, K_697, K_698, K_699, K_700, K_701, K_753, K_755, K_757, K_759, K_761, K_763, K_765, K_767, K_769, K_771, K_389] from rfl) ▸ by simp) hd)
  obtain ⟨z, M', e, -, -, alt, ha, q, p⟩ := cOK_I c0 (A := [.inr 2]) (show aF2 gW [aRef 2] [.inr 2] from ⟨gW_o, trivial⟩) hM (show gP0 [(7, 10, (0, 5, 5, 0, 0, 0))] M from fun e he => by
    simp only [List.mem_cons, List.not_mem_nil, or_false] at he
    rcases he with rfl
    · exact gR_i p0.1 p0.2) rfl
  refine ⟨z, M', e, ?_⟩
  have ha : alt ∈ [(some (0, -2, -2, 0, 0, 0), [], [(7, 10, (0, 5, 5, 0, 0, 0))]), (some (0, -3, -3, 0, 0, 0), [], [(7, 10, (0, 5, 5, 0, 0, 0))]), (some (0, 1, 1, 0, 0, 0), [], [(5, 1, (0, 6, 6, 0, 0, 0)), (6, 5, (0, -2147483648, 2147483647, 0, 0, 0)), (7, 10, (0, 5, 5, 0, 0, 0))])] := ha
  simp only [List.mem_cons, List.not_mem_nil, or_false] at ha
  rcases ha with rfl | rfl | rfl
  · obtain ⟨z2, e2, r⟩ := gW_int (show gW _ _ from q) (Nat.le_of_ble_eq_true rfl)
    cases e2
    have := gR0 r
    exact Or.inl ⟨this.1, this.2⟩
  · obtain ⟨z2, e2, r⟩ := gW_int (show gW _ _ from q) (Nat.le_of_ble_eq_true rfl)
    cases e2
    have := gR0 r
    exact Or.inr (Or.inl ⟨this.1, this.2⟩)
  · obtain ⟨z2, e2, r⟩ := gW_int (show gW _ _ from q) (Nat.le_of_ble_eq_true rfl)
    cases e2
    have := gR0 r
    have w := gR0 (show gR (0, 6, 6, 0, 0, 0) (M' 5 1) from (p _ List.mem_cons_self).1)
    exact Or.inr (Or.inr ⟨this.1, this.2, w.1, w.2⟩)
theorem nt_X_best_6 {d : Nat} (hd : 32 ≤ d) {M : pM} (hM : gM gAll M) (p0 : 6 ≤ M 7 10 ∧ M 7 10 ≤ 6) : ∃ z M', xF d 23 [.inr 2] M = rI z M' ∧ ((-2 ≤ z ∧ z ≤ -2) ∨ (-3 ≤ z ∧ z ≤ -3) ∨ (1 ≤ z ∧ z ≤ 1 ∧ 7 ≤ M' 5 1 ∧ M' 5 1 ≤ 7)) := by
  have c0 : cOK gAll (xF d) 23 K_763 := (ct_of (d := d) ct_ok (show K_763 ∈ CT.getD 23 [] from (show CT.getD 23 [] = [K_751, K_690, K_691, K_692, K_693, K_694, K_695, K_696, K_697, K_698, K_699, K_700, K_701, K_753, K_755, K_757, K_759, K_761, K_763, K_765, K_767, K_769, K_771, K_389] from rfl) ▸ by simp) hd)
  obtain ⟨z, M', e, -, -, alt, ha, q, p⟩ := cOK_I c0 (A := [.inr 2]) (show aF2 gW [aRef 2] [.inr 2] from ⟨gW_o, trivial⟩) hM (show gP0 [(7, 10, (0, 6, 6, 0, 0, 0))] M from fun e he => by
    simp only [List.mem_cons, List.not_mem_nil, or_false] at he
    rcases he with rfl
    · exact gR_i p0.1 p0.2) rfl
  refine ⟨z, M', e, ?_⟩
  have ha : alt ∈ [(some (0, -2, -2, 0, 0, 0), [], [(7, 10, (0, 6, 6, 0, 0, 0))]), (some (0, -3, -3, 0, 0, 0), [], [(7, 10, (0, 6, 6, 0, 0, 0))]), (some (0, 1, 1, 0, 0, 0), [], [(5, 1, (0, 7, 7, 0, 0, 0)), (6, 6, (0, -2147483648, 2147483647, 0, 0, 0)), (7, 10, (0, 6, 6, 0, 0, 0))])] := ha
  simp only [List.mem_cons, List.not_mem_nil, or_false] at ha
  rcases ha with rfl | rfl | rfl
  · obtain ⟨z2, e2, r⟩ := gW_int (show gW _ _ from q) (Nat.le_of_ble_eq_true rfl)
    cases e2
    have := gR0 r
    exact Or.inl ⟨this.1, this.2⟩
  · obtain ⟨z2, e2, r⟩ := gW_int (show gW _ _ from q) (Nat.le_of_ble_eq_true rfl)
    cases e2
    have := gR0 r
    exact Or.inr (Or.inl ⟨this.1, this.2⟩)
  · obtain ⟨z2, e2, r⟩ := gW_int (show gW _ _ from q) (Nat.le_of_ble_eq_true rfl)
    cases e2
    have := gR0 r
    have w := gR0 (show gR (0, 7, 7, 0, 0, 0) (M' 5 1) from (p _ List.mem_cons_self).1)
    exact Or.inr (Or.inr ⟨this.1, this.2, w.1, w.2⟩)
theorem nt_X_best_7 {d : Nat} (hd : 32 ≤ d) {M : pM} (hM : gM gAll M) (p0 : 7 ≤ M 7 10 ∧ M 7 10 ≤ 7) : ∃ z M', xF d 23 [.inr 2] M = rI z M' ∧ ((-2 ≤ z ∧ z ≤ -2) ∨ (-3 ≤ z ∧ z ≤ -3) ∨ (1 ≤ z ∧ z ≤ 1 ∧ 8 ≤ M' 5 1 ∧ M' 5 1 ≤ 8)) := by
  have c0 : cOK gAll (xF d) 23 K_765 := (ct_of (d := d) ct_ok (show K_765 ∈ CT.getD 23 [] from (show CT.getD 23 [] = [K_751, K_690, K_691, K_692, K_693, K_694, K_695, K_696, K_697, K_698, K_699, K_700, K_701, K_753, K_755, K_757, K_759, K_761, K_763, K_765, K_767, K_769, K_771, K_389] from rfl) ▸ by simp) hd)
  obtain ⟨z, M', e, -, -, alt, ha, q, p⟩ := cOK_I c0 (A := [.inr 2]) (show aF2 gW [aRef 2] [.inr 2] from ⟨gW_o, trivial⟩) hM (show gP0 [(7, 10, (0, 7, 7, 0, 0, 0))] M from fun e he => by
    simp only [List.mem_cons, List.not_mem_nil, or_false] at he
    rcases he with rfl
    · exact gR_i p0.1 p0.2) rfl
  refine ⟨z, M', e, ?_⟩
  have ha : alt ∈ [(some (0, -2, -2, 0, 0, 0), [], [(7, 10, (0, 7, 7, 0, 0, 0))]), (some (0, -3, -3, 0, 0, 0), [], [(7, 10, (0, 7, 7, 0, 0, 0))]), (some (0, 1, 1, 0, 0, 0), [], [(5, 1, (0, 8, 8, 0, 0, 0)), (6, 7, (0, -2147483648, 2147483647, 0, 0, 0)), (7, 10, (0, 7, 7, 0, 0, 0))])] := ha
  simp only [List.mem_cons, List.not_mem_nil, or_false] at ha
  rcases ha with rfl | rfl | rfl
  · obtain ⟨z2, e2, r⟩ := gW_int (show gW _ _ from q) (Nat.le_of_ble_eq_true rfl)
    cases e2
    have := gR0 r
    exact Or.inl ⟨this.1, this.2⟩
  · obtain ⟨z2, e2, r⟩ := gW_int (show gW _ _ from q) (Nat.le_of_ble_eq_true rfl)
    cases e2
    have := gR0 r
    exact Or.inr (Or.inl ⟨this.1, this.2⟩)
  · obtain ⟨z2, e2, r⟩ := gW_int (show gW _ _ from q) (Nat.le_of_ble_eq_true rfl)
    cases e2
    have := gR0 r
    have w := gR0 (show gR (0, 8, 8, 0, 0, 0) (M' 5 1) from (p _ List.mem_cons_self).1)
    exact Or.inr (Or.inr ⟨this.1, this.2, w.1, w.2⟩)
theorem nt_X_best_8 {d : Nat} (hd : 32 ≤ d) {M : pM} (hM : gM gAll M) (p0 : 8 ≤ M 7 10 ∧ M 7 10 ≤ 8) : ∃ z M', xF d 23 [.inr 2] M = rI z M' ∧ ((-2 ≤ z ∧ z ≤ -2) ∨ (-3 ≤ z ∧ z ≤ -3) ∨ (1 ≤ z ∧ z ≤ 1 ∧ 9 ≤ M' 5 1 ∧ M' 5 1 ≤ 9)) := by
  have c0 : cOK gAll (xF d) 23 K_767 := (ct_of (d := d) ct_ok (show K_767 ∈ CT.getD 23 [] from (show CT.getD 23 [] = [K_751, K_690, K_691, K_692, K_693, K_694, K_695, K_696, K_697, K_698, K_699, K_700, K_701, K_753, K_755, K_757, K_759, K_761, K_763, K_765, K_767, K_769, K_771, K_389] from rfl) ▸ by simp) hd)
  obtain ⟨z, M', e, -, -, alt, ha, q, p⟩ := cOK_I c0 (A := [.inr 2]) (show aF2 gW [aRef 2] [.inr 2] from ⟨gW_o, trivial⟩) hM (show gP0 [(7, 10, (0, 8, 8, 0, 0, 0))] M from fun e he => by
    simp only [List.mem_cons, List.not_mem_nil, or_false] at he
    rcases he with rfl
    · exact gR_i p0.1 p0.2) rfl
  refine ⟨z, M', e, ?_⟩
  have ha : alt ∈ [(some (0, -2, -2, 0, 0, 0), [], [(7, 10, (0, 8, 8, 0, 0, 0))]), (some (0, -3, -3, 0, 0, 0), [], [(7, 10, (0, 8, 8, 0, 0, 0))]), (some (0, 1, 1, 0, 0, 0), [], [(5, 1, (0, 9, 9, 0, 0, 0)), (6, 8, (0, -2147483648, 2147483647, 0, 0, 0)), (7, 10, (0, 8, 8, 0, 0, 0))])] := ha
  simp only [List.mem_cons, List.not_mem_nil, or_false] at ha
  rcases ha with rfl | rfl | rfl
  · obtain ⟨z2, e2, r⟩ := gW_int (show gW _ _ from q) (Nat.le_of_ble_eq_true rfl)
    cases e2
    have := gR0 r
    exact Or.inl ⟨this.1, this.2⟩
  · obtain ⟨z2, e2, r⟩ := gW_int (show gW _ _ from q) (Nat.le_of_ble_eq_true rfl)
    cases e2
    have := gR0 r
    exact Or.inr (Or.inl ⟨this.1, this.2⟩)
  · obtain ⟨z2, e2, r⟩ := gW_int (show gW _ _ from q) (Nat.le_of_ble_eq_true rfl)
    cases e2
    have := gR0 r
    have w := gR0 (show gR (0, 9, 9, 0, 0, 0) (M' 5 1) from (p _ List.mem_cons_self).1)
    exact Or.inr (Or.inr ⟨this.1, this.2, w.1, w.2⟩)
theorem nt_X_best_9 {d : Nat} (hd : 32 ≤ d) {M : pM} (hM : gM gAll M) (p0 : 9 ≤ M 7 10 ∧ M 7 10 ≤ 9) : ∃ z M', xF d 23 [.inr 2] M = rI z M' ∧ ((-2 ≤ z ∧ z ≤ -2) ∨ (-3 ≤ z ∧ z ≤ -3) ∨ (1 ≤ z ∧ z ≤ 1 ∧ 10 ≤ M' 5 1 ∧ M' 5 1 ≤ 10)) := by
  have c0 : cOK gAll (xF d) 23 K_769 := (ct_of (d := d) ct_ok (show K_769 ∈ CT.getD 23 [] from (show CT.getD 23 [] = [K_751, K_690, K_691, K_692, K_693, K_694, K_695, K_696, K_697, K_698, K_699, K_700, K_701, K_753, K_755, K_757, K_759, K_761, K_763, K_765, K_767, K_769, K_771, K_389] from rfl) ▸ by simp) hd)
  obtain ⟨z, M', e, -, -, alt, ha, q, p⟩ := cOK_I c0 (A := [.inr 2]) (show aF2 gW [aRef 2] [.inr 2] from ⟨gW_o, trivial⟩) hM (show gP0 [(7, 10, (0, 9, 9, 0, 0, 0))] M from fun e he => by
    simp only [List.mem_cons, List.not_mem_nil, or_false] at he
    rcases he with rfl
    · exact gR_i p0.1 p0.2) rfl
  refine ⟨z, M', e, ?_⟩
  have ha : alt ∈ [(some (0, -2, -2, 0, 0, 0), [], [(7, 10, (0, 9, 9, 0, 0, 0))]), (some (0, -3, -3, 0, 0, 0), [], [(7, 10, (0, 9, 9, 0, 0, 0))]), (some (0, 1, 1, 0, 0, 0), [], [(5, 1, (0, 10, 10, 0, 0, 0)), (6, 9, (0, -2147483648, 2147483647, 0, 0, 0)), (7, 10, (0, 9, 9, 0, 0, 0))])] := ha
  simp only [List.mem_cons, List.not_mem_nil, or_false] at ha
  rcases ha with rfl | rfl | rfl
  · obtain ⟨z2, e2, r⟩ := gW_int (show gW _ _ from q) (Nat.le_of_ble_eq_true rfl)
    cases e2
    have := gR0 r
    exact Or.inl ⟨this.1, this.2⟩
  · obtain ⟨z2, e2, r⟩ := gW_int (show gW _ _ from q) (Nat.le_of_ble_eq_true rfl)
    cases e2
    have := gR0 r
    exact Or.inr (Or.inl ⟨this.1, this.2⟩)
  · obtain ⟨z2, e2, r⟩ := gW_int (show gW _ _ from q) (Nat.le_of_ble_eq_true rfl)
    cases e2
    have := gR0 r
    have w := gR0 (show gR (0, 10, 10, 0, 0, 0) (M' 5 1) from (p _ List.mem_cons_self).1)
    exact Or.inr (Or.inr ⟨this.1, this.2, w.1, w.2⟩)
theorem nt_X_best_10 {d : Nat} (hd : 32 ≤ d) {M : pM} (hM : gM gAll M) (p0 : 10 ≤ M 7 10 ∧ M 7 10 ≤ 10) : ∃ z M', xF d 23 [.inr 2] M = rI z M' ∧ ((-2 ≤ z ∧ z ≤ -2) ∨ (-3 ≤ z ∧ z ≤ -3) ∨ (1 ≤ z ∧ z ≤ 1 ∧ 11 ≤ M' 5 1 ∧ M' 5 1 ≤ 11)) := by
  have c0 : cOK gAll (xF d) 23 K_771 := (ct_of (d := d) ct_ok (show K_771 ∈ CT.getD 23 [] from (show CT.getD 23 [] = [K_751, K_690, K_691, K_692, K_693, K_694, K_695, K_696, K_697, K_698, K_699, K_700, K_701, K_753, K_755, K_757, K_759, K_761, K_763, K_765, K_767, K_769, K_771, K_389] from rfl) ▸ by simp) hd)
  obtain ⟨z, M', e, -, -, alt, ha, q, p⟩ := cOK_I c0 (A := [.inr 2]) (show aF2 gW [aRef 2] [.inr 2] from ⟨gW_o, trivial⟩) hM (show gP0 [(7, 10, (0, 10, 10, 0, 0, 0))] M from fun e he => by
    simp only [List.mem_cons, List.not_mem_nil, or_false] at he
    rcases he with rfl
    · exact gR_i p0.1 p0.2) rfl
  refine ⟨z, M', e, ?_⟩
  have ha : alt ∈ [(some (0, -2, -2, 0, 0, 0), [], [(7, 10, (0, 10, 10, 0, 0, 0))]), (some (0, -3, -3, 0, 0, 0), [], [(7, 10, (0, 10, 10, 0, 0, 0))]), (some (0, 1, 1, 0, 0, 0), [], [(5, 1, (0, 11, 11, 0, 0, 0)), (6, 10, (0, -2147483648, 2147483647, 0, 0, 0)), (7, 10, (0, 10, 10, 0, 0, 0))])] := ha
  simp only [List.mem_cons, List.not_mem_nil, or_false] at ha
  rcases ha with rfl | rfl | rfl
  · obtain ⟨z2, e2, r⟩ := gW_int (show gW _ _ from q) (Nat.le_of_ble_eq_true rfl)
    cases e2
    have := gR0 r
    exact Or.inl ⟨this.1, this.2⟩
  · obtain ⟨z2, e2, r⟩ := gW_int (show gW _ _ from q) (Nat.le_of_ble_eq_true rfl)
    cases e2
    have := gR0 r
    exact Or.inr (Or.inl ⟨this.1, this.2⟩)
  · obtain ⟨z2, e2, r⟩ := gW_int (show gW _ _ from q) (Nat.le_of_ble_eq_true rfl)
    cases e2
    have := gR0 r
    have w := gR0 (show gR (0, 11, 11, 0, 0, 0) (M' 5 1) from (p _ List.mem_cons_self).1)
    exact Or.inr (Or.inr ⟨this.1, this.2, w.1, w.2⟩)
theorem nt_X_best {d : Nat} (hd : 32 ≤ d) {M M' : pM} {v : Int} (hM : gM gAll M) {n : Nat} (hn : n ≤ 10) (hc : M 7 10 = (n : Int)) (e : xF d 23 [.inr 2] M = rI v M') : (-2 ≤ v ∧ v ≤ -2) ∨ (-3 ≤ v ∧ v ≤ -3) ∨ (1 ≤ v ∧ v ≤ 1 ∧ M' 5 1 = (n : Int) + 1) := by
  rcases (show n = 0 ∨ n = 1 ∨ n = 2 ∨ n = 3 ∨ n = 4 ∨ n = 5 ∨ n = 6 ∨ n = 7 ∨ n = 8 ∨ n = 9 ∨ n = 10 by omega) with rfl | rfl | rfl | rfl | rfl | rfl | rfl | rfl | rfl | rfl | rfl
  · obtain ⟨z, M2, e2, r⟩ := nt_X_best_0 (d := d) (by omega) hM (by omega)
    obtain ⟨y1, y2⟩ := rI_inj (e.symm.trans e2)
    rw [y1, y2]
    rcases r with r | r | r
    · exact Or.inl (by omega)
    · exact Or.inr (Or.inl (by omega))
    · exact Or.inr (Or.inr ((by omega)))
  · obtain ⟨z, M2, e2, r⟩ := nt_X_best_1 (d := d) (by omega) hM (by omega)
    obtain ⟨y1, y2⟩ := rI_inj (e.symm.trans e2)
    rw [y1, y2]
    rcases r with r | r | r
    · exact Or.inl (by omega)
    · exact Or.inr (Or.inl (by omega))
    · exact Or.inr (Or.inr ((by omega)))
  · obtain ⟨z, M2, e2, r⟩ := nt_X_best_2 (d := d) (by omega) hM (by omega)
    obtain ⟨y1, y2⟩ := rI_inj (e.symm.trans e2)
    rw [y1, y2]
    rcases r with r | r | r
    · exact Or.inl (by omega)
    · exact Or.inr (Or.inl (by omega))
    · exact Or.inr (Or.inr ((by omega)))
  · obtain ⟨z, M2, e2, r⟩ := nt_X_best_3 (d := d) (by omega) hM (by omega)
    obtain ⟨y1, y2⟩ := rI_inj (e.symm.trans e2)
    rw [y1, y2]
    rcases r with r | r | r
    · exact Or.inl (by omega)
    · exact Or.inr (Or.inl (by omega))
    · exact Or.inr (Or.inr ((by omega)))
  · obtain ⟨z, M2, e2, r⟩ := nt_X_best_4 (d := d) (by omega) hM (by omega)
    obtain ⟨y1, y2⟩ := rI_inj (e.symm.trans e2)
    rw [y1, y2]
    rcases r with r | r | r
    · exact Or.inl (by omega)
    · exact Or.inr (Or.inl (by omega))
    · exact Or.inr (Or.inr ((by omega)))
  · obtain ⟨z, M2, e2, r⟩ := nt_X_best_5 (d := d) (by omega) hM (by omega)
    obtain ⟨y1, y2⟩ := rI_inj (e.symm.trans e2)
    rw [y1, y2]
    rcases r with r | r | r
    · exact Or.inl (by omega)
    · exact Or.inr (Or.inl (by omega))
    · exact Or.inr (Or.inr ((by omega)))
  · obtain ⟨z, M2, e2, r⟩ := nt_X_best_6 (d := d) (by omega) hM (by omega)
    obtain ⟨y1, y2⟩ := rI_inj (e.symm.trans e2)
    rw [y1, y2]
    rcases r with r | r | r
    · exact Or.inl (by omega)
    · exact Or.inr (Or.inl (by omega))
    · exact Or.inr (Or.inr ((by omega)))
  · obtain ⟨z, M2, e2, r⟩ := nt_X_best_7 (d := d) (by omega) hM (by omega)
    obtain ⟨y1, y2⟩ := rI_inj (e.symm.trans e2)
    rw [y1, y2]
    rcases r with r | r | r
    · exact Or.inl (by omega)
    · exact Or.inr (Or.inl (by omega))
    · exact Or.inr (Or.inr ((by omega)))
  · obtain ⟨z, M2, e2, r⟩ := nt_X_best_8 (d := d) (by omega) hM (by omega)
    obtain ⟨y1, y2⟩ := rI_inj (e.symm.trans e2)
    rw [y1, y2]
    rcases r with r | r | r
    · exact Or.inl (by omega)
    · exact Or.inr (Or.inl (by omega))
    · exact Or.inr (Or.inr ((by omega)))
  · obtain ⟨z, M2, e2, r⟩ := nt_X_best_9 (d := d) (by omega) hM (by omega)
    obtain ⟨y1, y2⟩ := rI_inj (e.symm.trans e2)
    rw [y1, y2]
    rcases r with r | r | r
    · exact Or.inl (by omega)
    · exact Or.inr (Or.inl (by omega))
    · exact Or.inr (Or.inr ((by omega)))
  · obtain ⟨z, M2, e2, r⟩ := nt_X_best_10 (d := d) (by omega) hM (by omega)
    obtain ⟨y1, y2⟩ := rI_inj (e.symm.trans e2)
    rw [y1, y2]
    rcases r with r | r | r
    · exact Or.inl (by omega)
    · exact Or.inr (Or.inl (by omega))
    · exact Or.inr (Or.inr ((by omega)))
theorem nt_X_near_0 {d : Nat} (hd : 6 ≤ d) {M : pM} (hM : gM gAll M) (p0 : 0 ≤ M 7 10 ∧ M 7 10 ≤ 0) : ∃ z M', xF d 24 [.inr 2] M = rI z M' ∧ ((-2 ≤ z ∧ z ≤ -2) ∨ (-3 ≤ z ∧ z ≤ -3) ∨ (0 ≤ M' 5 1 ∧ M' 5 1 ≤ 0)) := by
  have c0 : cOK gAll (xF d) 24 K_774 := (ct_of (d := d) ct_ok (show K_774 ∈ CT.getD 24 [] from (show CT.getD 24 [] = [K_774, K_777, K_780, K_783, K_786, K_789, K_792, K_795, K_798, K_801, K_804, K_392] from rfl) ▸ by simp) hd)
  obtain ⟨z, M', e, -, -, alt, ha, q, p⟩ := cOK_I c0 (A := [.inr 2]) (show aF2 gW [aRef 2] [.inr 2] from ⟨gW_o, trivial⟩) hM (show gP0 [(7, 10, (0, 0, 0, 0, 0, 0))] M from fun e he => by
    simp only [List.mem_cons, List.not_mem_nil, or_false] at he
    rcases he with rfl
    · exact gR_i p0.1 p0.2) rfl
  refine ⟨z, M', e, ?_⟩
  have ha : alt ∈ [(some (0, -2, -2, 0, 0, 0), [], [(7, 10, (0, 0, 0, 0, 0, 0))]), (some (0, -3, -3, 0, 0, 0), [], [(7, 10, (0, 0, 0, 0, 0, 0))]), (some (1, 0, 0, 0, 0, 0), [], [(5, 1, (0, 0, 0, 0, 0, 0)), (7, 10, (0, 0, 0, 0, 0, 0))])] := ha
  simp only [List.mem_cons, List.not_mem_nil, or_false] at ha
  rcases ha with rfl | rfl | rfl
  · obtain ⟨z2, e2, r⟩ := gW_int (show gW _ _ from q) (Nat.le_of_ble_eq_true rfl)
    cases e2
    have := gR0 r
    exact Or.inl ⟨this.1, this.2⟩
  · obtain ⟨z2, e2, r⟩ := gW_int (show gW _ _ from q) (Nat.le_of_ble_eq_true rfl)
    cases e2
    have := gR0 r
    exact Or.inr (Or.inl ⟨this.1, this.2⟩)
  · have w := gR0 (show gR (0, 0, 0, 0, 0, 0) (M' 5 1) from (p _ List.mem_cons_self).1)
    exact Or.inr (Or.inr ⟨w.1, w.2⟩)
theorem nt_X_near_1 {d : Nat} (hd : 6 ≤ d) {M : pM} (hM : gM gAll M) (p0 : 1 ≤ M 7 10 ∧ M 7 10 ≤ 1) : ∃ z M', xF d 24 [.inr 2] M = rI z M' ∧ ((-2 ≤ z ∧ z ≤ -2) ∨ (-3 ≤ z ∧ z ≤ -3) ∨ (1 ≤ M' 5 1 ∧ M' 5 1 ≤ 1)) := by
  have c0 : cOK gAll (xF d) 24 K_777 := (ct_of (d := d) ct_ok (show K_777 ∈ CT.getD 24 [] from (show CT.getD 24 [] = [K_774, K_777, K_780, K_783, K_786, K_789, K_792, K_795, K_798, K_801, K_804, K_392] from rfl) ▸ by simp) hd)
  obtain ⟨z, M', e, -, -, alt, ha, q, p⟩ := cOK_I c0 (A := [.inr 2]) (show aF2 gW [aRef 2] [.inr 2] from ⟨gW_o, trivial⟩) hM (show gP0 [(7, 10, (0, 1, 1, 0, 0, 0))] M from fun e he => by
    simp only [List.mem_cons, List.not_mem_nil, or_false] at he
    rcases he with rfl
    · exact gR_i p0.1 p0.2) rfl
  refine ⟨z, M', e, ?_⟩
  have ha : alt ∈ [(some (0, -2, -2, 0, 0, 0), [], [(7, 10, (0, 1, 1, 0, 0, 0))]), (some (0, -3, -3, 0, 0, 0), [], [(7, 10, (0, 1, 1, 0, 0, 0))]), (some (1, 0, 0, 0, 0, 0), [], [(5, 1, (0, 1, 1, 0, 0, 0)), (6, 0, (0, -2147483648, 2147483647, 0, 0, 0)), (7, 10, (0, 1, 1, 0, 0, 0))])] := ha
  simp only [List.mem_cons, List.not_mem_nil, or_false] at ha
  rcases ha with rfl | rfl | rfl
  · obtain ⟨z2, e2, r⟩ := gW_int (show gW _ _ from q) (Nat.le_of_ble_eq_true rfl)
    cases e2
    have := gR0 r
    exact Or.inl ⟨this.1, this.2⟩
  · obtain ⟨z2, e2, r⟩ := gW_int (show gW _ _ from q) (Nat.le_of_ble_eq_true rfl)
    cases e2
    have := gR0 r
    exact Or.inr (Or.inl ⟨this.1, this.2⟩)
  · have w := gR0 (show gR (0, 1, 1, 0, 0, 0) (M' 5 1) from (p _ List.mem_cons_self).1)
    exact Or.inr (Or.inr ⟨w.1, w.2⟩)
theorem nt_X_near_2 {d : Nat} (hd : 6 ≤ d) {M : pM} (hM : gM gAll M) (p0 : 2 ≤ M 7 10 ∧ M 7 10 ≤ 2) : ∃ z M', xF d 24 [.inr 2] M = rI z M' ∧ ((-2 ≤ z ∧ z ≤ -2) ∨ (-3 ≤ z ∧ z ≤ -3) ∨ (2 ≤ M' 5 1 ∧ M' 5 1 ≤ 2)) := by
  have c0 : cOK gAll (xF d) 24 K_780 := (ct_of (d := d) ct_ok (show K_780 ∈ CT.getD 24 [] from (show CT.getD 24 [] = [K_774, K_777, K_780, K_783, K_786, K_789, K_792, K_795, K_798, K_801, K_804, K_392] from rfl) ▸ by simp) hd)
  obtain ⟨z, M', e, -, -, alt, ha, q, p⟩ := cOK_I c0 (A := [.inr 2]) (show aF2 gW [aRef 2] [.inr 2] from ⟨gW_o, trivial⟩) hM (show gP0 [(7, 10, (0, 2, 2, 0, 0, 0))] M from fun e he => by
    simp only [List.mem_cons, List.not_mem_nil, or_false] at he
    rcases he with rfl
    · exact gR_i p0.1 p0.2) rfl
  refine ⟨z, M', e, ?_⟩
  have ha : alt ∈ [(some (0, -2, -2, 0, 0, 0), [], [(7, 10, (0, 2, 2, 0, 0, 0))]), (some (0, -3, -3, 0, 0, 0), [], [(7, 10, (0, 2, 2, 0, 0, 0))]), (some (1, 0, 0, 0, 0, 0), [], [(5, 1, (0, 2, 2, 0, 0, 0)), (6, 1, (0, -2147483648, 2147483647, 0, 0, 0)), (7, 10, (0, 2, 2, 0, 0, 0))])] := ha
  simp only [List.mem_cons, List.not_mem_nil, or_false] at ha
  rcases ha with rfl | rfl | rfl
  · obtain ⟨z2, e2, r⟩ := gW_int (show gW _ _ from q) (Nat.le_of_ble_eq_true rfl)
    cases e2
    have := gR0 r
    exact Or.inl ⟨this.1, this.2⟩
  · obtain ⟨z2, e2, r⟩ := gW_int (show gW _ _ from q) (Nat.le_of_ble_eq_true rfl)
    cases e2
    have := gR0 r
    exact Or.inr (Or.inl ⟨this.1, this.2⟩)
  · have w := gR0 (show gR (0, 2, 2, 0, 0, 0) (M' 5 1) from (p _ List.mem_cons_self).1)
    exact Or.inr (Or.inr ⟨w.1, w.2⟩)
theorem nt_X_near_3 {d : Nat} (hd : 6 ≤ d) {M : pM} (hM : gM gAll M) (p0 : 3 ≤ M 7 10 ∧ M 7 10 ≤ 3) : ∃ z M', xF d 24 [.inr 2] M = rI z M' ∧ ((-2 ≤ z ∧ z ≤ -2) ∨ (-3 ≤ z ∧ z ≤ -3) ∨ (3 ≤ M' 5 1 ∧ M' 5 1 ≤ 3)) := by
  have c0 : cOK gAll (xF d) 24 K_783 := (ct_of (d := d) ct_ok (show K_783 ∈ CT.getD 24 [] from (show CT.getD 24 [] = [K_774, K_777, K_780, K_783, K_786, K_789, K_792, K_795, K_798, K_801, K_804, K_392] from rfl) ▸ by simp) hd)
  obtain ⟨z, M', e, -, -, alt, ha, q, p⟩ := cOK_I c0 (A := [.inr 2]) (show aF2 gW [aRef 2] [.inr 2] from ⟨gW_o, trivial⟩) hM (show gP0 [(7, 10, (0, 3, 3, 0, 0, 0))] M from fun e he => by
    simp only [List.mem_cons, List.not_mem_nil, or_false] at he
    rcases he with rfl
    · exact gR_i p0.1 p0.2) rfl
  refine ⟨z, M', e, ?_⟩
  have ha : alt ∈ [(some (0, -2, -2, 0, 0, 0), [], [(7, 10, (0, 3, 3, 0, 0, 0))]), (some (0, -3, -3, 0, 0, 0), [], [(7, 10, (0, 3, 3, 0, 0, 0))]), (some (1, 0, 0, 0, 0, 0), [], [(5, 1, (0, 3, 3, 0, 0, 0)), (6, 2, (0, -2147483648, 2147483647, 0, 0, 0)), (7, 10, (0, 3, 3, 0, 0, 0))])] := ha
  simp only [List.mem_cons, List.not_mem_nil, or_false] at ha
  rcases ha with rfl | rfl | rfl
  · obtain ⟨z2, e2, r⟩ := gW_int (show gW _ _ from q) (Nat.le_of_ble_eq_true rfl)
    cases e2
    have := gR0 r
    exact Or.inl ⟨this.1, this.2⟩
  · obtain ⟨z2, e2, r⟩ := gW_int (show gW _ _ from q) (Nat.le_of_ble_eq_true rfl)
    cases e2
    have := gR0 r
    exact Or.inr (Or.inl ⟨this.1, this.2⟩)
  · have w := gR0 (show gR (0, 3, 3, 0, 0, 0) (M' 5 1) from (p _ List.mem_cons_self).1)
    exact Or.inr (Or.inr ⟨w.1, w.2⟩)
theorem nt_X_near_4 {d : Nat} (hd : 6 ≤ d) {M : pM} (hM : gM gAll M) (p0 : 4 ≤ M 7 10 ∧ M 7 10 ≤ 4) : ∃ z M', xF d 24 [.inr 2] M = rI z M' ∧ ((-2 ≤ z ∧ z ≤ -2) ∨ (-3 ≤ z ∧ z ≤ -3) ∨ (4 ≤ M' 5 1 ∧ M' 5 1 ≤ 4)) := by
  have c0 : cOK gAll (xF d) 24 K_786 := (ct_of (d := d) ct_ok (show K_786 ∈ CT.getD 24 [] from (show CT.getD 24 [] = [K_774, K_777, K_780, K_783, K_786, K_789, K_792, K_795, K_798, K_801, K_804, K_392] from rfl) ▸ by simp) hd)
  obtain ⟨z, M', e, -, -, alt, ha, q, p⟩ := cOK_I c0 (A := [.inr 2]) (show aF2 gW [aRef 2] [.inr 2] from ⟨gW_o, trivial⟩) hM (show gP0 [(7, 10, (0, 4, 4, 0, 0, 0))] M from fun e he => by
    simp only [List.mem_cons, List.not_mem_nil, or_false] at he
    rcases he with rfl
    · exact gR_i p0.1 p0.2) rfl
  refine ⟨z, M', e, ?_⟩
  have ha : alt ∈ [(some (0, -2, -2, 0, 0, 0), [], [(7, 10, (0, 4, 4, 0, 0, 0))]), (some (0, -3, -3, 0, 0, 0), [], [(7, 10, (0, 4, 4, 0, 0, 0))]), (some (1, 0, 0, 0, 0, 0), [], [(5, 1, (0, 4, 4, 0, 0, 0)), (6, 3, (0, -2147483648, 2147483647, 0, 0, 0)), (7, 10, (0, 4, 4, 0, 0, 0))])] := ha
  simp only [List.mem_cons, List.not_mem_nil, or_false] at ha
  rcases ha with rfl | rfl | rfl
  · obtain ⟨z2, e2, r⟩ := gW_int (show gW _ _ from q) (Nat.le_of_ble_eq_true rfl)
    cases e2
    have := gR0 r
    exact Or.inl ⟨this.1, this.2⟩
  · obtain ⟨z2, e2, r⟩ := gW_int (show gW _ _ from q) (Nat.le_of_ble_eq_true rfl)
    cases e2
    have := gR0 r
    exact Or.inr (Or.inl ⟨this.1, this.2⟩)
  · have w := gR0 (show gR (0, 4, 4, 0, 0, 0) (M' 5 1) from (p _ List.mem_cons_self).1)
    exact Or.inr (Or.inr ⟨w.1, w.2⟩)
theorem nt_X_near_5 {d : Nat} (hd : 6 ≤ d) {M : pM} (hM : gM gAll M) (p0 : 5 ≤ M 7 10 ∧ M 7 10 ≤ 5) : ∃ z M', xF d 24 [.inr 2] M = rI z M' ∧ ((-2 ≤ z ∧ z ≤ -2) ∨ (-3 ≤ z ∧ z ≤ -3) ∨ (5 ≤ M' 5 1 ∧ M' 5 1 ≤ 5)) := by
  have c0 : cOK gAll (xF d) 24 K_789 := (ct_of (d := d) ct_ok (show K_789 ∈ CT.getD 24 [] from (show CT.getD 24 [] = [K_774, K_777, K_780, K_783, K_786, K_789, K_792, K_795, K_798, K_801, K_804, K_392] from rfl) ▸ by simp) hd)
  obtain ⟨z, M', e, -, -, alt, ha, q, p⟩ := cOK_I c0 (A := [.inr 2]) (show aF2 gW [aRef 2] [.inr 2] from ⟨gW_o, trivial⟩) hM (show gP0 [(7, 10, (0, 5, 5, 0, 0, 0))] M from fun e he => by
    simp only [List.mem_cons, List.not_mem_nil, or_false] at he
    rcases he with rfl
    · exact gR_i p0.1 p0.2) rfl
  refine ⟨z, M', e, ?_⟩
  have ha : alt ∈ [(some (0, -2, -2, 0, 0, 0), [], [(7, 10, (0, 5, 5, 0, 0, 0))]), (some (0, -3, -3, 0, 0, 0), [], [(7, 10, (0, 5, 5, 0, 0, 0))]), (some (1, 0, 0, 0, 0, 0), [], [(5, 1, (0, 5, 5, 0, 0, 0)), (6, 4, (0, -2147483648, 2147483647, 0, 0, 0)), (7, 10, (0, 5, 5, 0, 0, 0))])] := ha
  simp only [List.mem_cons, List.not_mem_nil, or_false] at ha
  rcases ha with rfl | rfl | rfl
  · obtain ⟨z2, e2, r⟩ := gW_int (show gW _ _ from q) (Nat.le_of_ble_eq_true rfl)
    cases e2
    have := gR0 r
    exact Or.inl ⟨this.1, this.2⟩
  · obtain ⟨z2, e2, r⟩ := gW_int (show gW _ _ from q) (Nat.le_of_ble_eq_true rfl)
    cases e2
    have := gR0 r
    exact Or.inr (Or.inl ⟨this.1, this.2⟩)
  · have w := gR0 (show gR (0, 5, 5, 0, 0, 0) (M' 5 1) from (p _ List.mem_cons_self).1)
    exact Or.inr (Or.inr ⟨w.1, w.2⟩)
theorem nt_X_near_6 {d : Nat} (hd : 6 ≤ d) {M : pM} (hM : gM gAll M) (p0 : 6 ≤ M 7 10 ∧ M 7 10 ≤ 6) : ∃ z M', xF d 24 [.inr 2] M = rI z M' ∧ ((-2 ≤ z ∧ z ≤ -2) ∨ (-3 ≤ z ∧ z ≤ -3) ∨ (6 ≤ M' 5 1 ∧ M' 5 1 ≤ 6)) := by
  have c0 : cOK gAll (xF d) 24 K_792 := (ct_of (d := d) ct_ok (show K_792 ∈ CT.getD 24 [] from (show CT.getD 24 [] = [K_774, K_777, K_780, K_783, K_786, K_789, K_792, K_795, K_798, K_801, K_804, K_392] from rfl) ▸ by simp) hd)
  obtain ⟨z, M', e, -, -, alt, ha, q, p⟩ := cOK_I c0 (A := [.inr 2]) (show aF2 gW [aRef 2] [.inr 2] from ⟨gW_o, trivial⟩) hM (show gP0 [(7, 10, (0, 6, 6, 0, 0, 0))] M from fun e he => by
    simp only [List.mem_cons, List.not_mem_nil, or_false] at he
    rcases he with rfl
    · exact gR_i p0.1 p0.2) rfl
  refine ⟨z, M', e, ?_⟩
  have ha : alt ∈ [(some (0, -2, -2, 0, 0, 0), [], [(7, 10, (0, 6, 6, 0, 0, 0))]), (some (0, -3, -3, 0, 0, 0), [], [(7, 10, (0, 6, 6, 0, 0, 0))]), (some (1, 0, 0, 0, 0, 0), [], [(5, 1, (0, 6, 6, 0, 0, 0)), (6, 5, (0, -2147483648, 2147483647, 0, 0, 0)), (7, 10, (0, 6, 6, 0, 0, 0))])] := ha
  simp only [List.mem_cons, List.not_mem_nil, or_false] at ha
  rcases ha with rfl | rfl | rfl
  · obtain ⟨z2, e2, r⟩ := gW_int (show gW _ _ from q) (Nat.le_of_ble_eq_true rfl)
    cases e2
    have := gR0 r
    exact Or.inl ⟨this.1, this.2⟩
  · obtain ⟨z2, e2, r⟩ := gW_int (show gW _ _ from q) (Nat.le_of_ble_eq_true rfl)
    cases e2
    have := gR0 r
    exact Or.inr (Or.inl ⟨this.1, this.2⟩)
  · have w := gR0 (show gR (0, 6, 6, 0, 0, 0) (M' 5 1) from (p _ List.mem_cons_self).1)
    exact Or.inr (Or.inr ⟨w.1, w.2⟩)
theorem nt_X_near_7 {d : Nat} (hd : 6 ≤ d) {M : pM} (hM : gM gAll M) (p0 : 7 ≤ M 7 10 ∧ M 7 10 ≤ 7) : ∃ z M', xF d 24 [.inr 2] M = rI z M' ∧ ((-2 ≤ z ∧ z ≤ -2) ∨ (-3 ≤ z ∧ z ≤ -3) ∨ (7 ≤ M' 5 1 ∧ M' 5 1 ≤ 7)) := by
  have c0 : cOK gAll (xF d) 24 K_795 := (ct_of (d := d) ct_ok (show K_795 ∈ CT.getD 24 [] from (show CT.getD 24 [] = [K_774, K_777, K_780, K_783, K_786, K_789, K_792, K_795, K_798, K_801, K_804, K_392] from rfl) ▸ by simp) hd)
  obtain ⟨z, M', e, -, -, alt, ha, q, p⟩ := cOK_I c0 (A := [.inr 2]) (show aF2 gW [aRef 2] [.inr 2] from ⟨gW_o, trivial⟩) hM (show gP0 [(7, 10, (0, 7, 7, 0, 0, 0))] M from fun e he => by
    simp only [List.mem_cons, List.not_mem_nil, or_false] at he
    rcases he with rfl
    · exact gR_i p0.1 p0.2) rfl
  refine ⟨z, M', e, ?_⟩
  have ha : alt ∈ [(some (0, -2, -2, 0, 0, 0), [], [(7, 10, (0, 7, 7, 0, 0, 0))]), (some (0, -3, -3, 0, 0, 0), [], [(7, 10, (0, 7, 7, 0, 0, 0))]), (some (1, 0, 0, 0, 0, 0), [], [(5, 1, (0, 7, 7, 0, 0, 0)), (6, 6, (0, -2147483648, 2147483647, 0, 0, 0)), (7, 10, (0, 7, 7, 0, 0, 0))])] := ha
  simp only [List.mem_cons, List.not_mem_nil, or_false] at ha
  rcases ha with rfl | rfl | rfl
  · obtain ⟨z2, e2, r⟩ := gW_int (show gW _ _ from q) (Nat.le_of_ble_eq_true rfl)
    cases e2
    have := gR0 r
    exact Or.inl ⟨this.1, this.2⟩
  · obtain ⟨z2, e2, r⟩ := gW_int (show gW _ _ from q) (Nat.le_of_ble_eq_true rfl)
    cases e2
    have := gR0 r
    exact Or.inr (Or.inl ⟨this.1, this.2⟩)
  · have w := gR0 (show gR (0, 7, 7, 0, 0, 0) (M' 5 1) from (p _ List.mem_cons_self).1)
    exact Or.inr (Or.inr ⟨w.1, w.2⟩)
theorem nt_X_near_8 {d : Nat} (hd : 6 ≤ d) {M : pM} (hM : gM gAll M) (p0 : 8 ≤ M 7 10 ∧ M 7 10 ≤ 8) : ∃ z M', xF d 24 [.inr 2] M = rI z M' ∧ ((-2 ≤ z ∧ z ≤ -2) ∨ (-3 ≤ z ∧ z ≤ -3) ∨ (8 ≤ M' 5 1 ∧ M' 5 1 ≤ 8)) := by
  have c0 : cOK gAll (xF d) 24 K_798 := (ct_of (d := d) ct_ok (show K_798 ∈ CT.getD 24 [] from (show CT.getD 24 [] = [K_774, K_777, K_780, K_783, K_786, K_789, K_792, K_795, K_798, K_801, K_804, K_392] from rfl) ▸ by simp) hd)
  obtain ⟨z, M', e, -, -, alt, ha, q, p⟩ := cOK_I c0 (A := [.inr 2]) (show aF2 gW [aRef 2] [.inr 2] from ⟨gW_o, trivial⟩) hM (show gP0 [(7, 10, (0, 8, 8, 0, 0, 0))] M from fun e he => by
    simp only [List.mem_cons, List.not_mem_nil, or_false] at he
    rcases he with rfl
    · exact gR_i p0.1 p0.2) rfl
  refine ⟨z, M', e, ?_⟩
  have ha : alt ∈ [(some (0, -2, -2, 0, 0, 0), [], [(7, 10, (0, 8, 8, 0, 0, 0))]), (some (0, -3, -3, 0, 0, 0), [], [(7, 10, (0, 8, 8, 0, 0, 0))]), (some (1, 0, 0, 0, 0, 0), [], [(5, 1, (0, 8, 8, 0, 0, 0)), (6, 7, (0, -2147483648, 2147483647, 0, 0, 0)), (7, 10, (0, 8, 8, 0, 0, 0))])] := ha
  simp only [List.mem_cons, List.not_mem_nil, or_false] at ha
  rcases ha with rfl | rfl | rfl
  · obtain ⟨z2, e2, r⟩ := gW_int (show gW _ _ from q) (Nat.le_of_ble_eq_true rfl)
    cases e2
    have := gR0 r
    exact Or.inl ⟨this.1, this.2⟩
  · obtain ⟨z2, e2, r⟩ := gW_int (show gW _ _ from q) (Nat.le_of_ble_eq_true rfl)
    cases e2
    have := gR0 r
    exact Or.inr (Or.inl ⟨this.1, this.2⟩)
  · have w := gR0 (show gR (0, 8, 8, 0, 0, 0) (M' 5 1) from (p _ List.mem_cons_self).1)
    exact Or.inr (Or.inr ⟨w.1, w.2⟩)
theorem nt_X_near_9 {d : Nat} (hd : 6 ≤ d) {M : pM} (hM : gM gAll M) (p0 : 9 ≤ M 7 10 ∧ M 7 10 ≤ 9) : ∃ z M', xF d 24 [.inr 2] M = rI z M' ∧ ((-2 ≤ z ∧ z ≤ -2) ∨ (-3 ≤ z ∧ z ≤ -3) ∨ (9 ≤ M' 5 1 ∧ M' 5 1 ≤ 9)) := by
  have c0 : cOK gAll (xF d) 24 K_801 := (ct_of (d := d) ct_ok (show K_801 ∈ CT.getD 24 [] from (show CT.getD 24 [] = [K_774, K_777, K_780, K_783, K_786, K_789, K_792, K_795, K_798, K_801, K_804, K_392] from rfl) ▸ by simp) hd)
  obtain ⟨z, M', e, -, -, alt, ha, q, p⟩ := cOK_I c0 (A := [.inr 2]) (show aF2 gW [aRef 2] [.inr 2] from ⟨gW_o, trivial⟩) hM (show gP0 [(7, 10, (0, 9, 9, 0, 0, 0))] M from fun e he => by
    simp only [List.mem_cons, List.not_mem_nil, or_false] at he
    rcases he with rfl
    · exact gR_i p0.1 p0.2) rfl
  refine ⟨z, M', e, ?_⟩
  have ha : alt ∈ [(some (0, -2, -2, 0, 0, 0), [], [(7, 10, (0, 9, 9, 0, 0, 0))]), (some (0, -3, -3, 0, 0, 0), [], [(7, 10, (0, 9, 9, 0, 0, 0))]), (some (1, 0, 0, 0, 0, 0), [], [(5, 1, (0, 9, 9, 0, 0, 0)), (6, 8, (0, -2147483648, 2147483647, 0, 0, 0)), (7, 10, (0, 9, 9, 0, 0, 0))])] := ha
  simp only [List.mem_cons, List.not_mem_nil, or_false] at ha
  rcases ha with rfl | rfl | rfl
  · obtain ⟨z2, e2, r⟩ := gW_int (show gW _ _ from q) (Nat.le_of_ble_eq_true rfl)
    cases e2
    have := gR0 r
    exact Or.inl ⟨this.1, this.2⟩
  · obtain ⟨z2, e2, r⟩ := gW_int (show gW _ _ from q) (Nat.le_of_ble_eq_true rfl)
    cases e2
    have := gR0 r
    exact Or.inr (Or.inl ⟨this.1, this.2⟩)
  · have w := gR0 (show gR (0, 9, 9, 0, 0, 0) (M' 5 1) from (p _ List.mem_cons_self).1)
    exact Or.inr (Or.inr ⟨w.1, w.2⟩)
theorem nt_X_near_10 {d : Nat} (hd : 6 ≤ d) {M : pM} (hM : gM gAll M) (p0 : 10 ≤ M 7 10 ∧ M 7 10 ≤ 10) : ∃ z M', xF d 24 [.inr 2] M = rI z M' ∧ ((-2 ≤ z ∧ z ≤ -2) ∨ (-3 ≤ z ∧ z ≤ -3) ∨ (10 ≤ M' 5 1 ∧ M' 5 1 ≤ 10)) := by
  have c0 : cOK gAll (xF d) 24 K_804 := (ct_of (d := d) ct_ok (show K_804 ∈ CT.getD 24 [] from (show CT.getD 24 [] = [K_774, K_777, K_780, K_783, K_786, K_789, K_792, K_795, K_798, K_801, K_804, K_392] from rfl) ▸ by simp) hd)
  obtain ⟨z, M', e, -, -, alt, ha, q, p⟩ := cOK_I c0 (A := [.inr 2]) (show aF2 gW [aRef 2] [.inr 2] from ⟨gW_o, trivial⟩) hM (show gP0 [(7, 10, (0, 10, 10, 0, 0, 0))] M from fun e he => by
    simp only [List.mem_cons, List.not_mem_nil, or_false] at he
    rcases he with rfl
    · exact gR_i p0.1 p0.2) rfl
  refine ⟨z, M', e, ?_⟩
  have ha : alt ∈ [(some (0, -2, -2, 0, 0, 0), [], [(7, 10, (0, 10, 10, 0, 0, 0))]), (some (0, -3, -3, 0, 0, 0), [], [(7, 10, (0, 10, 10, 0, 0, 0))]), (some (1, 0, 0, 0, 0, 0), [], [(5, 1, (0, 10, 10, 0, 0, 0)), (6, 9, (0, -2147483648, 2147483647, 0, 0, 0)), (7, 10, (0, 10, 10, 0, 0, 0))])] := ha
  simp only [List.mem_cons, List.not_mem_nil, or_false] at ha
  rcases ha with rfl | rfl | rfl
  · obtain ⟨z2, e2, r⟩ := gW_int (show gW _ _ from q) (Nat.le_of_ble_eq_true rfl)
    cases e2
    have := gR0 r
    exact Or.inl ⟨this.1, this.2⟩
  · obtain ⟨z2, e2, r⟩ := gW_int (show gW _ _ from q) (Nat.le_of_ble_eq_true rfl)
    cases e2
    have := gR0 r
    exact Or.inr (Or.inl ⟨this.1, this.2⟩)
  · have w := gR0 (show gR (0, 10, 10, 0, 0, 0) (M' 5 1) from (p _ List.mem_cons_self).1)
    exact Or.inr (Or.inr ⟨w.1, w.2⟩)
theorem nt_X_near {d : Nat} (hd : 6 ≤ d) {M M' : pM} {v : Int} (hM : gM gAll M) {n : Nat} (hn : n ≤ 10) (hc : M 7 10 = (n : Int)) (e : xF d 24 [.inr 2] M = rI v M') : (-2 ≤ v ∧ v ≤ -2) ∨ (-3 ≤ v ∧ v ≤ -3) ∨ (M' 5 1 = (n : Int)) := by
  rcases (show n = 0 ∨ n = 1 ∨ n = 2 ∨ n = 3 ∨ n = 4 ∨ n = 5 ∨ n = 6 ∨ n = 7 ∨ n = 8 ∨ n = 9 ∨ n = 10 by omega) with rfl | rfl | rfl | rfl | rfl | rfl | rfl | rfl | rfl | rfl | rfl
  · obtain ⟨z, M2, e2, r⟩ := nt_X_near_0 (d := d) (by omega) hM (by omega)
    obtain ⟨y1, y2⟩ := rI_inj (e.symm.trans e2)
    rw [y1, y2]
    rcases r with r | r | r
    · exact Or.inl (by omega)
    · exact Or.inr (Or.inl (by omega))
    · exact Or.inr (Or.inr ((by omega)))
  · obtain ⟨z, M2, e2, r⟩ := nt_X_near_1 (d := d) (by omega) hM (by omega)
    obtain ⟨y1, y2⟩ := rI_inj (e.symm.trans e2)
    rw [y1, y2]
    rcases r with r | r | r
    · exact Or.inl (by omega)
    · exact Or.inr (Or.inl (by omega))
    · exact Or.inr (Or.inr ((by omega)))
  · obtain ⟨z, M2, e2, r⟩ := nt_X_near_2 (d := d) (by omega) hM (by omega)
    obtain ⟨y1, y2⟩ := rI_inj (e.symm.trans e2)
    rw [y1, y2]
    rcases r with r | r | r
    · exact Or.inl (by omega)
    · exact Or.inr (Or.inl (by omega))
    · exact Or.inr (Or.inr ((by omega)))
  · obtain ⟨z, M2, e2, r⟩ := nt_X_near_3 (d := d) (by omega) hM (by omega)
    obtain ⟨y1, y2⟩ := rI_inj (e.symm.trans e2)
    rw [y1, y2]
    rcases r with r | r | r
    · exact Or.inl (by omega)
    · exact Or.inr (Or.inl (by omega))
    · exact Or.inr (Or.inr ((by omega)))
  · obtain ⟨z, M2, e2, r⟩ := nt_X_near_4 (d := d) (by omega) hM (by omega)
    obtain ⟨y1, y2⟩ := rI_inj (e.symm.trans e2)
    rw [y1, y2]
    rcases r with r | r | r
    · exact Or.inl (by omega)
    · exact Or.inr (Or.inl (by omega))
    · exact Or.inr (Or.inr ((by omega)))
  · obtain ⟨z, M2, e2, r⟩ := nt_X_near_5 (d := d) (by omega) hM (by omega)
    obtain ⟨y1, y2⟩ := rI_inj (e.symm.trans e2)
    rw [y1, y2]
    rcases r with r | r | r
    · exact Or.inl (by omega)
    · exact Or.inr (Or.inl (by omega))
    · exact Or.inr (Or.inr ((by omega)))
  · obtain ⟨z, M2, e2, r⟩ := nt_X_near_6 (d := d) (by omega) hM (by omega)
    obtain ⟨y1, y2⟩ := rI_inj (e.symm.trans e2)
    rw [y1, y2]
    rcases r with r | r | r
    · exact Or.inl (by omega)
    · exact Or.inr (Or.inl (by omega))
    · exact Or.inr (Or.inr ((by omega)))
  · obtain ⟨z, M2, e2, r⟩ := nt_X_near_7 (d := d) (by omega) hM (by omega)
    obtain ⟨y1, y2⟩ := rI_inj (e.symm.trans e2)
    rw [y1, y2]
    rcases r with r | r | r
    · exact Or.inl (by omega)
    · exact Or.inr (Or.inl (by omega))
    · exact Or.inr (Or.inr ((by omega)))
  · obtain ⟨z, M2, e2, r⟩ := nt_X_near_8 (d := d) (by omega) hM (by omega)
    obtain ⟨y1, y2⟩ := rI_inj (e.symm.trans e2)
    rw [y1, y2]
    rcases r with r | r | r
    · exact Or.inl (by omega)
    · exact Or.inr (Or.inl (by omega))
    · exact Or.inr (Or.inr ((by omega)))
  · obtain ⟨z, M2, e2, r⟩ := nt_X_near_9 (d := d) (by omega) hM (by omega)
    obtain ⟨y1, y2⟩ := rI_inj (e.symm.trans e2)
    rw [y1, y2]
    rcases r with r | r | r
    · exact Or.inl (by omega)
    · exact Or.inr (Or.inl (by omega))
    · exact Or.inr (Or.inr ((by omega)))
  · obtain ⟨z, M2, e2, r⟩ := nt_X_near_10 (d := d) (by omega) hM (by omega)
    obtain ⟨y1, y2⟩ := rI_inj (e.symm.trans e2)
    rw [y1, y2]
    rcases r with r | r | r
    · exact Or.inl (by omega)
    · exact Or.inr (Or.inl (by omega))
    · exact Or.inr (Or.inr ((by omega)))
theorem nt_X_guest_0 {d : Nat} (hd : 6 ≤ d) {M : pM} {a1 : Int} {a2 : Int} (hM : gM gAll M) (h1 : -2147483648 ≤ a1 ∧ a1 ≤ 2147483647) (h2 : -2147483648 ≤ a2 ∧ a2 ≤ 2147483647) (p0 : 0 ≤ M 7 10 ∧ M 7 10 ≤ 0) : ∃ z M', xF d 25 [.inr 2, .inl a1, .inl a2] M = rI z M' ∧ ((-1 ≤ z ∧ z ≤ -1) ∨ (-2 ≤ z ∧ z ≤ -2) ∨ (-3 ≤ z ∧ z ≤ -3) ∨ (0 ≤ M' 5 1 ∧ M' 5 1 ≤ 0)) := by
  have c0 : cOK gAll (xF d) 25 K_805 := (ct_of (d := d) ct_ok (show K_805 ∈ CT.getD 25 [] from (show CT.getD 25 [] = [K_805, K_806, K_807, K_808, K_809, K_810, K_811, K_812, K_813, K_814, K_815, K_393] from rfl) ▸ by simp) hd)
  obtain ⟨z, M', e, -, -, alt, ha, q, p⟩ := cOK_I c0 (A := [.inr 2, .inl a1, .inl a2]) (show aF2 gW [aRef 2, (0, -2147483648, 2147483647, 0, 0, 0), (0, -2147483648, 2147483647, 0, 0, 0)] [.inr 2, .inl a1, .inl a2] from ⟨gW_o, gW_i h1.1 h1.2, gW_i h2.1 h2.2, trivial⟩) hM (show gP0 [(7, 10, (0, 0, 0, 0, 0, 0))] M from fun e he => by
    simp only [List.mem_cons, List.not_mem_nil, or_false] at he
    rcases he with rfl
    · exact gR_i p0.1 p0.2) rfl
  refine ⟨z, M', e, ?_⟩
  have ha : alt ∈ [(some (0, -1, -1, 0, 0, 0), [], [(7, 10, (0, 0, 0, 0, 0, 0))]), (some (0, -2, -2, 0, 0, 0), [(4, 0, 0, 0, 0, 0), (0, 0, 5, 0, 0, 0), (0, 0, 99, 0, 0, 0)], [(7, 9, (0, 1, 6, 0, 0, 0)), (7, 10, (0, 0, 0, 0, 0, 0))]), (some (0, -3, -3, 0, 0, 0), [(4, 0, 0, 0, 0, 0), (0, 0, 5, 0, 0, 0), (0, 0, 99, 0, 0, 0)], [(7, 9, (0, 1, 6, 0, 0, 0)), (7, 10, (0, 0, 0, 0, 0, 0))]), (some (1, 0, 0, 0, 0, 0), [(4, 0, 0, 0, 0, 0), (0, 0, 5, 0, 0, 0), (0, 0, 99, 0, 0, 0)], [(5, 1, (0, 0, 0, 0, 0, 0)), (7, 9, (0, 1, 6, 0, 0, 0)), (7, 10, (0, 0, 0, 0, 0, 0))])] := ha
  simp only [List.mem_cons, List.not_mem_nil, or_false] at ha
  rcases ha with rfl | rfl | rfl | rfl
  · obtain ⟨z2, e2, r⟩ := gW_int (show gW _ _ from q) (Nat.le_of_ble_eq_true rfl)
    cases e2
    have := gR0 r
    exact Or.inl ⟨this.1, this.2⟩
  · obtain ⟨z2, e2, r⟩ := gW_int (show gW _ _ from q) (Nat.le_of_ble_eq_true rfl)
    cases e2
    have := gR0 r
    exact Or.inr (Or.inl ⟨this.1, this.2⟩)
  · obtain ⟨z2, e2, r⟩ := gW_int (show gW _ _ from q) (Nat.le_of_ble_eq_true rfl)
    cases e2
    have := gR0 r
    exact Or.inr (Or.inr (Or.inl ⟨this.1, this.2⟩))
  · have w := gR0 (show gR (0, 0, 0, 0, 0, 0) (M' 5 1) from (p _ List.mem_cons_self).1)
    exact Or.inr (Or.inr (Or.inr ⟨w.1, w.2⟩))
theorem nt_X_guest_1 {d : Nat} (hd : 6 ≤ d) {M : pM} {a1 : Int} {a2 : Int} (hM : gM gAll M) (h1 : -2147483648 ≤ a1 ∧ a1 ≤ 2147483647) (h2 : -2147483648 ≤ a2 ∧ a2 ≤ 2147483647) (p0 : 1 ≤ M 7 10 ∧ M 7 10 ≤ 1) : ∃ z M', xF d 25 [.inr 2, .inl a1, .inl a2] M = rI z M' ∧ ((-1 ≤ z ∧ z ≤ -1) ∨ (-2 ≤ z ∧ z ≤ -2) ∨ (-3 ≤ z ∧ z ≤ -3) ∨ (1 ≤ M' 5 1 ∧ M' 5 1 ≤ 1)) := by
  have c0 : cOK gAll (xF d) 25 K_806 := (ct_of (d := d) ct_ok (show K_806 ∈ CT.getD 25 [] from (show CT.getD 25 [] = [K_805, K_806, K_807, K_808, K_809, K_810, K_811, K_812, K_813, K_814, K_815, K_393] from rfl) ▸ by simp) hd)
  obtain ⟨z, M', e, -, -, alt, ha, q, p⟩ := cOK_I c0 (A := [.inr 2, .inl a1, .inl a2]) (show aF2 gW [aRef 2, (0, -2147483648, 2147483647, 0, 0, 0), (0, -2147483648, 2147483647, 0, 0, 0)] [.inr 2, .inl a1, .inl a2] from ⟨gW_o, gW_i h1.1 h1.2, gW_i h2.1 h2.2, trivial⟩) hM (show gP0 [(7, 10, (0, 1, 1, 0, 0, 0))] M from fun e he => by
    simp only [List.mem_cons, List.not_mem_nil, or_false] at he
    rcases he with rfl
    · exact gR_i p0.1 p0.2) rfl
  refine ⟨z, M', e, ?_⟩
  have ha : alt ∈ [(some (0, -1, -1, 0, 0, 0), [], [(7, 10, (0, 1, 1, 0, 0, 0))]), (some (0, -2, -2, 0, 0, 0), [(4, 0, 0, 0, 0, 0), (0, 0, 5, 0, 0, 0), (0, 0, 99, 0, 0, 0)], [(7, 9, (0, 1, 6, 0, 0, 0)), (7, 10, (0, 1, 1, 0, 0, 0))]), (some (0, -3, -3, 0, 0, 0), [(4, 0, 0, 0, 0, 0), (0, 0, 5, 0, 0, 0), (0, 0, 99, 0, 0, 0)], [(7, 9, (0, 1, 6, 0, 0, 0)), (7, 10, (0, 1, 1, 0, 0, 0))]), (some (1, 0, 0, 0, 0, 0), [(4, 0, 0, 0, 0, 0), (0, 0, 5, 0, 0, 0), (0, 0, 99, 0, 0, 0)], [(5, 1, (0, 1, 1, 0, 0, 0)), (6, 0, (0, -2147483648, 2147483647, 0, 0, 0)), (7, 9, (0, 1, 6, 0, 0, 0)), (7, 10, (0, 1, 1, 0, 0, 0))])] := ha
  simp only [List.mem_cons, List.not_mem_nil, or_false] at ha
  rcases ha with rfl | rfl | rfl | rfl
  · obtain ⟨z2, e2, r⟩ := gW_int (show gW _ _ from q) (Nat.le_of_ble_eq_true rfl)
    cases e2
    have := gR0 r
    exact Or.inl ⟨this.1, this.2⟩
  · obtain ⟨z2, e2, r⟩ := gW_int (show gW _ _ from q) (Nat.le_of_ble_eq_true rfl)
    cases e2
    have := gR0 r
    exact Or.inr (Or.inl ⟨this.1, this.2⟩)
  · obtain ⟨z2, e2, r⟩ := gW_int (show gW _ _ from q) (Nat.le_of_ble_eq_true rfl)
    cases e2
    have := gR0 r
    exact Or.inr (Or.inr (Or.inl ⟨this.1, this.2⟩))
  · have w := gR0 (show gR (0, 1, 1, 0, 0, 0) (M' 5 1) from (p _ List.mem_cons_self).1)
    exact Or.inr (Or.inr (Or.inr ⟨w.1, w.2⟩))
theorem nt_X_guest_2 {d : Nat} (hd : 6 ≤ d) {M : pM} {a1 : Int} {a2 : Int} (hM : gM gAll M) (h1 : -2147483648 ≤ a1 ∧ a1 ≤ 2147483647) (h2 : -2147483648 ≤ a2 ∧ a2 ≤ 2147483647) (p0 : 2 ≤ M 7 10 ∧ M 7 10 ≤ 2) : ∃ z M', xF d 25 [.inr 2, .inl a1, .inl a2] M = rI z M' ∧ ((-1 ≤ z ∧ z ≤ -1) ∨ (-2 ≤ z ∧ z ≤ -2) ∨ (-3 ≤ z ∧ z ≤ -3) ∨ (2 ≤ M' 5 1 ∧ M' 5 1 ≤ 2)) := by
  have c0 : cOK gAll (xF d) 25 K_807 := (ct_of (d := d) ct_ok (show K_807 ∈ CT.getD 25 [] from (show CT.getD 25 [] = [K_805, K_806, K_807, K_808, K_809, K_810, K_811, K_812, K_813, K_814, K_815, K_393] from rfl) ▸ by simp) hd)
  obtain ⟨z, M', e, -, -, alt, ha, q, p⟩ := cOK_I c0 (A := [.inr 2, .inl a1, .inl a2]) (show aF2 gW [aRef 2, (0, -2147483648, 2147483647, 0, 0, 0), (0, -2147483648, 2147483647, 0, 0, 0)] [.inr 2, .inl a1, .inl a2] from ⟨gW_o, gW_i h1.1 h1.2, gW_i h2.1 h2.2, trivial⟩) hM (show gP0 [(7, 10, (0, 2, 2, 0, 0, 0))] M from fun e he => by
    simp only [List.mem_cons, List.not_mem_nil, or_false] at he
    rcases he with rfl
    · exact gR_i p0.1 p0.2) rfl
  refine ⟨z, M', e, ?_⟩
  have ha : alt ∈ [(some (0, -1, -1, 0, 0, 0), [], [(7, 10, (0, 2, 2, 0, 0, 0))]), (some (0, -2, -2, 0, 0, 0), [(4, 0, 0, 0, 0, 0), (0, 0, 5, 0, 0, 0), (0, 0, 99, 0, 0, 0)], [(7, 9, (0, 1, 6, 0, 0, 0)), (7, 10, (0, 2, 2, 0, 0, 0))]), (some (0, -3, -3, 0, 0, 0), [(4, 0, 0, 0, 0, 0), (0, 0, 5, 0, 0, 0), (0, 0, 99, 0, 0, 0)], [(7, 9, (0, 1, 6, 0, 0, 0)), (7, 10, (0, 2, 2, 0, 0, 0))]), (some (1, 0, 0, 0, 0, 0), [(4, 0, 0, 0, 0, 0), (0, 0, 5, 0, 0, 0), (0, 0, 99, 0, 0, 0)], [(5, 1, (0, 2, 2, 0, 0, 0)), (6, 1, (0, -2147483648, 2147483647, 0, 0, 0)), (7, 9, (0, 1, 6, 0, 0, 0)), (7, 10, (0, 2, 2, 0, 0, 0))])] := ha
  simp only [List.mem_cons, List.not_mem_nil, or_false] at ha
  rcases ha with rfl | rfl | rfl | rfl
  · obtain ⟨z2, e2, r⟩ := gW_int (show gW _ _ from q) (Nat.le_of_ble_eq_true rfl)
    cases e2
    have := gR0 r
    exact Or.inl ⟨this.1, this.2⟩
  · obtain ⟨z2, e2, r⟩ := gW_int (show gW _ _ from q) (Nat.le_of_ble_eq_true rfl)
    cases e2
    have := gR0 r
    exact Or.inr (Or.inl ⟨this.1, this.2⟩)
  · obtain ⟨z2, e2, r⟩ := gW_int (show gW _ _ from q) (Nat.le_of_ble_eq_true rfl)
    cases e2
    have := gR0 r
    exact Or.inr (Or.inr (Or.inl ⟨this.1, this.2⟩))
  · have w := gR0 (show gR (0, 2, 2, 0, 0, 0) (M' 5 1) from (p _ List.mem_cons_self).1)
    exact Or.inr (Or.inr (Or.inr ⟨w.1, w.2⟩))
theorem nt_X_guest_3 {d : Nat} (hd : 6 ≤ d) {M : pM} {a1 : Int} {a2 : Int} (hM : gM gAll M) (h1 : -2147483648 ≤ a1 ∧ a1 ≤ 2147483647) (h2 : -2147483648 ≤ a2 ∧ a2 ≤ 2147483647) (p0 : 3 ≤ M 7 10 ∧ M 7 10 ≤ 3) : ∃ z M', xF d 25 [.inr 2, .inl a1, .inl a2] M = rI z M' ∧ ((-1 ≤ z ∧ z ≤ -1) ∨ (-2 ≤ z ∧ z ≤ -2) ∨ (-3 ≤ z ∧ z ≤ -3) ∨ (3 ≤ M' 5 1 ∧ M' 5 1 ≤ 3)) := by
  have c0 : cOK gAll (xF d) 25 K_808 := (ct_of (d := d) ct_ok (show K_808 ∈ CT.getD 25 [] from (show CT.getD 25 [] = [K_805, K_806, K_807, K_808, K_809, K_810, K_811, K_812, K_813, K_814, K_815, K_393] from rfl) ▸ by simp) hd)
  obtain ⟨z, M', e, -, -, alt, ha, q, p⟩ := cOK_I c0 (A := [.inr 2, .inl a1, .inl a2]) (show aF2 gW [aRef 2, (0, -2147483648, 2147483647, 0, 0, 0), (0, -2147483648, 2147483647, 0, 0, 0)] [.inr 2, .inl a1, .inl a2] from ⟨gW_o, gW_i h1.1 h1.2, gW_i h2.1 h2.2, trivial⟩) hM (show gP0 [(7, 10, (0, 3, 3, 0, 0, 0))] M from fun e he => by
    simp only [List.mem_cons, List.not_mem_nil, or_false] at he
    rcases he with rfl
    · exact gR_i p0.1 p0.2) rfl
  refine ⟨z, M', e, ?_⟩
  have ha : alt ∈ [(some (0, -1, -1, 0, 0, 0), [], [(7, 10, (0, 3, 3, 0, 0, 0))]), (some (0, -2, -2, 0, 0, 0), [(4, 0, 0, 0, 0, 0), (0, 0, 5, 0, 0, 0), (0, 0, 99, 0, 0, 0)], [(7, 9, (0, 1, 6, 0, 0, 0)), (7, 10, (0, 3, 3, 0, 0, 0))]), (some (0, -3, -3, 0, 0, 0), [(4, 0, 0, 0, 0, 0), (0, 0, 5, 0, 0, 0), (0, 0, 99, 0, 0, 0)], [(7, 9, (0, 1, 6, 0, 0, 0)), (7, 10, (0, 3, 3, 0, 0, 0))]), (some (1, 0, 0, 0, 0, 0), [(4, 0, 0, 0, 0, 0), (0, 0, 5, 0, 0, 0), (0, 0, 99, 0, 0, 0)], [(5, 1, (0, 3, 3, 0, 0, 0)), (6, 2, (0, -2147483648, 2147483647, 0, 0, 0)), (7, 9, (0, 1, 6, 0, 0, 0)), (7, 10, (0, 3, 3, 0, 0, 0))])] := ha
  simp only [List.mem_cons, List.not_mem_nil, or_false] at ha
  rcases ha with rfl | rfl | rfl | rfl
  · obtain ⟨z2, e2, r⟩ := gW_int (show gW _ _ from q) (Nat.le_of_ble_eq_true rfl)
    cases e2
    have := gR0 r
    exact Or.inl ⟨this.1, this.2⟩
  · obtain ⟨z2, e2, r⟩ := gW_int (show gW _ _ from q) (Nat.le_of_ble_eq_true rfl)
    cases e2
    have := gR0 r
    exact Or.inr (Or.inl ⟨this.1, this.2⟩)
  · obtain ⟨z2, e2, r⟩ := gW_int (show gW _ _ from q) (Nat.le_of_ble_eq_true rfl)
    cases e2
    have := gR0 r
    exact Or.inr (Or.inr (Or.inl ⟨this.1, this.2⟩))
  · have w := gR0 (show gR (0, 3, 3, 0, 0, 0) (M' 5 1) from (p _ List.mem_cons_self).1)
    exact Or.inr (Or.inr (Or.inr ⟨w.1, w.2⟩))
theorem nt_X_guest_4 {d : Nat} (hd : 6 ≤ d) {M : pM} {a1 : Int} {a2 : Int} (hM : gM gAll M) (h1 : -2147483648 ≤ a1 ∧ a1 ≤ 2147483647) (h2 : -2147483648 ≤ a2 ∧ a2 ≤ 2147483647) (p0 : 4 ≤ M 7 10 ∧ M 7 10 ≤ 4) : ∃ z M', xF d 25 [.inr 2, .inl a1, .inl a2] M = rI z M' ∧ ((-1 ≤ z ∧ z ≤ -1) ∨ (-2 ≤ z ∧ z ≤ -2) ∨ (-3 ≤ z ∧ z ≤ -3) ∨ (4 ≤ M' 5 1 ∧ M' 5 1 ≤ 4)) := by
  have c0 : cOK gAll (xF d) 25 K_809 := (ct_of (d := d) ct_ok (show K_809 ∈ CT.getD 25 [] from (show CT.getD 25 [] = [K_805, K_806, K_807, K_808, K_809, K_810, K_811, K_812, K_813, K_814, K_815, K_393] from rfl) ▸ by simp) hd)
  obtain ⟨z, M', e, -, -, alt, ha, q, p⟩ := cOK_I c0 (A := [.inr 2, .inl a1, .inl a2]) (show aF2 gW [aRef 2, (0, -2147483648, 2147483647, 0, 0, 0), (0, -2147483648, 2147483647, 0, 0, 0)] [.inr 2, .inl a1, .inl a2] from ⟨gW_o, gW_i h1.1 h1.2, gW_i h2.1 h2.2, trivial⟩) hM (show gP0 [(7, 10, (0, 4, 4, 0, 0, 0))] M from fun e he => by
    simp only [List.mem_cons, List.not_mem_nil, or_false] at he
    rcases he with rfl
    · exact gR_i p0.1 p0.2) rfl
  refine ⟨z, M', e, ?_⟩
  have ha : alt ∈ [(some (0, -1, -1, 0, 0, 0), [], [(7, 10, (0, 4, 4, 0, 0, 0))]), (some (0, -2, -2, 0, 0, 0), [(4, 0, 0, 0, 0, 0), (0, 0, 5, 0, 0, 0), (0, 0, 99, 0, 0, 0)], [(7, 9, (0, 1, 6, 0, 0, 0)), (7, 10, (0, 4, 4, 0, 0, 0))]), (some (0, -3, -3, 0, 0, 0), [(4, 0, 0, 0, 0, 0), (0, 0, 5, 0, 0, 0), (0, 0, 99, 0, 0, 0)], [(7, 9, (0, 1, 6, 0, 0, 0)), (7, 10, (0, 4, 4, 0, 0, 0))]), (some (1, 0, 0, 0, 0, 0), [(4, 0, 0, 0, 0, 0), (0, 0, 5, 0, 0, 0), (0, 0, 99, 0, 0, 0)], [(5, 1, (0, 4, 4, 0, 0, 0)), (6, 3, (0, -2147483648, 2147483647, 0, 0, 0)), (7, 9, (0, 1, 6, 0, 0, 0)), (7, 10, (0, 4, 4, 0, 0, 0))])] := ha
  simp only [List.mem_cons, List.not_mem_nil, or_false] at ha
  rcases ha with rfl | rfl | rfl | rfl
  · obtain ⟨z2, e2, r⟩ := gW_int (show gW _ _ from q) (Nat.le_of_ble_eq_true rfl)
    cases e2
    have := gR0 r
    exact Or.inl ⟨this.1, this.2⟩
  · obtain ⟨z2, e2, r⟩ := gW_int (show gW _ _ from q) (Nat.le_of_ble_eq_true rfl)
    cases e2
    have := gR0 r
    exact Or.inr (Or.inl ⟨this.1, this.2⟩)
  · obtain ⟨z2, e2, r⟩ := gW_int (show gW _ _ from q) (Nat.le_of_ble_eq_true rfl)
    cases e2
    have := gR0 r
    exact Or.inr (Or.inr (Or.inl ⟨this.1, this.2⟩))
  · have w := gR0 (show gR (0, 4, 4, 0, 0, 0) (M' 5 1) from (p _ List.mem_cons_self).1)
    exact Or.inr (Or.inr (Or.inr ⟨w.1, w.2⟩))
theorem nt_X_guest_5 {d : Nat} (hd : 6 ≤ d) {M : pM} {a1 : Int} {a2 : Int} (hM : gM gAll M) (h1 : -2147483648 ≤ a1 ∧ a1 ≤ 2147483647) (h2 : -2147483648 ≤ a2 ∧ a2 ≤ 2147483647) (p0 : 5 ≤ M 7 10 ∧ M 7 10 ≤ 5) : ∃ z M', xF d 25 [.inr 2, .inl a1, .inl a2] M = rI z M' ∧ ((-1 ≤ z ∧ z ≤ -1) ∨ (-2 ≤ z ∧ z ≤ -2) ∨ (-3 ≤ z ∧ z ≤ -3) ∨ (5 ≤ M' 5 1 ∧ M' 5 1 ≤ 5)) := by
  have c0 : cOK gAll (xF d) 25 K_810 := (ct_of (d := d) ct_ok (show K_810 ∈ CT.getD 25 [] from (show CT.getD 25 [] = [K_805, K_806, K_807, K_808, K_809, K_810, K_811, K_812, K_813, K_814, K_815, K_393] from rfl) ▸ by simp) hd)
  obtain ⟨z, M', e, -, -, alt, ha, q, p⟩ := cOK_I c0 (A := [.inr 2, .inl a1, .inl a2]) (show aF2 gW [aRef 2, (0, -2147483648, 2147483647, 0, 0, 0), (0, -2147483648, 2147483647, 0, 0, 0)] [.inr 2, .inl a1, .inl a2] from ⟨gW_o, gW_i h1.1 h1.2, gW_i h2.1 h2.2, trivial⟩) hM (show gP0 [(7, 10, (0, 5, 5, 0, 0, 0))] M from fun e he => by
    simp only [List.mem_cons, List.not_mem_nil, or_false] at he
    rcases he with rfl
    · exact gR_i p0.1 p0.2) rfl
  refine ⟨z, M', e, ?_⟩
  have ha : alt ∈ [(some (0, -1, -1, 0, 0, 0), [], [(7, 10, (0, 5, 5, 0, 0, 0))]), (some (0, -2, -2, 0, 0, 0), [(4, 0, 0, 0, 0, 0), (0, 0, 5, 0, 0, 0), (0, 0, 99, 0, 0, 0)], [(7, 9, (0, 1, 6, 0, 0, 0)), (7, 10, (0, 5, 5, 0, 0, 0))]), (some (0, -3, -3, 0, 0, 0), [(4, 0, 0, 0, 0, 0), (0, 0, 5, 0, 0, 0), (0, 0, 99, 0, 0, 0)], [(7, 9, (0, 1, 6, 0, 0, 0)), (7, 10, (0, 5, 5, 0, 0, 0))]), (some (1, 0, 0, 0, 0, 0), [(4, 0, 0, 0, 0, 0), (0, 0, 5, 0, 0, 0), (0, 0, 99, 0, 0, 0)], [(5, 1, (0, 5, 5, 0, 0, 0)), (6, 4, (0, -2147483648, 2147483647, 0, 0, 0)), (7, 9, (0, 1, 6, 0, 0, 0)), (7, 10, (0, 5, 5, 0, 0, 0))])] := ha
  simp only [List.mem_cons, List.not_mem_nil, or_false] at ha
  rcases ha with rfl | rfl | rfl | rfl
  · obtain ⟨z2, e2, r⟩ := gW_int (show gW _ _ from q) (Nat.le_of_ble_eq_true rfl)
    cases e2
    have := gR0 r
    exact Or.inl ⟨this.1, this.2⟩
  · obtain ⟨z2, e2, r⟩ := gW_int (show gW _ _ from q) (Nat.le_of_ble_eq_true rfl)
    cases e2
    have := gR0 r
    exact Or.inr (Or.inl ⟨this.1, this.2⟩)
  · obtain ⟨z2, e2, r⟩ := gW_int (show gW _ _ from q) (Nat.le_of_ble_eq_true rfl)
    cases e2
    have := gR0 r
    exact Or.inr (Or.inr (Or.inl ⟨this.1, this.2⟩))
  · have w := gR0 (show gR (0, 5, 5, 0, 0, 0) (M' 5 1) from (p _ List.mem_cons_self).1)
    exact Or.inr (Or.inr (Or.inr ⟨w.1, w.2⟩))
theorem nt_X_guest_6 {d : Nat} (hd : 6 ≤ d) {M : pM} {a1 : Int} {a2 : Int} (hM : gM gAll M) (h1 : -2147483648 ≤ a1 ∧ a1 ≤ 2147483647) (h2 : -2147483648 ≤ a2 ∧ a2 ≤ 2147483647) (p0 : 6 ≤ M 7 10 ∧ M 7 10 ≤ 6) : ∃ z M', xF d 25 [.inr 2, .inl a1, .inl a2] M = rI z M' ∧ ((-1 ≤ z ∧ z ≤ -1) ∨ (-2 ≤ z ∧ z ≤ -2) ∨ (-3 ≤ z ∧ z ≤ -3) ∨ (6 ≤ M' 5 1 ∧ M' 5 1 ≤ 6)) := by
  have c0 : cOK gAll (xF d) 25 K_811 := (ct_of (d := d) ct_ok (show K_811 ∈ CT.getD 25 [] from (show CT.getD 25 [] = [K_805, K_806, K_807, K_808, K_809, K_810, K_811, K_812, K_813, K_814, K_815, K_393] from rfl) ▸ by simp) hd)
  obtain ⟨z, M', e, -, -, alt, ha, q, p⟩ := cOK_I c0 (A := [.inr 2, .inl a1, .inl a2]) (show aF2 gW [aRef 2, (0, -2147483648, 2147483647, 0, 0, 0), (0, -2147483648, 2147483647, 0, 0, 0)] [.inr 2, .inl a1, .inl a2] from ⟨gW_o, gW_i h1.1 h1.2, gW_i h2.1 h2.2, trivial⟩) hM (show gP0 [(7, 10, (0, 6, 6, 0, 0, 0))] M from fun e he => by
    simp only [List.mem_cons, List.not_mem_nil, or_false] at he
    rcases he with rfl
    · exact gR_i p0.1 p0.2) rfl
  refine ⟨z, M', e, ?_⟩
  have ha : alt ∈ [(some (0, -1, -1, 0, 0, 0), [], [(7, 10, (0, 6, 6, 0, 0, 0))]), (some (0, -2, -2, 0, 0, 0), [(4, 0, 0, 0, 0, 0), (0, 0, 5, 0, 0, 0), (0, 0, 99, 0, 0, 0)], [(7, 9, (0, 1, 6, 0, 0, 0)), (7, 10, (0, 6, 6, 0, 0, 0))]), (some (0, -3, -3, 0, 0, 0), [(4, 0, 0, 0, 0, 0), (0, 0, 5, 0, 0, 0), (0, 0, 99, 0, 0, 0)], [(7, 9, (0, 1, 6, 0, 0, 0)), (7, 10, (0, 6, 6, 0, 0, 0))]), (some (1, 0, 0, 0, 0, 0), [(4, 0, 0, 0, 0, 0), (0, 0, 5, 0, 0, 0), (0, 0, 99, 0, 0, 0)], [(5, 1, (0, 6, 6, 0, 0, 0)), (6, 5, (0, -2147483648, 2147483647, 0, 0, 0)), (7, 9, (0, 1, 6, 0, 0, 0)), (7, 10, (0, 6, 6, 0, 0, 0))])] := ha
  simp only [List.mem_cons, List.not_mem_nil, or_false] at ha
  rcases ha with rfl | rfl | rfl | rfl
  · obtain ⟨z2, e2, r⟩ := gW_int (show gW _ _ from q) (Nat.le_of_ble_eq_true rfl)
    cases e2
    have := gR0 r
    exact Or.inl ⟨this.1, this.2⟩
  · obtain ⟨z2, e2, r⟩ := gW_int (show gW _ _ from q) (Nat.le_of_ble_eq_true rfl)
    cases e2
    have := gR0 r
    exact Or.inr (Or.inl ⟨this.1, this.2⟩)
  · obtain ⟨z2, e2, r⟩ := gW_int (show gW _ _ from q) (Nat.le_of_ble_eq_true rfl)
    cases e2
    have := gR0 r
    exact Or.inr (Or.inr (Or.inl ⟨this.1, this.2⟩))
  · have w := gR0 (show gR (0, 6, 6, 0, 0, 0) (M' 5 1) from (p _ List.mem_cons_self).1)
    exact Or.inr (Or.inr (Or.inr ⟨w.1, w.2⟩))
theorem nt_X_guest_7 {d : Nat} (hd : 6 ≤ d) {M : pM} {a1 : Int} {a2 : Int} (hM : gM gAll M) (h1 : -2147483648 ≤ a1 ∧ a1 ≤ 2147483647) (h2 : -2147483648 ≤ a2 ∧ a2 ≤ 2147483647) (p0 : 7 ≤ M 7 10 ∧ M 7 10 ≤ 7) : ∃ z M', xF d 25 [.inr 2, .inl a1, .inl a2] M = rI z M' ∧ ((-1 ≤ z ∧ z ≤ -1) ∨ (-2 ≤ z ∧ z ≤ -2) ∨ (-3 ≤ z ∧ z ≤ -3) ∨ (7 ≤ M' 5 1 ∧ M' 5 1 ≤ 7)) := by
  have c0 : cOK gAll (xF d) 25 K_812 := (ct_of (d := d) ct_ok (show K_812 ∈ CT.getD 25 [] from (show CT.getD 25 [] = [K_805, K_806, K_807, K_808, K_809, K_810, K_811, K_812, K_813, K_814, K_815, K_393] from rfl) ▸ by simp) hd)
  obtain ⟨z, M', e, -, -, alt, ha, q, p⟩ := cOK_I c0 (A := [.inr 2, .inl a1, .inl a2]) (show aF2 gW [aRef 2, (0, -2147483648, 2147483647, 0, 0, 0), (0, -2147483648, 2147483647, 0, 0, 0)] [.inr 2, .inl a1, .inl a2] from ⟨gW_o, gW_i h1.1 h1.2, gW_i h2.1 h2.2, trivial⟩) hM (show gP0 [(7, 10, (0, 7, 7, 0, 0, 0))] M from fun e he => by
    simp only [List.mem_cons, List.not_mem_nil, or_false] at he
    rcases he with rfl
    · exact gR_i p0.1 p0.2) rfl
  refine ⟨z, M', e, ?_⟩
  have ha : alt ∈ [(some (0, -1, -1, 0, 0, 0), [], [(7, 10, (0, 7, 7, 0, 0, 0))]), (some (0, -2, -2, 0, 0, 0), [(4, 0, 0, 0, 0, 0), (0, 0, 5, 0, 0, 0), (0, 0, 99, 0, 0, 0)], [(7, 9, (0, 1, 6, 0, 0, 0)), (7, 10, (0, 7, 7, 0, 0, 0))]), (some (0, -3, -3, 0, 0, 0), [(4, 0, 0, 0, 0, 0), (0, 0, 5, 0, 0, 0), (0, 0, 99, 0, 0, 0)], [(7, 9, (0, 1, 6, 0, 0, 0)), (7, 10, (0, 7, 7, 0, 0, 0))]), (some (1, 0, 0, 0, 0, 0), [(4, 0, 0, 0, 0, 0), (0, 0, 5, 0, 0, 0), (0, 0, 99, 0, 0, 0)], [(5, 1, (0, 7, 7, 0, 0, 0)), (6, 6, (0, -2147483648, 2147483647, 0, 0, 0)), (7, 9, (0, 1, 6, 0, 0, 0)), (7, 10, (0, 7, 7, 0, 0, 0))])] := ha
  simp only [List.mem_cons, List.not_mem_nil, or_false] at ha
  rcases ha with rfl | rfl | rfl | rfl
  · obtain ⟨z2, e2, r⟩ := gW_int (show gW _ _ from q) (Nat.le_of_ble_eq_true rfl)
    cases e2
    have := gR0 r
    exact Or.inl ⟨this.1, this.2⟩
  · obtain ⟨z2, e2, r⟩ := gW_int (show gW _ _ from q) (Nat.le_of_ble_eq_true rfl)
    cases e2
    have := gR0 r
    exact Or.inr (Or.inl ⟨this.1, this.2⟩)
  · obtain ⟨z2, e2, r⟩ := gW_int (show gW _ _ from q) (Nat.le_of_ble_eq_true rfl)
    cases e2
    have := gR0 r
    exact Or.inr (Or.inr (Or.inl ⟨this.1, this.2⟩))
  · have w := gR0 (show gR (0, 7, 7, 0, 0, 0) (M' 5 1) from (p _ List.mem_cons_self).1)
    exact Or.inr (Or.inr (Or.inr ⟨w.1, w.2⟩))
theorem nt_X_guest_8 {d : Nat} (hd : 6 ≤ d) {M : pM} {a1 : Int} {a2 : Int} (hM : gM gAll M) (h1 : -2147483648 ≤ a1 ∧ a1 ≤ 2147483647) (h2 : -2147483648 ≤ a2 ∧ a2 ≤ 2147483647) (p0 : 8 ≤ M 7 10 ∧ M 7 10 ≤ 8) : ∃ z M', xF d 25 [.inr 2, .inl a1, .inl a2] M = rI z M' ∧ ((-1 ≤ z ∧ z ≤ -1) ∨ (-2 ≤ z ∧ z ≤ -2) ∨ (-3 ≤ z ∧ z ≤ -3) ∨ (8 ≤ M' 5 1 ∧ M' 5 1 ≤ 8)) := by
  have c0 : cOK gAll (xF d) 25 K_813 := (ct_of (d := d) ct_ok (show K_813 ∈ CT.getD 25 [] from (show CT.getD 25 [] = [K_805, K_806, K_807, K_808, K_809, K_810, K_811, K_812, K_813, K_814, K_815, K_393] from rfl) ▸ by simp) hd)
  obtain ⟨z, M', e, -, -, alt, ha, q, p⟩ := cOK_I c0 (A := [.inr 2, .inl a1, .inl a2]) (show aF2 gW [aRef 2, (0, -2147483648, 2147483647, 0, 0, 0), (0, -2147483648, 2147483647, 0, 0, 0)] [.inr 2, .inl a1, .inl a2] from ⟨gW_o, gW_i h1.1 h1.2, gW_i h2.1 h2.2, trivial⟩) hM (show gP0 [(7, 10, (0, 8, 8, 0, 0, 0))] M from fun e he => by
    simp only [List.mem_cons, List.not_mem_nil, or_false] at he
    rcases he with rfl
    · exact gR_i p0.1 p0.2) rfl
  refine ⟨z, M', e, ?_⟩
  have ha : alt ∈ [(some (0, -1, -1, 0, 0, 0), [], [(7, 10, (0, 8, 8, 0, 0, 0))]), (some (0, -2, -2, 0, 0, 0), [(4, 0, 0, 0, 0, 0), (0, 0, 5, 0, 0, 0), (0, 0, 99, 0, 0, 0)], [(7, 9, (0, 1, 6, 0, 0, 0)), (7, 10, (0, 8, 8, 0, 0, 0))]), (some (0, -3, -3, 0, 0, 0), [(4, 0, 0, 0, 0, 0), (0, 0, 5, 0, 0, 0), (0, 0, 99, 0, 0, 0)], [(7, 9, (0, 1, 6, 0, 0, 0)), (7, 10, (0, 8, 8, 0, 0, 0))]), (some (1, 0, 0, 0, 0, 0), [(4, 0, 0, 0, 0, 0), (0, 0, 5, 0, 0, 0), (0, 0, 99, 0, 0, 0)], [(5, 1, (0, 8, 8, 0, 0, 0)), (6, 7, (0, -2147483648, 2147483647, 0, 0, 0)), (7, 9, (0, 1, 6, 0, 0, 0)), (7, 10, (0, 8, 8, 0, 0, 0))])] := ha
  simp only [List.mem_cons, List.not_mem_nil, or_false] at ha
  rcases ha with rfl | rfl | rfl | rfl
  · obtain ⟨z2, e2, r⟩ := gW_int (show gW _ _ from q) (Nat.le_of_ble_eq_true rfl)
    cases e2
    have := gR0 r
    exact Or.inl ⟨this.1, this.2⟩
  · obtain ⟨z2, e2, r⟩ := gW_int (show gW _ _ from q) (Nat.le_of_ble_eq_true rfl)
    cases e2
    have := gR0 r
    exact Or.inr (Or.inl ⟨this.1, this.2⟩)
  · obtain ⟨z2, e2, r⟩ := gW_int (show gW _ _ from q) (Nat.le_of_ble_eq_true rfl)
    cases e2
    have := gR0 r
    exact Or.inr (Or.inr (Or.inl ⟨this.1, this.2⟩))
  · have w := gR0 (show gR (0, 8, 8, 0, 0, 0) (M' 5 1) from (p _ List.mem_cons_self).1)
    exact Or.inr (Or.inr (Or.inr ⟨w.1, w.2⟩))
theorem nt_X_guest_9 {d : Nat} (hd : 6 ≤ d) {M : pM} {a1 : Int} {a2 : Int} (hM : gM gAll M) (h1 : -2147483648 ≤ a1 ∧ a1 ≤ 2147483647) (h2 : -2147483648 ≤ a2 ∧ a2 ≤ 2147483647) (p0 : 9 ≤ M 7 10 ∧ M 7 10 ≤ 9) : ∃ z M', xF d 25 [.inr 2, .inl a1, .inl a2] M = rI z M' ∧ ((-1 ≤ z ∧ z ≤ -1) ∨ (-2 ≤ z ∧ z ≤ -2) ∨ (-3 ≤ z ∧ z ≤ -3) ∨ (9 ≤ M' 5 1 ∧ M' 5 1 ≤ 9)) := by
  have c0 : cOK gAll (xF d) 25 K_814 := (ct_of (d := d) ct_ok (show K_814 ∈ CT.getD 25 [] from (show CT.getD 25 [] = [K_805, K_806, K_807, K_808, K_809, K_810, K_811, K_812, K_813, K_814, K_815, K_393] from rfl) ▸ by simp) hd)
  obtain ⟨z, M', e, -, -, alt, ha, q, p⟩ := cOK_I c0 (A := [.inr 2, .inl a1, .inl a2]) (show aF2 gW [aRef 2, (0, -2147483648, 2147483647, 0, 0, 0), (0, -2147483648, 2147483647, 0, 0, 0)] [.inr 2, .inl a1, .inl a2] from ⟨gW_o, gW_i h1.1 h1.2, gW_i h2.1 h2.2, trivial⟩) hM (show gP0 [(7, 10, (0, 9, 9, 0, 0, 0))] M from fun e he => by
    simp only [List.mem_cons, List.not_mem_nil, or_false] at he
    rcases he with rfl
    · exact gR_i p0.1 p0.2) rfl
  refine ⟨z, M', e, ?_⟩
  have ha : alt ∈ [(some (0, -1, -1, 0, 0, 0), [], [(7, 10, (0, 9, 9, 0, 0, 0))]), (some (0, -2, -2, 0, 0, 0), [(4, 0, 0, 0, 0, 0), (0, 0, 5, 0, 0, 0), (0, 0, 99, 0, 0, 0)], [(7, 9, (0, 1, 6, 0, 0, 0)), (7, 10, (0, 9, 9, 0, 0, 0))]), (some (0, -3, -3, 0, 0, 0), [(4, 0, 0, 0, 0, 0), (0, 0, 5, 0, 0, 0), (0, 0, 99, 0, 0, 0)], [(7, 9, (0, 1, 6, 0, 0, 0)), (7, 10, (0, 9, 9, 0, 0, 0))]), (some (1, 0, 0, 0, 0, 0), [(4, 0, 0, 0, 0, 0), (0, 0, 5, 0, 0, 0), (0, 0, 99, 0, 0, 0)], [(5, 1, (0, 9, 9, 0, 0, 0)), (6, 8, (0, -2147483648, 2147483647, 0, 0, 0)), (7, 9, (0, 1, 6, 0, 0, 0)), (7, 10, (0, 9, 9, 0, 0, 0))])] := ha
  simp only [List.mem_cons, List.not_mem_nil, or_false] at ha
  rcases ha with rfl | rfl | rfl | rfl
  · obtain ⟨z2, e2, r⟩ := gW_int (show gW _ _ from q) (Nat.le_of_ble_eq_true rfl)
    cases e2
    have := gR0 r
    exact Or.inl ⟨this.1, this.2⟩
  · obtain ⟨z2, e2, r⟩ := gW_int (show gW _ _ from q) (Nat.le_of_ble_eq_true rfl)
    cases e2
    have := gR0 r
    exact Or.inr (Or.inl ⟨this.1, this.2⟩)
  · obtain ⟨z2, e2, r⟩ := gW_int (show gW _ _ from q) (Nat.le_of_ble_eq_true rfl)
    cases e2
    have := gR0 r
    exact Or.inr (Or.inr (Or.inl ⟨this.1, this.2⟩))
  · have w := gR0 (show gR (0, 9, 9, 0, 0, 0) (M' 5 1) from (p _ List.mem_cons_self).1)
    exact Or.inr (Or.inr (Or.inr ⟨w.1, w.2⟩))
theorem nt_X_guest_10 {d : Nat} (hd : 6 ≤ d) {M : pM} {a1 : Int} {a2 : Int} (hM : gM gAll M) (h1 : -2147483648 ≤ a1 ∧ a1 ≤ 2147483647) (h2 : -2147483648 ≤ a2 ∧ a2 ≤ 2147483647) (p0 : 10 ≤ M 7 10 ∧ M 7 10 ≤ 10) : ∃ z M', xF d 25 [.inr 2, .inl a1, .inl a2] M = rI z M' ∧ ((-1 ≤ z ∧ z ≤ -1) ∨ (-2 ≤ z ∧ z ≤ -2) ∨ (-3 ≤ z ∧ z ≤ -3) ∨ (10 ≤ M' 5 1 ∧ M' 5 1 ≤ 10)) := by
  have c0 : cOK gAll (xF d) 25 K_815 := (ct_of (d := d) ct_ok (show K_815 ∈ CT.getD 25 [] from (show CT.getD 25 [] = [K_805, K_806, K_807, K_808, K_809, K_810, K_811, K_812, K_813, K_814, K_815, K_393] from rfl) ▸ by simp) hd)
  obtain ⟨z, M', e, -, -, alt, ha, q, p⟩ := cOK_I c0 (A := [.inr 2, .inl a1, .inl a2]) (show aF2 gW [aRef 2, (0, -2147483648, 2147483647, 0, 0, 0), (0, -2147483648, 2147483647, 0, 0, 0)] [.inr 2, .inl a1, .inl a2] from ⟨gW_o, gW_i h1.1 h1.2, gW_i h2.1 h2.2, trivial⟩) hM (show gP0 [(7, 10, (0, 10, 10, 0, 0, 0))] M from fun e he => by
    simp only [List.mem_cons, List.not_mem_nil, or_false] at he
    rcases he with rfl
    · exact gR_i p0.1 p0.2) rfl
  refine ⟨z, M', e, ?_⟩
  have ha : alt ∈ [(some (0, -1, -1, 0, 0, 0), [], [(7, 10, (0, 10, 10, 0, 0, 0))]), (some (0, -2, -2, 0, 0, 0), [(4, 0, 0, 0, 0, 0), (0, 0, 5, 0, 0, 0), (0, 0, 99, 0, 0, 0)], [(7, 9, (0, 1, 6, 0, 0, 0)), (7, 10, (0, 10, 10, 0, 0, 0))]), (some (0, -3, -3, 0, 0, 0), [(4, 0, 0, 0, 0, 0), (0, 0, 5, 0, 0, 0), (0, 0, 99, 0, 0, 0)], [(7, 9, (0, 1, 6, 0, 0, 0)), (7, 10, (0, 10, 10, 0, 0, 0))]), (some (1, 0, 0, 0, 0, 0), [(4, 0, 0, 0, 0, 0), (0, 0, 5, 0, 0, 0), (0, 0, 99, 0, 0, 0)], [(5, 1, (0, 10, 10, 0, 0, 0)), (6, 9, (0, -2147483648, 2147483647, 0, 0, 0)), (7, 9, (0, 1, 6, 0, 0, 0)), (7, 10, (0, 10, 10, 0, 0, 0))])] := ha
  simp only [List.mem_cons, List.not_mem_nil, or_false] at ha
  rcases ha with rfl | rfl | rfl | rfl
  · obtain ⟨z2, e2, r⟩ := gW_int (show gW _ _ from q) (Nat.le_of_ble_eq_true rfl)
    cases e2
    have := gR0 r
    exact Or.inl ⟨this.1, this.2⟩
  · obtain ⟨z2, e2, r⟩ := gW_int (show gW _ _ from q) (Nat.le_of_ble_eq_true rfl)
    cases e2
    have := gR0 r
    exact Or.inr (Or.inl ⟨this.1, this.2⟩)
  · obtain ⟨z2, e2, r⟩ := gW_int (show gW _ _ from q) (Nat.le_of_ble_eq_true rfl)
    cases e2
    have := gR0 r
    exact Or.inr (Or.inr (Or.inl ⟨this.1, this.2⟩))
  · have w := gR0 (show gR (0, 10, 10, 0, 0, 0) (M' 5 1) from (p _ List.mem_cons_self).1)
    exact Or.inr (Or.inr (Or.inr ⟨w.1, w.2⟩))
theorem nt_X_guest {d : Nat} (hd : 6 ≤ d) {M M' : pM} {a1 : Int} {a2 : Int} {v : Int} (hM : gM gAll M) (h1 : -2147483648 ≤ a1 ∧ a1 ≤ 2147483647) (h2 : -2147483648 ≤ a2 ∧ a2 ≤ 2147483647) {n : Nat} (hn : n ≤ 10) (hc : M 7 10 = (n : Int)) (e : xF d 25 [.inr 2, .inl a1, .inl a2] M = rI v M') : (-1 ≤ v ∧ v ≤ -1) ∨ (-2 ≤ v ∧ v ≤ -2) ∨ (-3 ≤ v ∧ v ≤ -3) ∨ (M' 5 1 = (n : Int)) := by
  rcases (show n = 0 ∨ n = 1 ∨ n = 2 ∨ n = 3 ∨ n = 4 ∨ n = 5 ∨ n = 6 ∨ n = 7 ∨ n = 8 ∨ n = 9 ∨ n = 10 by omega) with rfl | rfl | rfl | rfl | rfl | rfl | rfl | rfl | rfl | rfl | rfl
  · obtain ⟨z, M2, e2, r⟩ := nt_X_guest_0 (d := d) (by omega) hM h1 h2 (by omega)
    obtain ⟨y1, y2⟩ := rI_inj (e.symm.trans e2)
    rw [y1, y2]
    rcases r with r | r | r | r
    · exact Or.inl (by omega)
    · exact Or.inr (Or.inl (by omega))
    · exact Or.inr (Or.inr (Or.inl (by omega)))
    · exact Or.inr (Or.inr (Or.inr ((by omega))))
  · obtain ⟨z, M2, e2, r⟩ := nt_X_guest_1 (d := d) (by omega) hM h1 h2 (by omega)
    obtain ⟨y1, y2⟩ := rI_inj (e.symm.trans e2)
    rw [y1, y2]
    rcases r with r | r | r | r
    · exact Or.inl (by omega)
    · exact Or.inr (Or.inl (by omega))
    · exact Or.inr (Or.inr (Or.inl (by omega)))
    · exact Or.inr (Or.inr (Or.inr ((by omega))))
  · obtain ⟨z, M2, e2, r⟩ := nt_X_guest_2 (d := d) (by omega) hM h1 h2 (by omega)
    obtain ⟨y1, y2⟩ := rI_inj (e.symm.trans e2)
    rw [y1, y2]
    rcases r with r | r | r | r
    · exact Or.inl (by omega)
    · exact Or.inr (Or.inl (by omega))
    · exact Or.inr (Or.inr (Or.inl (by omega)))
    · exact Or.inr (Or.inr (Or.inr ((by omega))))
  · obtain ⟨z, M2, e2, r⟩ := nt_X_guest_3 (d := d) (by omega) hM h1 h2 (by omega)
    obtain ⟨y1, y2⟩ := rI_inj (e.symm.trans e2)
    rw [y1, y2]
    rcases r with r | r | r | r
    · exact Or.inl (by omega)
    · exact Or.inr (Or.inl (by omega))
    · exact Or.inr (Or.inr (Or.inl (by omega)))
    · exact Or.inr (Or.inr (Or.inr ((by omega))))
  · obtain ⟨z, M2, e2, r⟩ := nt_X_guest_4 (d := d) (by omega) hM h1 h2 (by omega)
    obtain ⟨y1, y2⟩ := rI_inj (e.symm.trans e2)
    rw [y1, y2]
    rcases r with r | r | r | r
    · exact Or.inl (by omega)
    · exact Or.inr (Or.inl (by omega))
    · exact Or.inr (Or.inr (Or.inl (by omega)))
    · exact Or.inr (Or.inr (Or.inr ((by omega))))
  · obtain ⟨z, M2, e2, r⟩ := nt_X_guest_5 (d := d) (by omega) hM h1 h2 (by omega)
    obtain ⟨y1, y2⟩ := rI_inj (e.symm.trans e2)
    rw [y1, y2]
    rcases r with r | r | r | r
    · exact Or.inl (by omega)
    · exact Or.inr (Or.inl (by omega))
    · exact Or.inr (Or.inr (Or.inl (by omega)))
    · exact Or.inr (Or.inr (Or.inr ((by omega))))
  · obtain ⟨z, M2, e2, r⟩ := nt_X_guest_6 (d := d) (by omega) hM h1 h2 (by omega)
    obtain ⟨y1, y2⟩ := rI_inj (e.symm.trans e2)
    rw [y1, y2]
    rcases r with r | r | r | r
    · exact Or.inl (by omega)
    · exact Or.inr (Or.inl (by omega))
    · exact Or.inr (Or.inr (Or.inl (by omega)))
    · exact Or.inr (Or.inr (Or.inr ((by omega))))
  · obtain ⟨z, M2, e2, r⟩ := nt_X_guest_7 (d := d) (by omega) hM h1 h2 (by omega)
    obtain ⟨y1, y2⟩ := rI_inj (e.symm.trans e2)
    rw [y1, y2]
    rcases r with r | r | r | r
    · exact Or.inl (by omega)
    · exact Or.inr (Or.inl (by omega))
    · exact Or.inr (Or.inr (Or.inl (by omega)))
    · exact Or.inr (Or.inr (Or.inr ((by omega))))
  · obtain ⟨z, M2, e2, r⟩ := nt_X_guest_8 (d := d) (by omega) hM h1 h2 (by omega)
    obtain ⟨y1, y2⟩ := rI_inj (e.symm.trans e2)
    rw [y1, y2]
    rcases r with r | r | r | r
    · exact Or.inl (by omega)
    · exact Or.inr (Or.inl (by omega))
    · exact Or.inr (Or.inr (Or.inl (by omega)))
    · exact Or.inr (Or.inr (Or.inr ((by omega))))
  · obtain ⟨z, M2, e2, r⟩ := nt_X_guest_9 (d := d) (by omega) hM h1 h2 (by omega)
    obtain ⟨y1, y2⟩ := rI_inj (e.symm.trans e2)
    rw [y1, y2]
    rcases r with r | r | r | r
    · exact Or.inl (by omega)
    · exact Or.inr (Or.inl (by omega))
    · exact Or.inr (Or.inr (Or.inl (by omega)))
    · exact Or.inr (Or.inr (Or.inr ((by omega))))
  · obtain ⟨z, M2, e2, r⟩ := nt_X_guest_10 (d := d) (by omega) hM h1 h2 (by omega)
    obtain ⟨y1, y2⟩ := rI_inj (e.symm.trans e2)
    rw [y1, y2]
    rcases r with r | r | r | r
    · exact Or.inl (by omega)
    · exact Or.inr (Or.inl (by omega))
    · exact Or.inr (Or.inr (Or.inl (by omega)))
    · exact Or.inr (Or.inr (Or.inr ((by omega))))
theorem nt_X_evenings_0 {d : Nat} (hd : 8 ≤ d) {M : pM} (hM : gM gAll M) (p0 : 0 ≤ M 7 10 ∧ M 7 10 ≤ 0) : ∃ z M', xF d 41 [.inr 2] M = rI z M' ∧ ((-4 ≤ z ∧ z ≤ -4)) := by
  have c0 : cOK gAll (xF d) 41 K_816 := (ct_of (d := d) ct_ok (show K_816 ∈ CT.getD 41 [] from (show CT.getD 41 [] = [K_816, K_727, K_729, K_731, K_733, K_735, K_737, K_739, K_741, K_743, K_745, K_747, K_749, K_817, K_818, K_819, K_820, K_821, K_822, K_823, K_824, K_825, K_826, K_460] from rfl) ▸ by simp) hd)
  obtain ⟨z, M', e, -, -, alt, ha, q, p⟩ := cOK_I c0 (A := [.inr 2]) (show aF2 gW [aRef 2] [.inr 2] from ⟨gW_o, trivial⟩) hM (show gP0 [(7, 10, (0, 0, 0, 0, 0, 0))] M from fun e he => by
    simp only [List.mem_cons, List.not_mem_nil, or_false] at he
    rcases he with rfl
    · exact gR_i p0.1 p0.2) rfl
  refine ⟨z, M', e, ?_⟩
  have ha : alt ∈ [(some (0, -4, -4, 0, 0, 0), [], [(7, 10, (0, 0, 0, 0, 0, 0))])] := ha
  simp only [List.mem_cons, List.not_mem_nil, or_false] at ha
  rcases ha with rfl
  · obtain ⟨z2, e2, r⟩ := gW_int (show gW _ _ from q) (Nat.le_of_ble_eq_true rfl)
    cases e2
    have := gR0 r
    exact ⟨this.1, this.2⟩
theorem nt_X_evenings_1 {d : Nat} (hd : 8 ≤ d) {M : pM} (hM : gM gAll M) (p0 : 1 ≤ M 7 10 ∧ M 7 10 ≤ 1) : ∃ z M', xF d 41 [.inr 2] M = rI z M' ∧ ((-2 ≤ z ∧ z ≤ -2) ∨ (-3 ≤ z ∧ z ≤ -3) ∨ (-4 ≤ z ∧ z ≤ -4) ∨ (0 ≤ z ∧ z ≤ 0 ∧ 1 ≤ M' 5 1 ∧ M' 5 1 ≤ 1) ∨ (1 ≤ z ∧ z ≤ 300 ∧ 2 ≤ M' 5 1 ∧ M' 5 1 ≤ 2)) := by
  have c0 : cOK gAll (xF d) 41 K_817 := (ct_of (d := d) ct_ok (show K_817 ∈ CT.getD 41 [] from (show CT.getD 41 [] = [K_816, K_727, K_729, K_731, K_733, K_735, K_737, K_739, K_741, K_743, K_745, K_747, K_749, K_817, K_818, K_819, K_820, K_821, K_822, K_823, K_824, K_825, K_826, K_460] from rfl) ▸ by simp) hd)
  obtain ⟨z, M', e, -, -, alt, ha, q, p⟩ := cOK_I c0 (A := [.inr 2]) (show aF2 gW [aRef 2] [.inr 2] from ⟨gW_o, trivial⟩) hM (show gP0 [(7, 10, (0, 1, 1, 0, 0, 0))] M from fun e he => by
    simp only [List.mem_cons, List.not_mem_nil, or_false] at he
    rcases he with rfl
    · exact gR_i p0.1 p0.2) rfl
  refine ⟨z, M', e, ?_⟩
  have ha : alt ∈ [(some (0, -2, -2, 0, 0, 0), [], [(0, 14, (0, 1, 10, 0, 0, 0)), (7, 10, (0, 1, 1, 0, 0, 0))]), (some (0, -3, -3, 0, 0, 0), [], [(0, 14, (0, 1, 10, 0, 0, 0)), (7, 10, (0, 1, 1, 0, 0, 0))]), (some (0, -4, -4, 0, 0, 0), [], [(7, 10, (0, 1, 1, 0, 0, 0))]), (some (0, 0, 0, 0, 0, 0), [], [(0, 14, (0, 1, 10, 0, 0, 0)), (5, 1, (0, 1, 1, 0, 0, 0)), (6, 0, (0, -2147483648, 2147483647, 0, 0, 0)), (7, 10, (0, 1, 1, 0, 0, 0))]), (some (0, 1, 300, 0, 0, 0), [], [(0, 14, (0, 1, 10, 0, 0, 0)), (5, 1, (0, 2, 2, 0, 0, 0)), (6, 1, (0, -2147483648, 2147483647, 0, 0, 0)), (7, 10, (0, 1, 1, 0, 0, 0)), (52, 5, (0, 1, 300, 0, 0, 0)), (52, 7, (0, 0, 299, 0, 0, 0)), (52, 9, (0, 0, 299, 0, 0, 0))])] := ha
  simp only [List.mem_cons, List.not_mem_nil, or_false] at ha
  rcases ha with rfl | rfl | rfl | rfl | rfl
  · obtain ⟨z2, e2, r⟩ := gW_int (show gW _ _ from q) (Nat.le_of_ble_eq_true rfl)
    cases e2
    have := gR0 r
    exact Or.inl ⟨this.1, this.2⟩
  · obtain ⟨z2, e2, r⟩ := gW_int (show gW _ _ from q) (Nat.le_of_ble_eq_true rfl)
    cases e2
    have := gR0 r
    exact Or.inr (Or.inl ⟨this.1, this.2⟩)
  · obtain ⟨z2, e2, r⟩ := gW_int (show gW _ _ from q) (Nat.le_of_ble_eq_true rfl)
    cases e2
    have := gR0 r
    exact Or.inr (Or.inr (Or.inl ⟨this.1, this.2⟩))
  · obtain ⟨z2, e2, r⟩ := gW_int (show gW _ _ from q) (Nat.le_of_ble_eq_true rfl)
    cases e2
    have := gR0 r
    have w := gR0 (show gR (0, 1, 1, 0, 0, 0) (M' 5 1) from (p _ (List.mem_cons_of_mem _ List.mem_cons_self)).1)
    exact Or.inr (Or.inr (Or.inr (Or.inl ⟨this.1, this.2, w.1, w.2⟩)))
  · obtain ⟨z2, e2, r⟩ := gW_int (show gW _ _ from q) (Nat.le_of_ble_eq_true rfl)
    cases e2
    have := gR0 r
    have w := gR0 (show gR (0, 2, 2, 0, 0, 0) (M' 5 1) from (p _ (List.mem_cons_of_mem _ List.mem_cons_self)).1)
    exact Or.inr (Or.inr (Or.inr (Or.inr ⟨this.1, this.2, w.1, w.2⟩)))
theorem nt_X_evenings_2 {d : Nat} (hd : 8 ≤ d) {M : pM} (hM : gM gAll M) (p0 : 2 ≤ M 7 10 ∧ M 7 10 ≤ 2) : ∃ z M', xF d 41 [.inr 2] M = rI z M' ∧ ((-2 ≤ z ∧ z ≤ -2) ∨ (-3 ≤ z ∧ z ≤ -3) ∨ (-4 ≤ z ∧ z ≤ -4) ∨ (0 ≤ z ∧ z ≤ 0 ∧ 1 ≤ M' 5 1 ∧ M' 5 1 ≤ 1) ∨ (1 ≤ z ∧ z ≤ 300 ∧ 3 ≤ M' 5 1 ∧ M' 5 1 ≤ 3)) := by
  have c0 : cOK gAll (xF d) 41 K_818 := (ct_of (d := d) ct_ok (show K_818 ∈ CT.getD 41 [] from (show CT.getD 41 [] = [K_816, K_727, K_729, K_731, K_733, K_735, K_737, K_739, K_741, K_743, K_745, K_747, K_749, K_817, K_818, K_819, K_820, K_821, K_822, K_823, K_824, K_825, K_826, K_460] from rfl) ▸ by simp) hd)
  obtain ⟨z, M', e, -, -, alt, ha, q, p⟩ := cOK_I c0 (A := [.inr 2]) (show aF2 gW [aRef 2] [.inr 2] from ⟨gW_o, trivial⟩) hM (show gP0 [(7, 10, (0, 2, 2, 0, 0, 0))] M from fun e he => by
    simp only [List.mem_cons, List.not_mem_nil, or_false] at he
    rcases he with rfl
    · exact gR_i p0.1 p0.2) rfl
  refine ⟨z, M', e, ?_⟩
  have ha : alt ∈ [(some (0, -2, -2, 0, 0, 0), [], [(0, 14, (0, 1, 10, 0, 0, 0)), (7, 10, (0, 2, 2, 0, 0, 0))]), (some (0, -3, -3, 0, 0, 0), [], [(0, 14, (0, 1, 10, 0, 0, 0)), (7, 10, (0, 2, 2, 0, 0, 0))]), (some (0, -4, -4, 0, 0, 0), [], [(7, 10, (0, 2, 2, 0, 0, 0))]), (some (0, 0, 0, 0, 0, 0), [], [(0, 14, (0, 1, 10, 0, 0, 0)), (5, 1, (0, 1, 1, 0, 0, 0)), (6, 0, (0, -2147483648, 2147483647, 0, 0, 0)), (7, 10, (0, 2, 2, 0, 0, 0))]), (some (0, 1, 300, 0, 0, 0), [], [(0, 14, (0, 1, 10, 0, 0, 0)), (5, 1, (0, 3, 3, 0, 0, 0)), (6, 2, (0, -2147483648, 2147483647, 0, 0, 0)), (7, 10, (0, 2, 2, 0, 0, 0)), (52, 5, (0, 1, 300, 0, 0, 0)), (52, 7, (0, 0, 299, 0, 0, 0)), (52, 9, (0, 0, 299, 0, 0, 0))])] := ha
  simp only [List.mem_cons, List.not_mem_nil, or_false] at ha
  rcases ha with rfl | rfl | rfl | rfl | rfl
  · obtain ⟨z2, e2, r⟩ := gW_int (show gW _ _ from q) (Nat.le_of_ble_eq_true rfl)
    cases e2
    have := gR0 r
    exact Or.inl ⟨this.1, this.2⟩
  · obtain ⟨z2, e2, r⟩ := gW_int (show gW _ _ from q) (Nat.le_of_ble_eq_true rfl)
    cases e2
    have := gR0 r
    exact Or.inr (Or.inl ⟨this.1, this.2⟩)
  · obtain ⟨z2, e2, r⟩ := gW_int (show gW _ _ from q) (Nat.le_of_ble_eq_true rfl)
    cases e2
    have := gR0 r
    exact Or.inr (Or.inr (Or.inl ⟨this.1, this.2⟩))
  · obtain ⟨z2, e2, r⟩ := gW_int (show gW _ _ from q) (Nat.le_of_ble_eq_true rfl)
    cases e2
    have := gR0 r
    have w := gR0 (show gR (0, 1, 1, 0, 0, 0) (M' 5 1) from (p _ (List.mem_cons_of_mem _ List.mem_cons_self)).1)
    exact Or.inr (Or.inr (Or.inr (Or.inl ⟨this.1, this.2, w.1, w.2⟩)))
  · obtain ⟨z2, e2, r⟩ := gW_int (show gW _ _ from q) (Nat.le_of_ble_eq_true rfl)
    cases e2
    have := gR0 r
    have w := gR0 (show gR (0, 3, 3, 0, 0, 0) (M' 5 1) from (p _ (List.mem_cons_of_mem _ List.mem_cons_self)).1)
    exact Or.inr (Or.inr (Or.inr (Or.inr ⟨this.1, this.2, w.1, w.2⟩)))
theorem nt_X_evenings_3 {d : Nat} (hd : 8 ≤ d) {M : pM} (hM : gM gAll M) (p0 : 3 ≤ M 7 10 ∧ M 7 10 ≤ 3) : ∃ z M', xF d 41 [.inr 2] M = rI z M' ∧ ((-2 ≤ z ∧ z ≤ -2) ∨ (-3 ≤ z ∧ z ≤ -3) ∨ (-4 ≤ z ∧ z ≤ -4) ∨ (0 ≤ z ∧ z ≤ 0 ∧ 1 ≤ M' 5 1 ∧ M' 5 1 ≤ 1) ∨ (1 ≤ z ∧ z ≤ 300 ∧ 4 ≤ M' 5 1 ∧ M' 5 1 ≤ 4)) := by
  have c0 : cOK gAll (xF d) 41 K_819 := (ct_of (d := d) ct_ok (show K_819 ∈ CT.getD 41 [] from (show CT.getD 41 [] = [K_816, K_727, K_729, K_731, K_733, K_735, K_737, K_739, K_741, K_743, K_745, K_747, K_749, K_817, K_818, K_819, K_820, K_821, K_822, K_823, K_824, K_825, K_826, K_460] from rfl) ▸ by simp) hd)
  obtain ⟨z, M', e, -, -, alt, ha, q, p⟩ := cOK_I c0 (A := [.inr 2]) (show aF2 gW [aRef 2] [.inr 2] from ⟨gW_o, trivial⟩) hM (show gP0 [(7, 10, (0, 3, 3, 0, 0, 0))] M from fun e he => by
    simp only [List.mem_cons, List.not_mem_nil, or_false] at he
    rcases he with rfl
    · exact gR_i p0.1 p0.2) rfl
  refine ⟨z, M', e, ?_⟩
  have ha : alt ∈ [(some (0, -2, -2, 0, 0, 0), [], [(0, 14, (0, 1, 10, 0, 0, 0)), (7, 10, (0, 3, 3, 0, 0, 0))]), (some (0, -3, -3, 0, 0, 0), [], [(0, 14, (0, 1, 10, 0, 0, 0)), (7, 10, (0, 3, 3, 0, 0, 0))]), (some (0, -4, -4, 0, 0, 0), [], [(7, 10, (0, 3, 3, 0, 0, 0))]), (some (0, 0, 0, 0, 0, 0), [], [(0, 14, (0, 1, 10, 0, 0, 0)), (5, 1, (0, 1, 1, 0, 0, 0)), (6, 0, (0, -2147483648, 2147483647, 0, 0, 0)), (7, 10, (0, 3, 3, 0, 0, 0))]), (some (0, 1, 300, 0, 0, 0), [], [(0, 14, (0, 1, 10, 0, 0, 0)), (5, 1, (0, 4, 4, 0, 0, 0)), (6, 3, (0, -2147483648, 2147483647, 0, 0, 0)), (7, 10, (0, 3, 3, 0, 0, 0)), (52, 5, (0, 1, 300, 0, 0, 0)), (52, 7, (0, 0, 299, 0, 0, 0)), (52, 9, (0, 0, 299, 0, 0, 0))])] := ha
  simp only [List.mem_cons, List.not_mem_nil, or_false] at ha
  rcases ha with rfl | rfl | rfl | rfl | rfl
  · obtain ⟨z2, e2, r⟩ := gW_int (show gW _ _ from q) (Nat.le_of_ble_eq_true rfl)
    cases e2
    have := gR0 r
    exact Or.inl ⟨this.1, this.2⟩
  · obtain ⟨z2, e2, r⟩ := gW_int (show gW _ _ from q) (Nat.le_of_ble_eq_true rfl)
    cases e2
    have := gR0 r
    exact Or.inr (Or.inl ⟨this.1, this.2⟩)
  · obtain ⟨z2, e2, r⟩ := gW_int (show gW _ _ from q) (Nat.le_of_ble_eq_true rfl)
    cases e2
    have := gR0 r
    exact Or.inr (Or.inr (Or.inl ⟨this.1, this.2⟩))
  · obtain ⟨z2, e2, r⟩ := gW_int (show gW _ _ from q) (Nat.le_of_ble_eq_true rfl)
    cases e2
    have := gR0 r
    have w := gR0 (show gR (0, 1, 1, 0, 0, 0) (M' 5 1) from (p _ (List.mem_cons_of_mem _ List.mem_cons_self)).1)
    exact Or.inr (Or.inr (Or.inr (Or.inl ⟨this.1, this.2, w.1, w.2⟩)))
  · obtain ⟨z2, e2, r⟩ := gW_int (show gW _ _ from q) (Nat.le_of_ble_eq_true rfl)
    cases e2
    have := gR0 r
    have w := gR0 (show gR (0, 4, 4, 0, 0, 0) (M' 5 1) from (p _ (List.mem_cons_of_mem _ List.mem_cons_self)).1)
    exact Or.inr (Or.inr (Or.inr (Or.inr ⟨this.1, this.2, w.1, w.2⟩)))
theorem nt_X_evenings_4 {d : Nat} (hd : 8 ≤ d) {M : pM} (hM : gM gAll M) (p0 : 4 ≤ M 7 10 ∧ M 7 10 ≤ 4) : ∃ z M', xF d 41 [.inr 2] M = rI z M' ∧ ((-2 ≤ z ∧ z ≤ -2) ∨ (-3 ≤ z ∧ z ≤ -3) ∨ (-4 ≤ z ∧ z ≤ -4) ∨ (0 ≤ z ∧ z ≤ 0 ∧ 1 ≤ M' 5 1 ∧ M' 5 1 ≤ 1) ∨ (1 ≤ z ∧ z ≤ 300 ∧ 5 ≤ M' 5 1 ∧ M' 5 1 ≤ 5)) := by
  have c0 : cOK gAll (xF d) 41 K_820 := (ct_of (d := d) ct_ok (show K_820 ∈ CT.getD 41 [] from (show CT.getD 41 [] = [K_816, K_727, K_729, K_731, K_733, K_735, K_737, K_739, K_741, K_743, K_745, K_747, K_749, K_817, K_818, K_819, K_820, K_821, K_822, K_823, K_824, K_825, K_826, K_460] from rfl) ▸ by simp) hd)
  obtain ⟨z, M', e, -, -, alt, ha, q, p⟩ := cOK_I c0 (A := [.inr 2]) (show aF2 gW [aRef 2] [.inr 2] from ⟨gW_o, trivial⟩) hM (show gP0 [(7, 10, (0, 4, 4, 0, 0, 0))] M from fun e he => by
    simp only [List.mem_cons, List.not_mem_nil, or_false] at he
    rcases he with rfl
    · exact gR_i p0.1 p0.2) rfl
  refine ⟨z, M', e, ?_⟩
  have ha : alt ∈ [(some (0, -2, -2, 0, 0, 0), [], [(0, 14, (0, 1, 10, 0, 0, 0)), (7, 10, (0, 4, 4, 0, 0, 0))]), (some (0, -3, -3, 0, 0, 0), [], [(0, 14, (0, 1, 10, 0, 0, 0)), (7, 10, (0, 4, 4, 0, 0, 0))]), (some (0, -4, -4, 0, 0, 0), [], [(7, 10, (0, 4, 4, 0, 0, 0))]), (some (0, 0, 0, 0, 0, 0), [], [(0, 14, (0, 1, 10, 0, 0, 0)), (5, 1, (0, 1, 1, 0, 0, 0)), (6, 0, (0, -2147483648, 2147483647, 0, 0, 0)), (7, 10, (0, 4, 4, 0, 0, 0))]), (some (0, 1, 300, 0, 0, 0), [], [(0, 14, (0, 1, 10, 0, 0, 0)), (5, 1, (0, 5, 5, 0, 0, 0)), (6, 4, (0, -2147483648, 2147483647, 0, 0, 0)), (7, 10, (0, 4, 4, 0, 0, 0)), (52, 5, (0, 1, 300, 0, 0, 0)), (52, 7, (0, 0, 299, 0, 0, 0)), (52, 9, (0, 0, 299, 0, 0, 0))])] := ha
  simp only [List.mem_cons, List.not_mem_nil, or_false] at ha
  rcases ha with rfl | rfl | rfl | rfl | rfl
  · obtain ⟨z2, e2, r⟩ := gW_int (show gW _ _ from q) (Nat.le_of_ble_eq_true rfl)
    cases e2
    have := gR0 r
    exact Or.inl ⟨this.1, this.2⟩
  · obtain ⟨z2, e2, r⟩ := gW_int (show gW _ _ from q) (Nat.le_of_ble_eq_true rfl)
    cases e2
    have := gR0 r
    exact Or.inr (Or.inl ⟨this.1, this.2⟩)
  · obtain ⟨z2, e2, r⟩ := gW_int (show gW _ _ from q) (Nat.le_of_ble_eq_true rfl)
    cases e2
    have := gR0 r
    exact Or.inr (Or.inr (Or.inl ⟨this.1, this.2⟩))
  · obtain ⟨z2, e2, r⟩ := gW_int (show gW _ _ from q) (Nat.le_of_ble_eq_true rfl)
    cases e2
    have := gR0 r
    have w := gR0 (show gR (0, 1, 1, 0, 0, 0) (M' 5 1) from (p _ (List.mem_cons_of_mem _ List.mem_cons_self)).1)
    exact Or.inr (Or.inr (Or.inr (Or.inl ⟨this.1, this.2, w.1, w.2⟩)))
  · obtain ⟨z2, e2, r⟩ := gW_int (show gW _ _ from q) (Nat.le_of_ble_eq_true rfl)
    cases e2
    have := gR0 r
    have w := gR0 (show gR (0, 5, 5, 0, 0, 0) (M' 5 1) from (p _ (List.mem_cons_of_mem _ List.mem_cons_self)).1)
    exact Or.inr (Or.inr (Or.inr (Or.inr ⟨this.1, this.2, w.1, w.2⟩)))
theorem nt_X_evenings_5 {d : Nat} (hd : 8 ≤ d) {M : pM} (hM : gM gAll M) (p0 : 5 ≤ M 7 10 ∧ M 7 10 ≤ 5) : ∃ z M', xF d 41 [.inr 2] M = rI z M' ∧ ((-2 ≤ z ∧ z ≤ -2) ∨ (-3 ≤ z ∧ z ≤ -3) ∨ (-4 ≤ z ∧ z ≤ -4) ∨ (0 ≤ z ∧ z ≤ 0 ∧ 1 ≤ M' 5 1 ∧ M' 5 1 ≤ 1) ∨ (1 ≤ z ∧ z ≤ 300 ∧ 6 ≤ M' 5 1 ∧ M' 5 1 ≤ 6)) := by
  have c0 : cOK gAll (xF d) 41 K_821 := (ct_of (d := d) ct_ok (show K_821 ∈ CT.getD 41 [] from (show CT.getD 41 [] = [K_816, K_727, K_729, K_731, K_733, K_735, K_737, K_739, K_741, K_743, K_745, K_747, K_749, K_817, K_818, K_819, K_820, K_821, K_822, K_823, K_824, K_825, K_826, K_460] from rfl) ▸ by simp) hd)
  obtain ⟨z, M', e, -, -, alt, ha, q, p⟩ := cOK_I c0 (A := [.inr 2]) (show aF2 gW [aRef 2] [.inr 2] from ⟨gW_o, trivial⟩) hM (show gP0 [(7, 10, (0, 5, 5, 0, 0, 0))] M from fun e he => by
    simp only [List.mem_cons, List.not_mem_nil, or_false] at he
    rcases he with rfl
    · exact gR_i p0.1 p0.2) rfl
  refine ⟨z, M', e, ?_⟩
  have ha : alt ∈ [(some (0, -2, -2, 0, 0, 0), [], [(0, 14, (0, 1, 10, 0, 0, 0)), (7, 10, (0, 5, 5, 0, 0, 0))]), (some (0, -3, -3, 0, 0, 0), [], [(0, 14, (0, 1, 10, 0, 0, 0)), (7, 10, (0, 5, 5, 0, 0, 0))]), (some (0, -4, -4, 0, 0, 0), [], [(7, 10, (0, 5, 5, 0, 0, 0))]), (some (0, 0, 0, 0, 0, 0), [], [(0, 14, (0, 1, 10, 0, 0, 0)), (5, 1, (0, 1, 1, 0, 0, 0)), (6, 0, (0, -2147483648, 2147483647, 0, 0, 0)), (7, 10, (0, 5, 5, 0, 0, 0))]), (some (0, 1, 300, 0, 0, 0), [], [(0, 14, (0, 1, 10, 0, 0, 0)), (5, 1, (0, 6, 6, 0, 0, 0)), (6, 5, (0, -2147483648, 2147483647, 0, 0, 0)), (7, 10, (0, 5, 5, 0, 0, 0)), (52, 5, (0, 1, 300, 0, 0, 0)), (52, 7, (0, 0, 299, 0, 0, 0)), (52, 9, (0, 0, 299, 0, 0, 0))])] := ha
  simp only [List.mem_cons, List.not_mem_nil, or_false] at ha
  rcases ha with rfl | rfl | rfl | rfl | rfl
  · obtain ⟨z2, e2, r⟩ := gW_int (show gW _ _ from q) (Nat.le_of_ble_eq_true rfl)
    cases e2
    have := gR0 r
    exact Or.inl ⟨this.1, this.2⟩
  · obtain ⟨z2, e2, r⟩ := gW_int (show gW _ _ from q) (Nat.le_of_ble_eq_true rfl)
    cases e2
    have := gR0 r
    exact Or.inr (Or.inl ⟨this.1, this.2⟩)
  · obtain ⟨z2, e2, r⟩ := gW_int (show gW _ _ from q) (Nat.le_of_ble_eq_true rfl)
    cases e2
    have := gR0 r
    exact Or.inr (Or.inr (Or.inl ⟨this.1, this.2⟩))
  · obtain ⟨z2, e2, r⟩ := gW_int (show gW _ _ from q) (Nat.le_of_ble_eq_true rfl)
    cases e2
    have := gR0 r
    have w := gR0 (show gR (0, 1, 1, 0, 0, 0) (M' 5 1) from (p _ (List.mem_cons_of_mem _ List.mem_cons_self)).1)
    exact Or.inr (Or.inr (Or.inr (Or.inl ⟨this.1, this.2, w.1, w.2⟩)))
  · obtain ⟨z2, e2, r⟩ := gW_int (show gW _ _ from q) (Nat.le_of_ble_eq_true rfl)
    cases e2
    have := gR0 r
    have w := gR0 (show gR (0, 6, 6, 0, 0, 0) (M' 5 1) from (p _ (List.mem_cons_of_mem _ List.mem_cons_self)).1)
    exact Or.inr (Or.inr (Or.inr (Or.inr ⟨this.1, this.2, w.1, w.2⟩)))
theorem nt_X_evenings_6 {d : Nat} (hd : 8 ≤ d) {M : pM} (hM : gM gAll M) (p0 : 6 ≤ M 7 10 ∧ M 7 10 ≤ 6) : ∃ z M', xF d 41 [.inr 2] M = rI z M' ∧ ((-2 ≤ z ∧ z ≤ -2) ∨ (-3 ≤ z ∧ z ≤ -3) ∨ (-4 ≤ z ∧ z ≤ -4) ∨ (0 ≤ z ∧ z ≤ 0 ∧ 1 ≤ M' 5 1 ∧ M' 5 1 ≤ 1) ∨ (1 ≤ z ∧ z ≤ 300 ∧ 7 ≤ M' 5 1 ∧ M' 5 1 ≤ 7)) := by
  have c0 : cOK gAll (xF d) 41 K_822 := (ct_of (d := d) ct_ok (show K_822 ∈ CT.getD 41 [] from (show CT.getD 41 [] = [K_816, K_727, K_729, K_731, K_733, K_735, K_737, K_739, K_741, K_743, K_745, K_747, K_749, K_817, K_818, K_819, K_820, K_821, K_822, K_823, K_824, K_825, K_826, K_460] from rfl) ▸ by simp) hd)
  obtain ⟨z, M', e, -, -, alt, ha, q, p⟩ := cOK_I c0 (A := [.inr 2]) (show aF2 gW [aRef 2] [.inr 2] from ⟨gW_o, trivial⟩) hM (show gP0 [(7, 10, (0, 6, 6, 0, 0, 0))] M from fun e he => by
    simp only [List.mem_cons, List.not_mem_nil, or_false] at he
    rcases he with rfl
    · exact gR_i p0.1 p0.2) rfl
  refine ⟨z, M', e, ?_⟩
  have ha : alt ∈ [(some (0, -2, -2, 0, 0, 0), [], [(0, 14, (0, 1, 10, 0, 0, 0)), (7, 10, (0, 6, 6, 0, 0, 0))]), (some (0, -3, -3, 0, 0, 0), [], [(0, 14, (0, 1, 10, 0, 0, 0)), (7, 10, (0, 6, 6, 0, 0, 0))]), (some (0, -4, -4, 0, 0, 0), [], [(7, 10, (0, 6, 6, 0, 0, 0))]), (some (0, 0, 0, 0, 0, 0), [], [(0, 14, (0, 1, 10, 0, 0, 0)), (5, 1, (0, 1, 1, 0, 0, 0)), (6, 0, (0, -2147483648, 2147483647, 0, 0, 0)), (7, 10, (0, 6, 6, 0, 0, 0))]), (some (0, 1, 300, 0, 0, 0), [], [(0, 14, (0, 1, 10, 0, 0, 0)), (5, 1, (0, 7, 7, 0, 0, 0)), (6, 6, (0, -2147483648, 2147483647, 0, 0, 0)), (7, 10, (0, 6, 6, 0, 0, 0)), (52, 5, (0, 1, 300, 0, 0, 0)), (52, 7, (0, 0, 299, 0, 0, 0)), (52, 9, (0, 0, 299, 0, 0, 0))])] := ha
  simp only [List.mem_cons, List.not_mem_nil, or_false] at ha
  rcases ha with rfl | rfl | rfl | rfl | rfl
  · obtain ⟨z2, e2, r⟩ := gW_int (show gW _ _ from q) (Nat.le_of_ble_eq_true rfl)
    cases e2
    have := gR0 r
    exact Or.inl ⟨this.1, this.2⟩
  · obtain ⟨z2, e2, r⟩ := gW_int (show gW _ _ from q) (Nat.le_of_ble_eq_true rfl)
    cases e2
    have := gR0 r
    exact Or.inr (Or.inl ⟨this.1, this.2⟩)
  · obtain ⟨z2, e2, r⟩ := gW_int (show gW _ _ from q) (Nat.le_of_ble_eq_true rfl)
    cases e2
    have := gR0 r
    exact Or.inr (Or.inr (Or.inl ⟨this.1, this.2⟩))
  · obtain ⟨z2, e2, r⟩ := gW_int (show gW _ _ from q) (Nat.le_of_ble_eq_true rfl)
    cases e2
    have := gR0 r
    have w := gR0 (show gR (0, 1, 1, 0, 0, 0) (M' 5 1) from (p _ (List.mem_cons_of_mem _ List.mem_cons_self)).1)
    exact Or.inr (Or.inr (Or.inr (Or.inl ⟨this.1, this.2, w.1, w.2⟩)))
  · obtain ⟨z2, e2, r⟩ := gW_int (show gW _ _ from q) (Nat.le_of_ble_eq_true rfl)
    cases e2
    have := gR0 r
    have w := gR0 (show gR (0, 7, 7, 0, 0, 0) (M' 5 1) from (p _ (List.mem_cons_of_mem _ List.mem_cons_self)).1)
    exact Or.inr (Or.inr (Or.inr (Or.inr ⟨this.1, this.2, w.1, w.2⟩)))
theorem nt_X_evenings_7 {d : Nat} (hd : 8 ≤ d) {M : pM} (hM : gM gAll M) (p0 : 7 ≤ M 7 10 ∧ M 7 10 ≤ 7) : ∃ z M', xF d 41 [.inr 2] M = rI z M' ∧ ((-2 ≤ z ∧ z ≤ -2) ∨ (-3 ≤ z ∧ z ≤ -3) ∨ (-4 ≤ z ∧ z ≤ -4) ∨ (0 ≤ z ∧ z ≤ 0 ∧ 1 ≤ M' 5 1 ∧ M' 5 1 ≤ 1) ∨ (1 ≤ z ∧ z ≤ 300 ∧ 8 ≤ M' 5 1 ∧ M' 5 1 ≤ 8)) := by
  have c0 : cOK gAll (xF d) 41 K_823 := (ct_of (d := d) ct_ok (show K_823 ∈ CT.getD 41 [] from (show CT.getD 41 [] = [K_816, K_727, K_729, K_731, K_733, K_735, K_737, K_739, K_741, K_743, K_745, K_747, K_749, K_817, K_818, K_819, K_820, K_821, K_822, K_823, K_824, K_825, K_826, K_460] from rfl) ▸ by simp) hd)
  obtain ⟨z, M', e, -, -, alt, ha, q, p⟩ := cOK_I c0 (A := [.inr 2]) (show aF2 gW [aRef 2] [.inr 2] from ⟨gW_o, trivial⟩) hM (show gP0 [(7, 10, (0, 7, 7, 0, 0, 0))] M from fun e he => by
    simp only [List.mem_cons, List.not_mem_nil, or_false] at he
    rcases he with rfl
    · exact gR_i p0.1 p0.2) rfl
  refine ⟨z, M', e, ?_⟩
  have ha : alt ∈ [(some (0, -2, -2, 0, 0, 0), [], [(0, 14, (0, 1, 10, 0, 0, 0)), (7, 10, (0, 7, 7, 0, 0, 0))]), (some (0, -3, -3, 0, 0, 0), [], [(0, 14, (0, 1, 10, 0, 0, 0)), (7, 10, (0, 7, 7, 0, 0, 0))]), (some (0, -4, -4, 0, 0, 0), [], [(7, 10, (0, 7, 7, 0, 0, 0))]), (some (0, 0, 0, 0, 0, 0), [], [(0, 14, (0, 1, 10, 0, 0, 0)), (5, 1, (0, 1, 1, 0, 0, 0)), (6, 0, (0, -2147483648, 2147483647, 0, 0, 0)), (7, 10, (0, 7, 7, 0, 0, 0))]), (some (0, 1, 300, 0, 0, 0), [], [(0, 14, (0, 1, 10, 0, 0, 0)), (5, 1, (0, 8, 8, 0, 0, 0)), (6, 7, (0, -2147483648, 2147483647, 0, 0, 0)), (7, 10, (0, 7, 7, 0, 0, 0)), (52, 5, (0, 1, 300, 0, 0, 0)), (52, 7, (0, 0, 299, 0, 0, 0)), (52, 9, (0, 0, 299, 0, 0, 0))])] := ha
  simp only [List.mem_cons, List.not_mem_nil, or_false] at ha
  rcases ha with rfl | rfl | rfl | rfl | rfl
  · obtain ⟨z2, e2, r⟩ := gW_int (show gW _ _ from q) (Nat.le_of_ble_eq_true rfl)
    cases e2
    have := gR0 r
    exact Or.inl ⟨this.1, this.2⟩
  · obtain ⟨z2, e2, r⟩ := gW_int (show gW _ _ from q) (Nat.le_of_ble_eq_true rfl)
    cases e2
    have := gR0 r
    exact Or.inr (Or.inl ⟨this.1, this.2⟩)
  · obtain ⟨z2, e2, r⟩ := gW_int (show gW _ _ from q) (Nat.le_of_ble_eq_true rfl)
    cases e2
    have := gR0 r
    exact Or.inr (Or.inr (Or.inl ⟨this.1, this.2⟩))
  · obtain ⟨z2, e2, r⟩ := gW_int (show gW _ _ from q) (Nat.le_of_ble_eq_true rfl)
    cases e2
    have := gR0 r
    have w := gR0 (show gR (0, 1, 1, 0, 0, 0) (M' 5 1) from (p _ (List.mem_cons_of_mem _ List.mem_cons_self)).1)
    exact Or.inr (Or.inr (Or.inr (Or.inl ⟨this.1, this.2, w.1, w.2⟩)))
  · obtain ⟨z2, e2, r⟩ := gW_int (show gW _ _ from q) (Nat.le_of_ble_eq_true rfl)
    cases e2
    have := gR0 r
    have w := gR0 (show gR (0, 8, 8, 0, 0, 0) (M' 5 1) from (p _ (List.mem_cons_of_mem _ List.mem_cons_self)).1)
    exact Or.inr (Or.inr (Or.inr (Or.inr ⟨this.1, this.2, w.1, w.2⟩)))
theorem nt_X_evenings_8 {d : Nat} (hd : 8 ≤ d) {M : pM} (hM : gM gAll M) (p0 : 8 ≤ M 7 10 ∧ M 7 10 ≤ 8) : ∃ z M', xF d 41 [.inr 2] M = rI z M' ∧ ((-2 ≤ z ∧ z ≤ -2) ∨ (-3 ≤ z ∧ z ≤ -3) ∨ (-4 ≤ z ∧ z ≤ -4) ∨ (0 ≤ z ∧ z ≤ 0 ∧ 1 ≤ M' 5 1 ∧ M' 5 1 ≤ 1) ∨ (1 ≤ z ∧ z ≤ 300 ∧ 9 ≤ M' 5 1 ∧ M' 5 1 ≤ 9)) := by
  have c0 : cOK gAll (xF d) 41 K_824 := (ct_of (d := d) ct_ok (show K_824 ∈ CT.getD 41 [] from (show CT.getD 41 [] = [K_816, K_727, K_729, K_731, K_733, K_735, K_737, K_739, K_741, K_743, K_745, K_747, K_749, K_817, K_818, K_819, K_820, K_821, K_822, K_823, K_824, K_825, K_826, K_460] from rfl) ▸ by simp) hd)
  obtain ⟨z, M', e, -, -, alt, ha, q, p⟩ := cOK_I c0 (A := [.inr 2]) (show aF2 gW [aRef 2] [.inr 2] from ⟨gW_o, trivial⟩) hM (show gP0 [(7, 10, (0, 8, 8, 0, 0, 0))] M from fun e he => by
    simp only [List.mem_cons, List.not_mem_nil, or_false] at he
    rcases he with rfl
    · exact gR_i p0.1 p0.2) rfl
  refine ⟨z, M', e, ?_⟩
  have ha : alt ∈ [(some (0, -2, -2, 0, 0, 0), [], [(0, 14, (0, 1, 10, 0, 0, 0)), (7, 10, (0, 8, 8, 0, 0, 0))]), (some (0, -3, -3, 0, 0, 0), [], [(0, 14, (0, 1, 10, 0, 0, 0)), (7, 10, (0, 8, 8, 0, 0, 0))]), (some (0, -4, -4, 0, 0, 0), [], [(7, 10, (0, 8, 8, 0, 0, 0))]), (some (0, 0, 0, 0, 0, 0), [], [(0, 14, (0, 1, 10, 0, 0, 0)), (5, 1, (0, 1, 1, 0, 0, 0)), (6, 0, (0, -2147483648, 2147483647, 0, 0, 0)), (7, 10, (0, 8, 8, 0, 0, 0))]), (some (0, 1, 300, 0, 0, 0), [], [(0, 14, (0, 1, 10, 0, 0, 0)), (5, 1, (0, 9, 9, 0, 0, 0)), (6, 8, (0, -2147483648, 2147483647, 0, 0, 0)), (7, 10, (0, 8, 8, 0, 0, 0)), (52, 5, (0, 1, 300, 0, 0, 0)), (52, 7, (0, 0, 299, 0, 0, 0)), (52, 9, (0, 0, 299, 0, 0, 0))])] := ha
  simp only [List.mem_cons, List.not_mem_nil, or_false] at ha
  rcases ha with rfl | rfl | rfl | rfl | rfl
  · obtain ⟨z2, e2, r⟩ := gW_int (show gW _ _ from q) (Nat.le_of_ble_eq_true rfl)
    cases e2
    have := gR0 r
    exact Or.inl ⟨this.1, this.2⟩
  · obtain ⟨z2, e2, r⟩ := gW_int (show gW _ _ from q) (Nat.le_of_ble_eq_true rfl)
    cases e2
    have := gR0 r
    exact Or.inr (Or.inl ⟨this.1, this.2⟩)
  · obtain ⟨z2, e2, r⟩ := gW_int (show gW _ _ from q) (Nat.le_of_ble_eq_true rfl)
    cases e2
    have := gR0 r
    exact Or.inr (Or.inr (Or.inl ⟨this.1, this.2⟩))
  · obtain ⟨z2, e2, r⟩ := gW_int (show gW _ _ from q) (Nat.le_of_ble_eq_true rfl)
    cases e2
    have := gR0 r
    have w := gR0 (show gR (0, 1, 1, 0, 0, 0) (M' 5 1) from (p _ (List.mem_cons_of_mem _ List.mem_cons_self)).1)
    exact Or.inr (Or.inr (Or.inr (Or.inl ⟨this.1, this.2, w.1, w.2⟩)))
  · obtain ⟨z2, e2, r⟩ := gW_int (show gW _ _ from q) (Nat.le_of_ble_eq_true rfl)
    cases e2
    have := gR0 r
    have w := gR0 (show gR (0, 9, 9, 0, 0, 0) (M' 5 1) from (p _ (List.mem_cons_of_mem _ List.mem_cons_self)).1)
    exact Or.inr (Or.inr (Or.inr (Or.inr ⟨this.1, this.2, w.1, w.2⟩)))
theorem nt_X_evenings_9 {d : Nat} (hd : 8 ≤ d) {M : pM} (hM : gM gAll M) (p0 : 9 ≤ M 7 10 ∧ M 7 10 ≤ 9) : ∃ z M', xF d 41 [.inr 2] M = rI z M' ∧ ((-2 ≤ z ∧ z ≤ -2) ∨ (-3 ≤ z ∧ z ≤ -3) ∨ (-4 ≤ z ∧ z ≤ -4) ∨ (0 ≤ z ∧ z ≤ 0 ∧ 1 ≤ M' 5 1 ∧ M' 5 1 ≤ 1) ∨ (1 ≤ z ∧ z ≤ 300 ∧ 10 ≤ M' 5 1 ∧ M' 5 1 ≤ 10)) := by
  have c0 : cOK gAll (xF d) 41 K_825 := (ct_of (d := d) ct_ok (show K_825 ∈ CT.getD 41 [] from (show CT.getD 41 [] = [K_816, K_727, K_729, K_731, K_733, K_735, K_737, K_739, K_741, K_743, K_745, K_747, K_749, K_817, K_818, K_819, K_820, K_821, K_822, K_823, K_824, K_825, K_826, K_460] from rfl) ▸ by simp) hd)
  obtain ⟨z, M', e, -, -, alt, ha, q, p⟩ := cOK_I c0 (A := [.inr 2]) (show aF2 gW [aRef 2] [.inr 2] from ⟨gW_o, trivial⟩) hM (show gP0 [(7, 10, (0, 9, 9, 0, 0, 0))] M from fun e he => by
    simp only [List.mem_cons, List.not_mem_nil, or_false] at he
    rcases he with rfl
    · exact gR_i p0.1 p0.2) rfl
  refine ⟨z, M', e, ?_⟩
  have ha : alt ∈ [(some (0, -2, -2, 0, 0, 0), [], [(0, 14, (0, 1, 10, 0, 0, 0)), (7, 10, (0, 9, 9, 0, 0, 0))]), (some (0, -3, -3, 0, 0, 0), [], [(0, 14, (0, 1, 10, 0, 0, 0)), (7, 10, (0, 9, 9, 0, 0, 0))]), (some (0, -4, -4, 0, 0, 0), [], [(7, 10, (0, 9, 9, 0, 0, 0))]), (some (0, 0, 0, 0, 0, 0), [], [(0, 14, (0, 1, 10, 0, 0, 0)), (5, 1, (0, 1, 1, 0, 0, 0)), (6, 0, (0, -2147483648, 2147483647, 0, 0, 0)), (7, 10, (0, 9, 9, 0, 0, 0))]), (some (0, 1, 300, 0, 0, 0), [], [(0, 14, (0, 1, 10, 0, 0, 0)), (5, 1, (0, 10, 10, 0, 0, 0)), (6, 9, (0, -2147483648, 2147483647, 0, 0, 0)), (7, 10, (0, 9, 9, 0, 0, 0)), (52, 5, (0, 1, 300, 0, 0, 0)), (52, 7, (0, 0, 299, 0, 0, 0)), (52, 9, (0, 0, 299, 0, 0, 0))])] := ha
  simp only [List.mem_cons, List.not_mem_nil, or_false] at ha
  rcases ha with rfl | rfl | rfl | rfl | rfl
  · obtain ⟨z2, e2, r⟩ := gW_int (show gW _ _ from q) (Nat.le_of_ble_eq_true rfl)
    cases e2
    have := gR0 r
    exact Or.inl ⟨this.1, this.2⟩
  · obtain ⟨z2, e2, r⟩ := gW_int (show gW _ _ from q) (Nat.le_of_ble_eq_true rfl)
    cases e2
    have := gR0 r
    exact Or.inr (Or.inl ⟨this.1, this.2⟩)
  · obtain ⟨z2, e2, r⟩ := gW_int (show gW _ _ from q) (Nat.le_of_ble_eq_true rfl)
    cases e2
    have := gR0 r
    exact Or.inr (Or.inr (Or.inl ⟨this.1, this.2⟩))
  · obtain ⟨z2, e2, r⟩ := gW_int (show gW _ _ from q) (Nat.le_of_ble_eq_true rfl)
    cases e2
    have := gR0 r
    have w := gR0 (show gR (0, 1, 1, 0, 0, 0) (M' 5 1) from (p _ (List.mem_cons_of_mem _ List.mem_cons_self)).1)
    exact Or.inr (Or.inr (Or.inr (Or.inl ⟨this.1, this.2, w.1, w.2⟩)))
  · obtain ⟨z2, e2, r⟩ := gW_int (show gW _ _ from q) (Nat.le_of_ble_eq_true rfl)
    cases e2
    have := gR0 r
    have w := gR0 (show gR (0, 10, 10, 0, 0, 0) (M' 5 1) from (p _ (List.mem_cons_of_mem _ List.mem_cons_self)).1)
    exact Or.inr (Or.inr (Or.inr (Or.inr ⟨this.1, this.2, w.1, w.2⟩)))
theorem nt_X_evenings_10 {d : Nat} (hd : 8 ≤ d) {M : pM} (hM : gM gAll M) (p0 : 10 ≤ M 7 10 ∧ M 7 10 ≤ 10) : ∃ z M', xF d 41 [.inr 2] M = rI z M' ∧ ((-2 ≤ z ∧ z ≤ -2) ∨ (-3 ≤ z ∧ z ≤ -3) ∨ (-4 ≤ z ∧ z ≤ -4) ∨ (0 ≤ z ∧ z ≤ 0 ∧ 1 ≤ M' 5 1 ∧ M' 5 1 ≤ 1) ∨ (1 ≤ z ∧ z ≤ 300 ∧ 11 ≤ M' 5 1 ∧ M' 5 1 ≤ 11)) := by
  have c0 : cOK gAll (xF d) 41 K_826 := (ct_of (d := d) ct_ok (show K_826 ∈ CT.getD 41 [] from (show CT.getD 41 [] = [K_816, K_727, K_729, K_731, K_733, K_735, K_737, K_739, K_741, K_743, K_745, K_747, K_749, K_817, K_818, K_819, K_820, K_821, K_822, K_823, K_824, K_825, K_826, K_460] from rfl) ▸ by simp) hd)
  obtain ⟨z, M', e, -, -, alt, ha, q, p⟩ := cOK_I c0 (A := [.inr 2]) (show aF2 gW [aRef 2] [.inr 2] from ⟨gW_o, trivial⟩) hM (show gP0 [(7, 10, (0, 10, 10, 0, 0, 0))] M from fun e he => by
    simp only [List.mem_cons, List.not_mem_nil, or_false] at he
    rcases he with rfl
    · exact gR_i p0.1 p0.2) rfl
  refine ⟨z, M', e, ?_⟩
  have ha : alt ∈ [(some (0, -2, -2, 0, 0, 0), [], [(0, 14, (0, 1, 10, 0, 0, 0)), (7, 10, (0, 10, 10, 0, 0, 0))]), (some (0, -3, -3, 0, 0, 0), [], [(0, 14, (0, 1, 10, 0, 0, 0)), (7, 10, (0, 10, 10, 0, 0, 0))]), (some (0, -4, -4, 0, 0, 0), [], [(7, 10, (0, 10, 10, 0, 0, 0))]), (some (0, 0, 0, 0, 0, 0), [], [(0, 14, (0, 1, 10, 0, 0, 0)), (5, 1, (0, 1, 1, 0, 0, 0)), (6, 0, (0, -2147483648, 2147483647, 0, 0, 0)), (7, 10, (0, 10, 10, 0, 0, 0))]), (some (0, 1, 300, 0, 0, 0), [], [(0, 14, (0, 1, 10, 0, 0, 0)), (5, 1, (0, 11, 11, 0, 0, 0)), (6, 10, (0, -2147483648, 2147483647, 0, 0, 0)), (7, 10, (0, 10, 10, 0, 0, 0)), (52, 5, (0, 1, 300, 0, 0, 0)), (52, 7, (0, 0, 299, 0, 0, 0)), (52, 9, (0, 0, 299, 0, 0, 0))])] := ha
  simp only [List.mem_cons, List.not_mem_nil, or_false] at ha
  rcases ha with rfl | rfl | rfl | rfl | rfl
  · obtain ⟨z2, e2, r⟩ := gW_int (show gW _ _ from q) (Nat.le_of_ble_eq_true rfl)
    cases e2
    have := gR0 r
    exact Or.inl ⟨this.1, this.2⟩
  · obtain ⟨z2, e2, r⟩ := gW_int (show gW _ _ from q) (Nat.le_of_ble_eq_true rfl)
    cases e2
    have := gR0 r
    exact Or.inr (Or.inl ⟨this.1, this.2⟩)
  · obtain ⟨z2, e2, r⟩ := gW_int (show gW _ _ from q) (Nat.le_of_ble_eq_true rfl)
    cases e2
    have := gR0 r
    exact Or.inr (Or.inr (Or.inl ⟨this.1, this.2⟩))
  · obtain ⟨z2, e2, r⟩ := gW_int (show gW _ _ from q) (Nat.le_of_ble_eq_true rfl)
    cases e2
    have := gR0 r
    have w := gR0 (show gR (0, 1, 1, 0, 0, 0) (M' 5 1) from (p _ (List.mem_cons_of_mem _ List.mem_cons_self)).1)
    exact Or.inr (Or.inr (Or.inr (Or.inl ⟨this.1, this.2, w.1, w.2⟩)))
  · obtain ⟨z2, e2, r⟩ := gW_int (show gW _ _ from q) (Nat.le_of_ble_eq_true rfl)
    cases e2
    have := gR0 r
    have w := gR0 (show gR (0, 11, 11, 0, 0, 0) (M' 5 1) from (p _ (List.mem_cons_of_mem _ List.mem_cons_self)).1)
    exact Or.inr (Or.inr (Or.inr (Or.inr ⟨this.1, this.2, w.1, w.2⟩)))
