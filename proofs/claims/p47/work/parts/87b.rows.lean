/-! more of that (by program) -/
theorem nu_X_best_9 {d : Nat} (hd : 32 ≤ d) {M : pM} (hM : gM gAll M) (p0 : 9 ≤ M 5 1 ∧ M 5 1 ≤ 9) : ∃ z M', xF d 23 [.inr 2] M = rI z M' ∧ ((-2 ≤ z ∧ z ≤ -2 ∧ 9 ≤ M' 5 1 ∧ M' 5 1 ≤ 9) ∨ (-3 ≤ z ∧ z ≤ -3 ∧ 9 ≤ M' 5 1 ∧ M' 5 1 ≤ 9) ∨ (1 ≤ z ∧ z ≤ 1 ∧ 1 ≤ M' 5 1 ∧ M' 5 1 ≤ 11)) := by
  have c0 : cOK gAll (xF d) 23 K_699 := (ct_of (d := d) ct_ok (show K_699 ∈ CT.getD 23 [] from (show CT.getD 23 [] = [K_751, K_690, K_691, K_692, K_693, K_694, K_695, K_696, K_697, K_698, K_699, K_700, K_701, K_753, K_755, K_757, K_759, K_761, K_763, K_765, K_767, K_769, K_771, K_389] from rfl) ▸ by simp) hd)
  obtain ⟨z, M', e, -, -, alt, ha, q, p⟩ := cOK_I c0 (A := [.inr 2]) (show aF2 gW [aRef 2] [.inr 2] from ⟨gW_o, trivial⟩) hM (show gP0 [(5, 1, (0, 9, 9, 0, 0, 0))] M from fun e he => by
    simp only [List.mem_cons, List.not_mem_nil, or_false] at he
    rcases he with rfl
    · exact gR_i p0.1 p0.2) rfl
  refine ⟨z, M', e, ?_⟩
  have ha : alt ∈ [(some (0, -2, -2, 0, 0, 0), [], [(5, 1, (0, 9, 9, 0, 0, 0))]), (some (0, -3, -3, 0, 0, 0), [], [(5, 1, (0, 9, 9, 0, 0, 0))]), (some (0, 1, 1, 0, 0, 0), [], [(5, 1, (0, 1, 11, 0, 0, 0))])] := ha
  simp only [List.mem_cons, List.not_mem_nil, or_false] at ha
  rcases ha with rfl | rfl | rfl
  · obtain ⟨z2, e2, r⟩ := gW_int (show gW _ _ from q) (Nat.le_of_ble_eq_true rfl)
    cases e2
    have := gR0 r
    have w := gR0 (show gR (0, 9, 9, 0, 0, 0) (M' 5 1) from (p _ List.mem_cons_self).1)
    exact Or.inl ⟨this.1, this.2, w.1, w.2⟩
  · obtain ⟨z2, e2, r⟩ := gW_int (show gW _ _ from q) (Nat.le_of_ble_eq_true rfl)
    cases e2
    have := gR0 r
    have w := gR0 (show gR (0, 9, 9, 0, 0, 0) (M' 5 1) from (p _ List.mem_cons_self).1)
    exact Or.inr (Or.inl ⟨this.1, this.2, w.1, w.2⟩)
  · obtain ⟨z2, e2, r⟩ := gW_int (show gW _ _ from q) (Nat.le_of_ble_eq_true rfl)
    cases e2
    have := gR0 r
    have w := gR0 (show gR (0, 1, 11, 0, 0, 0) (M' 5 1) from (p _ List.mem_cons_self).1)
    exact Or.inr (Or.inr ⟨this.1, this.2, w.1, w.2⟩)
theorem nu_X_best_10 {d : Nat} (hd : 32 ≤ d) {M : pM} (hM : gM gAll M) (p0 : 10 ≤ M 5 1 ∧ M 5 1 ≤ 10) : ∃ z M', xF d 23 [.inr 2] M = rI z M' ∧ ((-2 ≤ z ∧ z ≤ -2 ∧ 10 ≤ M' 5 1 ∧ M' 5 1 ≤ 10) ∨ (-3 ≤ z ∧ z ≤ -3 ∧ 10 ≤ M' 5 1 ∧ M' 5 1 ≤ 10) ∨ (1 ≤ z ∧ z ≤ 1 ∧ 1 ≤ M' 5 1 ∧ M' 5 1 ≤ 11)) := by
  have c0 : cOK gAll (xF d) 23 K_700 := (ct_of (d := d) ct_ok (show K_700 ∈ CT.getD 23 [] from (show CT.getD 23 [] = [K_751, K_690, K_691, K_692, K_693, K_694, K_695, K_696, K_697, K_698, K_699, K_700, K_701, K_753, K_755, K_757, K_759, K_761, K_763, K_765, K_767, K_769, K_771, K_389] from rfl) ▸ by simp) hd)
  obtain ⟨z, M', e, -, -, alt, ha, q, p⟩ := cOK_I c0 (A := [.inr 2]) (show aF2 gW [aRef 2] [.inr 2] from ⟨gW_o, trivial⟩) hM (show gP0 [(5, 1, (0, 10, 10, 0, 0, 0))] M from fun e he => by
    simp only [List.mem_cons, List.not_mem_nil, or_false] at he
    rcases he with rfl
    · exact gR_i p0.1 p0.2) rfl
  refine ⟨z, M', e, ?_⟩
  have ha : alt ∈ [(some (0, -2, -2, 0, 0, 0), [], [(5, 1, (0, 10, 10, 0, 0, 0))]), (some (0, -3, -3, 0, 0, 0), [], [(5, 1, (0, 10, 10, 0, 0, 0))]), (some (0, 1, 1, 0, 0, 0), [], [(5, 1, (0, 1, 11, 0, 0, 0))])] := ha
  simp only [List.mem_cons, List.not_mem_nil, or_false] at ha
  rcases ha with rfl | rfl | rfl
  · obtain ⟨z2, e2, r⟩ := gW_int (show gW _ _ from q) (Nat.le_of_ble_eq_true rfl)
    cases e2
    have := gR0 r
    have w := gR0 (show gR (0, 10, 10, 0, 0, 0) (M' 5 1) from (p _ List.mem_cons_self).1)
    exact Or.inl ⟨this.1, this.2, w.1, w.2⟩
  · obtain ⟨z2, e2, r⟩ := gW_int (show gW _ _ from q) (Nat.le_of_ble_eq_true rfl)
    cases e2
    have := gR0 r
    have w := gR0 (show gR (0, 10, 10, 0, 0, 0) (M' 5 1) from (p _ List.mem_cons_self).1)
    exact Or.inr (Or.inl ⟨this.1, this.2, w.1, w.2⟩)
  · obtain ⟨z2, e2, r⟩ := gW_int (show gW _ _ from q) (Nat.le_of_ble_eq_true rfl)
    cases e2
    have := gR0 r
    have w := gR0 (show gR (0, 1, 11, 0, 0, 0) (M' 5 1) from (p _ List.mem_cons_self).1)
    exact Or.inr (Or.inr ⟨this.1, this.2, w.1, w.2⟩)
theorem nu_X_best_11 {d : Nat} (hd : 32 ≤ d) {M : pM} (hM : gM gAll M) (p0 : 11 ≤ M 5 1 ∧ M 5 1 ≤ 11) : ∃ z M', xF d 23 [.inr 2] M = rI z M' ∧ ((-2 ≤ z ∧ z ≤ -2 ∧ 11 ≤ M' 5 1 ∧ M' 5 1 ≤ 11) ∨ (-3 ≤ z ∧ z ≤ -3 ∧ 11 ≤ M' 5 1 ∧ M' 5 1 ≤ 11) ∨ (1 ≤ z ∧ z ≤ 1 ∧ 1 ≤ M' 5 1 ∧ M' 5 1 ≤ 11)) := by
  have c0 : cOK gAll (xF d) 23 K_701 := (ct_of (d := d) ct_ok (show K_701 ∈ CT.getD 23 [] from (show CT.getD 23 [] = [K_751, K_690, K_691, K_692, K_693, K_694, K_695, K_696, K_697, K_698, K_699, K_700, K_701, K_753, K_755, K_757, K_759, K_761, K_763, K_765, K_767, K_769, K_771, K_389] from rfl) ▸ by simp) hd)
  obtain ⟨z, M', e, -, -, alt, ha, q, p⟩ := cOK_I c0 (A := [.inr 2]) (show aF2 gW [aRef 2] [.inr 2] from ⟨gW_o, trivial⟩) hM (show gP0 [(5, 1, (0, 11, 11, 0, 0, 0))] M from fun e he => by
    simp only [List.mem_cons, List.not_mem_nil, or_false] at he
    rcases he with rfl
    · exact gR_i p0.1 p0.2) rfl
  refine ⟨z, M', e, ?_⟩
  have ha : alt ∈ [(some (0, -2, -2, 0, 0, 0), [], [(5, 1, (0, 11, 11, 0, 0, 0))]), (some (0, -3, -3, 0, 0, 0), [], [(5, 1, (0, 11, 11, 0, 0, 0))]), (some (0, 1, 1, 0, 0, 0), [], [(5, 1, (0, 1, 11, 0, 0, 0))])] := ha
  simp only [List.mem_cons, List.not_mem_nil, or_false] at ha
  rcases ha with rfl | rfl | rfl
  · obtain ⟨z2, e2, r⟩ := gW_int (show gW _ _ from q) (Nat.le_of_ble_eq_true rfl)
    cases e2
    have := gR0 r
    have w := gR0 (show gR (0, 11, 11, 0, 0, 0) (M' 5 1) from (p _ List.mem_cons_self).1)
    exact Or.inl ⟨this.1, this.2, w.1, w.2⟩
  · obtain ⟨z2, e2, r⟩ := gW_int (show gW _ _ from q) (Nat.le_of_ble_eq_true rfl)
    cases e2
    have := gR0 r
    have w := gR0 (show gR (0, 11, 11, 0, 0, 0) (M' 5 1) from (p _ List.mem_cons_self).1)
    exact Or.inr (Or.inl ⟨this.1, this.2, w.1, w.2⟩)
  · obtain ⟨z2, e2, r⟩ := gW_int (show gW _ _ from q) (Nat.le_of_ble_eq_true rfl)
    cases e2
    have := gR0 r
    have w := gR0 (show gR (0, 1, 11, 0, 0, 0) (M' 5 1) from (p _ List.mem_cons_self).1)
    exact Or.inr (Or.inr ⟨this.1, this.2, w.1, w.2⟩)
theorem nu_X_best {d : Nat} (hd : 32 ≤ d) {M M' : pM} {v : Int} (hM : gM gAll M) {n : Nat} (hn : n ≤ 11) (hc : M 5 1 = (n : Int)) (e : xF d 23 [.inr 2] M = rI v M') : (-2 ≤ v ∧ v ≤ -2 ∧ M' 5 1 = (n : Int)) ∨ (-3 ≤ v ∧ v ≤ -3 ∧ M' 5 1 = (n : Int)) ∨ (1 ≤ v ∧ v ≤ 1 ∧ 1 ≤ M' 5 1 ∧ M' 5 1 ≤ 11) := by
  rcases (show n = 0 ∨ n = 1 ∨ n = 2 ∨ n = 3 ∨ n = 4 ∨ n = 5 ∨ n = 6 ∨ n = 7 ∨ n = 8 ∨ n = 9 ∨ n = 10 ∨ n = 11 by omega) with rfl | rfl | rfl | rfl | rfl | rfl | rfl | rfl | rfl | rfl | rfl | rfl
  · obtain ⟨z, M2, e2, r⟩ := nu_X_best_0 (d := d) (by omega) hM (by omega)
    obtain ⟨y1, y2⟩ := rI_inj (e.symm.trans e2)
    rw [y1, y2]
    rcases r with r | r | r
    · exact Or.inl (by omega)
    · exact Or.inr (Or.inl (by omega))
    · exact Or.inr (Or.inr ((by omega)))
  · obtain ⟨z, M2, e2, r⟩ := nu_X_best_1 (d := d) (by omega) hM (by omega)
    obtain ⟨y1, y2⟩ := rI_inj (e.symm.trans e2)
    rw [y1, y2]
    rcases r with r | r | r
    · exact Or.inl (by omega)
    · exact Or.inr (Or.inl (by omega))
    · exact Or.inr (Or.inr ((by omega)))
  · obtain ⟨z, M2, e2, r⟩ := nu_X_best_2 (d := d) (by omega) hM (by omega)
    obtain ⟨y1, y2⟩ := rI_inj (e.symm.trans e2)
    rw [y1, y2]
    rcases r with r | r | r
    · exact Or.inl (by omega)
    · exact Or.inr (Or.inl (by omega))
    · exact Or.inr (Or.inr ((by omega)))
  · obtain ⟨z, M2, e2, r⟩ := nu_X_best_3 (d := d) (by omega) hM (by omega)
    obtain ⟨y1, y2⟩ := rI_inj (e.symm.trans e2)
    rw [y1, y2]
    rcases r with r | r | r
    · exact Or.inl (by omega)
    · exact Or.inr (Or.inl (by omega))
    · exact Or.inr (Or.inr ((by omega)))
  · obtain ⟨z, M2, e2, r⟩ := nu_X_best_4 (d := d) (by omega) hM (by omega)
    obtain ⟨y1, y2⟩ := rI_inj (e.symm.trans e2)
    rw [y1, y2]
    rcases r with r | r | r
    · exact Or.inl (by omega)
    · exact Or.inr (Or.inl (by omega))
    · exact Or.inr (Or.inr ((by omega)))
  · obtain ⟨z, M2, e2, r⟩ := nu_X_best_5 (d := d) (by omega) hM (by omega)
    obtain ⟨y1, y2⟩ := rI_inj (e.symm.trans e2)
    rw [y1, y2]
    rcases r with r | r | r
    · exact Or.inl (by omega)
    · exact Or.inr (Or.inl (by omega))
    · exact Or.inr (Or.inr ((by omega)))
  · obtain ⟨z, M2, e2, r⟩ := nu_X_best_6 (d := d) (by omega) hM (by omega)
    obtain ⟨y1, y2⟩ := rI_inj (e.symm.trans e2)
    rw [y1, y2]
    rcases r with r | r | r
    · exact Or.inl (by omega)
    · exact Or.inr (Or.inl (by omega))
    · exact Or.inr (Or.inr ((by omega)))
  · obtain ⟨z, M2, e2, r⟩ := nu_X_best_7 (d := d) (by omega) hM (by omega)
    obtain ⟨y1, y2⟩ := rI_inj (e.symm.trans e2)
    rw [y1, y2]
    rcases r with r | r | r
    · exact Or.inl (by omega)
    · exact Or.inr (Or.inl (by omega))
    · exact Or.inr (Or.inr ((by omega)))
  · obtain ⟨z, M2, e2, r⟩ := nu_X_best_8 (d := d) (by omega) hM (by omega)
    obtain ⟨y1, y2⟩ := rI_inj (e.symm.trans e2)
    rw [y1, y2]
    rcases r with r | r | r
    · exact Or.inl (by omega)
    · exact Or.inr (Or.inl (by omega))
    · exact Or.inr (Or.inr ((by omega)))
  · obtain ⟨z, M2, e2, r⟩ := nu_X_best_9 (d := d) (by omega) hM (by omega)
    obtain ⟨y1, y2⟩ := rI_inj (e.symm.trans e2)
    rw [y1, y2]
    rcases r with r | r | r
    · exact Or.inl (by omega)
    · exact Or.inr (Or.inl (by omega))
    · exact Or.inr (Or.inr ((by omega)))
  · obtain ⟨z, M2, e2, r⟩ := nu_X_best_10 (d := d) (by omega) hM (by omega)
    obtain ⟨y1, y2⟩ := rI_inj (e.symm.trans e2)
    rw [y1, y2]
    rcases r with r | r | r
    · exact Or.inl (by omega)
    · exact Or.inr (Or.inl (by omega))
    · exact Or.inr (Or.inr ((by omega)))
  · obtain ⟨z, M2, e2, r⟩ := nu_X_best_11 (d := d) (by omega) hM (by omega)
    obtain ⟨y1, y2⟩ := rI_inj (e.symm.trans e2)
    rw [y1, y2]
    rcases r with r | r | r
    · exact Or.inl (by omega)
    · exact Or.inr (Or.inl (by omega))
    · exact Or.inr (Or.inr ((by omega)))
theorem nu_X_way_0 {d : Nat} (hd : 5 ≤ d) {M : pM} {a1 : Int} {a2 : Int} (hM : gM gAll M) (h1 : -2147483648 ≤ a1 ∧ a1 ≤ 2147483647) (h2 : -2147483648 ≤ a2 ∧ a2 ≤ 2147483647) (p0 : 0 ≤ M 5 1 ∧ M 5 1 ≤ 0) : ∃ z M', xF d 34 [.inr 2, .inl a1, .inl a2] M = rI z M' ∧ ((-1 ≤ z ∧ z ≤ -1 ∧ 0 ≤ M' 5 1 ∧ M' 5 1 ≤ 0) ∨ (-2 ≤ z ∧ z ≤ -2 ∧ 0 ≤ M' 5 1 ∧ M' 5 1 ≤ 0) ∨ (0 ≤ z ∧ z ≤ 0 ∧ 0 ≤ M' 5 1 ∧ M' 5 1 ≤ 0) ∨ (1 ≤ z ∧ z ≤ 1 ∧ 1 ≤ M' 5 1 ∧ M' 5 1 ≤ 1) ∨ (2 ≤ z ∧ z ≤ 2 ∧ 2 ≤ M' 5 1 ∧ M' 5 1 ≤ 2) ∨ (3 ≤ z ∧ z ≤ 3 ∧ 3 ≤ M' 5 1 ∧ M' 5 1 ≤ 3) ∨ (4 ≤ z ∧ z ≤ 4 ∧ 4 ≤ M' 5 1 ∧ M' 5 1 ≤ 4) ∨ (5 ≤ z ∧ z ≤ 5 ∧ 5 ≤ M' 5 1 ∧ M' 5 1 ≤ 5)) := by
  have c0 : cOK gAll (xF d) 34 K_702 := (ct_of (d := d) ct_ok (show K_702 ∈ CT.getD 34 [] from (show CT.getD 34 [] = [K_702, K_703, K_704, K_705, K_706, K_707, K_708, K_709, K_710, K_711, K_712, K_713, K_413] from rfl) ▸ by simp) hd)
  obtain ⟨z, M', e, -, -, alt, ha, q, p⟩ := cOK_I c0 (A := [.inr 2, .inl a1, .inl a2]) (show aF2 gW [aRef 2, (0, -2147483648, 2147483647, 0, 0, 0), (0, -2147483648, 2147483647, 0, 0, 0)] [.inr 2, .inl a1, .inl a2] from ⟨gW_o, gW_i h1.1 h1.2, gW_i h2.1 h2.2, trivial⟩) hM (show gP0 [(5, 1, (0, 0, 0, 0, 0, 0))] M from fun e he => by
    simp only [List.mem_cons, List.not_mem_nil, or_false] at he
    rcases he with rfl
    · exact gR_i p0.1 p0.2) rfl
  refine ⟨z, M', e, ?_⟩
  have ha : alt ∈ [(some (0, -1, -1, 0, 0, 0), [], [(5, 1, (0, 0, 0, 0, 0, 0))]), (some (0, -2, -2, 0, 0, 0), [(4, 0, 0, 0, 0, 0), (0, 0, 9, 0, 0, 0), (0, 0, 5, 0, 0, 0)], [(5, 1, (0, 0, 0, 0, 0, 0)), (7, 9, (0, 1, 6, 0, 0, 0)), (7, 10, (0, 1, 10, 0, 0, 0))]), (some (0, 0, 0, 0, 0, 0), [(4, 0, 0, 0, 0, 0), (0, 0, 9, 0, 0, 0), (0, 0, 5, 0, 0, 0)], [(5, 1, (0, 0, 0, 0, 0, 0)), (7, 9, (0, 1, 6, 0, 0, 0)), (7, 10, (0, 1, 10, 0, 0, 0))]), (some (0, 1, 1, 0, 0, 0), [(4, 0, 0, 0, 0, 0), (0, 0, 9, 0, 0, 0), (0, 0, 5, 0, 0, 0)], [(5, 1, (0, 1, 1, 0, 0, 0)), (6, 0, (0, -2147483648, 2147483647, 0, 0, 0)), (7, 9, (0, 1, 6, 0, 0, 0)), (7, 10, (0, 1, 10, 0, 0, 0))]), (some (0, 2, 2, 0, 0, 0), [(4, 0, 0, 0, 0, 0), (0, 0, 9, 0, 0, 0), (0, 0, 5, 0, 0, 0)], [(5, 1, (0, 2, 2, 0, 0, 0)), (6, 1, (0, -2147483648, 2147483647, 0, 0, 0)), (7, 9, (0, 1, 6, 0, 0, 0)), (7, 10, (0, 1, 10, 0, 0, 0))]), (some (0, 3, 3, 0, 0, 0), [(4, 0, 0, 0, 0, 0), (0, 0, 9, 0, 0, 0), (0, 0, 5, 0, 0, 0)], [(5, 1, (0, 3, 3, 0, 0, 0)), (6, 2, (0, -2147483648, 2147483647, 0, 0, 0)), (7, 9, (0, 1, 6, 0, 0, 0)), (7, 10, (0, 1, 10, 0, 0, 0))]), (some (0, 4, 4, 0, 0, 0), [(4, 0, 0, 0, 0, 0), (0, 0, 9, 0, 0, 0), (0, 0, 5, 0, 0, 0)], [(5, 1, (0, 4, 4, 0, 0, 0)), (6, 3, (0, -2147483648, 2147483647, 0, 0, 0)), (7, 9, (0, 1, 6, 0, 0, 0)), (7, 10, (0, 1, 10, 0, 0, 0))]), (some (0, 5, 5, 0, 0, 0), [(4, 0, 0, 0, 0, 0), (0, 0, 9, 0, 0, 0), (0, 0, 5, 0, 0, 0)], [(5, 1, (0, 5, 5, 0, 0, 0)), (6, 4, (0, -2147483648, 2147483647, 0, 0, 0)), (7, 9, (0, 1, 6, 0, 0, 0)), (7, 10, (0, 1, 10, 0, 0, 0))])] := ha
  simp only [List.mem_cons, List.not_mem_nil, or_false] at ha
  rcases ha with rfl | rfl | rfl | rfl | rfl | rfl | rfl | rfl
  · obtain ⟨z2, e2, r⟩ := gW_int (show gW _ _ from q) (Nat.le_of_ble_eq_true rfl)
    cases e2
    have := gR0 r
    have w := gR0 (show gR (0, 0, 0, 0, 0, 0) (M' 5 1) from (p _ List.mem_cons_self).1)
    exact Or.inl ⟨this.1, this.2, w.1, w.2⟩
  · obtain ⟨z2, e2, r⟩ := gW_int (show gW _ _ from q) (Nat.le_of_ble_eq_true rfl)
    cases e2
    have := gR0 r
    have w := gR0 (show gR (0, 0, 0, 0, 0, 0) (M' 5 1) from (p _ List.mem_cons_self).1)
    exact Or.inr (Or.inl ⟨this.1, this.2, w.1, w.2⟩)
  · obtain ⟨z2, e2, r⟩ := gW_int (show gW _ _ from q) (Nat.le_of_ble_eq_true rfl)
    cases e2
    have := gR0 r
    have w := gR0 (show gR (0, 0, 0, 0, 0, 0) (M' 5 1) from (p _ List.mem_cons_self).1)
    exact Or.inr (Or.inr (Or.inl ⟨this.1, this.2, w.1, w.2⟩))
  · obtain ⟨z2, e2, r⟩ := gW_int (show gW _ _ from q) (Nat.le_of_ble_eq_true rfl)
    cases e2
    have := gR0 r
    have w := gR0 (show gR (0, 1, 1, 0, 0, 0) (M' 5 1) from (p _ List.mem_cons_self).1)
    exact Or.inr (Or.inr (Or.inr (Or.inl ⟨this.1, this.2, w.1, w.2⟩)))
  · obtain ⟨z2, e2, r⟩ := gW_int (show gW _ _ from q) (Nat.le_of_ble_eq_true rfl)
    cases e2
    have := gR0 r
    have w := gR0 (show gR (0, 2, 2, 0, 0, 0) (M' 5 1) from (p _ List.mem_cons_self).1)
    exact Or.inr (Or.inr (Or.inr (Or.inr (Or.inl ⟨this.1, this.2, w.1, w.2⟩))))
  · obtain ⟨z2, e2, r⟩ := gW_int (show gW _ _ from q) (Nat.le_of_ble_eq_true rfl)
    cases e2
    have := gR0 r
    have w := gR0 (show gR (0, 3, 3, 0, 0, 0) (M' 5 1) from (p _ List.mem_cons_self).1)
    exact Or.inr (Or.inr (Or.inr (Or.inr (Or.inr (Or.inl ⟨this.1, this.2, w.1, w.2⟩)))))
  · obtain ⟨z2, e2, r⟩ := gW_int (show gW _ _ from q) (Nat.le_of_ble_eq_true rfl)
    cases e2
    have := gR0 r
    have w := gR0 (show gR (0, 4, 4, 0, 0, 0) (M' 5 1) from (p _ List.mem_cons_self).1)
    exact Or.inr (Or.inr (Or.inr (Or.inr (Or.inr (Or.inr (Or.inl ⟨this.1, this.2, w.1, w.2⟩))))))
  · obtain ⟨z2, e2, r⟩ := gW_int (show gW _ _ from q) (Nat.le_of_ble_eq_true rfl)
    cases e2
    have := gR0 r
    have w := gR0 (show gR (0, 5, 5, 0, 0, 0) (M' 5 1) from (p _ List.mem_cons_self).1)
    exact Or.inr (Or.inr (Or.inr (Or.inr (Or.inr (Or.inr (Or.inr ⟨this.1, this.2, w.1, w.2⟩))))))
theorem nu_X_way_1 {d : Nat} (hd : 5 ≤ d) {M : pM} {a1 : Int} {a2 : Int} (hM : gM gAll M) (h1 : -2147483648 ≤ a1 ∧ a1 ≤ 2147483647) (h2 : -2147483648 ≤ a2 ∧ a2 ≤ 2147483647) (p0 : 1 ≤ M 5 1 ∧ M 5 1 ≤ 1) : ∃ z M', xF d 34 [.inr 2, .inl a1, .inl a2] M = rI z M' ∧ ((-1 ≤ z ∧ z ≤ -1 ∧ 1 ≤ M' 5 1 ∧ M' 5 1 ≤ 1) ∨ (-2 ≤ z ∧ z ≤ -2 ∧ 1 ≤ M' 5 1 ∧ M' 5 1 ≤ 1) ∨ (0 ≤ z ∧ z ≤ 0 ∧ 0 ≤ M' 5 1 ∧ M' 5 1 ≤ 0) ∨ (1 ≤ z ∧ z ≤ 1 ∧ 1 ≤ M' 5 1 ∧ M' 5 1 ≤ 1) ∨ (2 ≤ z ∧ z ≤ 2 ∧ 2 ≤ M' 5 1 ∧ M' 5 1 ≤ 2) ∨ (3 ≤ z ∧ z ≤ 3 ∧ 3 ≤ M' 5 1 ∧ M' 5 1 ≤ 3) ∨ (4 ≤ z ∧ z ≤ 4 ∧ 4 ≤ M' 5 1 ∧ M' 5 1 ≤ 4) ∨ (5 ≤ z ∧ z ≤ 5 ∧ 5 ≤ M' 5 1 ∧ M' 5 1 ≤ 5)) := by
  have c0 : cOK gAll (xF d) 34 K_703 := (ct_of (d := d) ct_ok (show K_703 ∈ CT.getD 34 [] from (show CT.getD 34 [] = [K_702, K_703, K_704, K_705, K_706, K_707, K_708, K_709, K_710, K_711, K_712, K_713, K_413] from rfl) ▸ by simp) hd)
  obtain ⟨z, M', e, -, -, alt, ha, q, p⟩ := cOK_I c0 (A := [.inr 2, .inl a1, .inl a2]) (show aF2 gW [aRef 2, (0, -2147483648, 2147483647, 0, 0, 0), (0, -2147483648, 2147483647, 0, 0, 0)] [.inr 2, .inl a1, .inl a2] from ⟨gW_o, gW_i h1.1 h1.2, gW_i h2.1 h2.2, trivial⟩) hM (show gP0 [(5, 1, (0, 1, 1, 0, 0, 0))] M from fun e he => by
    simp only [List.mem_cons, List.not_mem_nil, or_false] at he
    rcases he with rfl
    · exact gR_i p0.1 p0.2) rfl
  refine ⟨z, M', e, ?_⟩
  have ha : alt ∈ [(some (0, -1, -1, 0, 0, 0), [], [(5, 1, (0, 1, 1, 0, 0, 0))]), (some (0, -2, -2, 0, 0, 0), [(4, 0, 0, 0, 0, 0), (0, 0, 9, 0, 0, 0), (0, 0, 5, 0, 0, 0)], [(5, 1, (0, 1, 1, 0, 0, 0)), (7, 9, (0, 1, 6, 0, 0, 0)), (7, 10, (0, 1, 10, 0, 0, 0))]), (some (0, 0, 0, 0, 0, 0), [(4, 0, 0, 0, 0, 0), (0, 0, 9, 0, 0, 0), (0, 0, 5, 0, 0, 0)], [(5, 1, (0, 0, 0, 0, 0, 0)), (7, 9, (0, 1, 6, 0, 0, 0)), (7, 10, (0, 1, 10, 0, 0, 0))]), (some (0, 1, 1, 0, 0, 0), [(4, 0, 0, 0, 0, 0), (0, 0, 9, 0, 0, 0), (0, 0, 5, 0, 0, 0)], [(5, 1, (0, 1, 1, 0, 0, 0)), (6, 0, (0, -2147483648, 2147483647, 0, 0, 0)), (7, 9, (0, 1, 6, 0, 0, 0)), (7, 10, (0, 1, 10, 0, 0, 0))]), (some (0, 2, 2, 0, 0, 0), [(4, 0, 0, 0, 0, 0), (0, 0, 9, 0, 0, 0), (0, 0, 5, 0, 0, 0)], [(5, 1, (0, 2, 2, 0, 0, 0)), (6, 1, (0, -2147483648, 2147483647, 0, 0, 0)), (7, 9, (0, 1, 6, 0, 0, 0)), (7, 10, (0, 1, 10, 0, 0, 0))]), (some (0, 3, 3, 0, 0, 0), [(4, 0, 0, 0, 0, 0), (0, 0, 9, 0, 0, 0), (0, 0, 5, 0, 0, 0)], [(5, 1, (0, 3, 3, 0, 0, 0)), (6, 2, (0, -2147483648, 2147483647, 0, 0, 0)), (7, 9, (0, 1, 6, 0, 0, 0)), (7, 10, (0, 1, 10, 0, 0, 0))]), (some (0, 4, 4, 0, 0, 0), [(4, 0, 0, 0, 0, 0), (0, 0, 9, 0, 0, 0), (0, 0, 5, 0, 0, 0)], [(5, 1, (0, 4, 4, 0, 0, 0)), (6, 3, (0, -2147483648, 2147483647, 0, 0, 0)), (7, 9, (0, 1, 6, 0, 0, 0)), (7, 10, (0, 1, 10, 0, 0, 0))]), (some (0, 5, 5, 0, 0, 0), [(4, 0, 0, 0, 0, 0), (0, 0, 9, 0, 0, 0), (0, 0, 5, 0, 0, 0)], [(5, 1, (0, 5, 5, 0, 0, 0)), (6, 4, (0, -2147483648, 2147483647, 0, 0, 0)), (7, 9, (0, 1, 6, 0, 0, 0)), (7, 10, (0, 1, 10, 0, 0, 0))])] := ha
  simp only [List.mem_cons, List.not_mem_nil, or_false] at ha
  rcases ha with rfl | rfl | rfl | rfl | rfl | rfl | rfl | rfl
  · obtain ⟨z2, e2, r⟩ := gW_int (show gW _ _ from q) (Nat.le_of_ble_eq_true rfl)
    cases e2
    have := gR0 r
    have w := gR0 (show gR (0, 1, 1, 0, 0, 0) (M' 5 1) from (p _ List.mem_cons_self).1)
    exact Or.inl ⟨this.1, this.2, w.1, w.2⟩
  · obtain ⟨z2, e2, r⟩ := gW_int (show gW _ _ from q) (Nat.le_of_ble_eq_true rfl)
    cases e2
    have := gR0 r
    have w := gR0 (show gR (0, 1, 1, 0, 0, 0) (M' 5 1) from (p _ List.mem_cons_self).1)
    exact Or.inr (Or.inl ⟨this.1, this.2, w.1, w.2⟩)
  · obtain ⟨z2, e2, r⟩ := gW_int (show gW _ _ from q) (Nat.le_of_ble_eq_true rfl)
    cases e2
    have := gR0 r
    have w := gR0 (show gR (0, 0, 0, 0, 0, 0) (M' 5 1) from (p _ List.mem_cons_self).1)
    exact Or.inr (Or.inr (Or.inl ⟨this.1, this.2, w.1, w.2⟩))
  · obtain ⟨z2, e2, r⟩ := gW_int (show gW _ _ from q) (Nat.le_of_ble_eq_true rfl)
    cases e2
    have := gR0 r
    have w := gR0 (show gR (0, 1, 1, 0, 0, 0) (M' 5 1) from (p _ List.mem_cons_self).1)
    exact Or.inr (Or.inr (Or.inr (Or.inl ⟨this.1, this.2, w.1, w.2⟩)))
  · obtain ⟨z2, e2, r⟩ := gW_int (show gW _ _ from q) (Nat.le_of_ble_eq_true rfl)
    cases e2
    have := gR0 r
    have w := gR0 (show gR (0, 2, 2, 0, 0, 0) (M' 5 1) from (p _ List.mem_cons_self).1)
    exact Or.inr (Or.inr (Or.inr (Or.inr (Or.inl ⟨this.1, this.2, w.1, w.2⟩))))
  · obtain ⟨z2, e2, r⟩ := gW_int (show gW _ _ from q) (Nat.le_of_ble_eq_true rfl)
    cases e2
    have := gR0 r
    have w := gR0 (show gR (0, 3, 3, 0, 0, 0) (M' 5 1) from (p _ List.mem_cons_self).1)
    exact Or.inr (Or.inr (Or.inr (Or.inr (Or.inr (Or.inl ⟨this.1, this.2, w.1, w.2⟩)))))
  · obtain ⟨z2, e2, r⟩ := gW_int (show gW _ _ from q) (Nat.le_of_ble_eq_true rfl)
    cases e2
    have := gR0 r
    have w := gR0 (show gR (0, 4, 4, 0, 0, 0) (M' 5 1) from (p _ List.mem_cons_self).1)
    exact Or.inr (Or.inr (Or.inr (Or.inr (Or.inr (Or.inr (Or.inl ⟨this.1, this.2, w.1, w.2⟩))))))
  · obtain ⟨z2, e2, r⟩ := gW_int (show gW _ _ from q) (Nat.le_of_ble_eq_true rfl)
    cases e2
    have := gR0 r
    have w := gR0 (show gR (0, 5, 5, 0, 0, 0) (M' 5 1) from (p _ List.mem_cons_self).1)
    exact Or.inr (Or.inr (Or.inr (Or.inr (Or.inr (Or.inr (Or.inr ⟨this.1, this.2, w.1, w.2⟩))))))
theorem nu_X_way_2 {d : Nat} (hd : 5 ≤ d) {M : pM} {a1 : Int} {a2 : Int} (hM : gM gAll M) (h1 : -2147483648 ≤ a1 ∧ a1 ≤ 2147483647) (h2 : -2147483648 ≤ a2 ∧ a2 ≤ 2147483647) (p0 : 2 ≤ M 5 1 ∧ M 5 1 ≤ 2) : ∃ z M', xF d 34 [.inr 2, .inl a1, .inl a2] M = rI z M' ∧ ((-1 ≤ z ∧ z ≤ -1 ∧ 2 ≤ M' 5 1 ∧ M' 5 1 ≤ 2) ∨ (-2 ≤ z ∧ z ≤ -2 ∧ 2 ≤ M' 5 1 ∧ M' 5 1 ≤ 2) ∨ (0 ≤ z ∧ z ≤ 0 ∧ 0 ≤ M' 5 1 ∧ M' 5 1 ≤ 0) ∨ (1 ≤ z ∧ z ≤ 1 ∧ 1 ≤ M' 5 1 ∧ M' 5 1 ≤ 1) ∨ (2 ≤ z ∧ z ≤ 2 ∧ 2 ≤ M' 5 1 ∧ M' 5 1 ≤ 2) ∨ (3 ≤ z ∧ z ≤ 3 ∧ 3 ≤ M' 5 1 ∧ M' 5 1 ≤ 3) ∨ (4 ≤ z ∧ z ≤ 4 ∧ 4 ≤ M' 5 1 ∧ M' 5 1 ≤ 4) ∨ (5 ≤ z ∧ z ≤ 5 ∧ 5 ≤ M' 5 1 ∧ M' 5 1 ≤ 5)) := by
  have c0 : cOK gAll (xF d) 34 K_704 := (ct_of (d := d) ct_ok (show K_704 ∈ CT.getD 34 [] from (show CT.getD 34 [] = [K_702, K_703, K_704, K_705, K_706, K_707, K_708, K_709, K_710, K_711, K_712, K_713, K_413] from rfl) ▸ by simp) hd)
  obtain ⟨z, M', e, -, -, alt, ha, q, p⟩ := cOK_I c0 (A := [.inr 2, .inl a1, .inl a2]) (show aF2 gW [aRef 2, (0, -2147483648, 2147483647, 0, 0, 0), (0, -2147483648, 2147483647, 0, 0, 0)] [.inr 2, .inl a1, .inl a2] from ⟨gW_o, gW_i h1.1 h1.2, gW_i h2.1 h2.2, trivial⟩) hM (show gP0 [(5, 1, (0, 2, 2, 0, 0, 0))] M from fun e he => by
    simp only [List.mem_cons, List.not_mem_nil, or_false] at he
    rcases he with rfl
    · exact gR_i p0.1 p0.2) rfl
  refine ⟨z, M', e, ?_⟩
  have ha : alt ∈ [(some (0, -1, -1, 0, 0, 0), [], [(5, 1, (0, 2, 2, 0, 0, 0))]), (some (0, -2, -2, 0, 0, 0), [(4, 0, 0, 0, 0, 0), (0, 0, 9, 0, 0, 0), (0, 0, 5, 0, 0, 0)], [(5, 1, (0, 2, 2, 0, 0, 0)), (7, 9, (0, 1, 6, 0, 0, 0)), (7, 10, (0, 1, 10, 0, 0, 0))]), (some (0, 0, 0, 0, 0, 0), [(4, 0, 0, 0, 0, 0), (0, 0, 9, 0, 0, 0), (0, 0, 5, 0, 0, 0)], [(5, 1, (0, 0, 0, 0, 0, 0)), (7, 9, (0, 1, 6, 0, 0, 0)), (7, 10, (0, 1, 10, 0, 0, 0))]), (some (0, 1, 1, 0, 0, 0), [(4, 0, 0, 0, 0, 0), (0, 0, 9, 0, 0, 0), (0, 0, 5, 0, 0, 0)], [(5, 1, (0, 1, 1, 0, 0, 0)), (6, 0, (0, -2147483648, 2147483647, 0, 0, 0)), (7, 9, (0, 1, 6, 0, 0, 0)), (7, 10, (0, 1, 10, 0, 0, 0))]), (some (0, 2, 2, 0, 0, 0), [(4, 0, 0, 0, 0, 0), (0, 0, 9, 0, 0, 0), (0, 0, 5, 0, 0, 0)], [(5, 1, (0, 2, 2, 0, 0, 0)), (6, 1, (0, -2147483648, 2147483647, 0, 0, 0)), (7, 9, (0, 1, 6, 0, 0, 0)), (7, 10, (0, 1, 10, 0, 0, 0))]), (some (0, 3, 3, 0, 0, 0), [(4, 0, 0, 0, 0, 0), (0, 0, 9, 0, 0, 0), (0, 0, 5, 0, 0, 0)], [(5, 1, (0, 3, 3, 0, 0, 0)), (6, 2, (0, -2147483648, 2147483647, 0, 0, 0)), (7, 9, (0, 1, 6, 0, 0, 0)), (7, 10, (0, 1, 10, 0, 0, 0))]), (some (0, 4, 4, 0, 0, 0), [(4, 0, 0, 0, 0, 0), (0, 0, 9, 0, 0, 0), (0, 0, 5, 0, 0, 0)], [(5, 1, (0, 4, 4, 0, 0, 0)), (6, 3, (0, -2147483648, 2147483647, 0, 0, 0)), (7, 9, (0, 1, 6, 0, 0, 0)), (7, 10, (0, 1, 10, 0, 0, 0))]), (some (0, 5, 5, 0, 0, 0), [(4, 0, 0, 0, 0, 0), (0, 0, 9, 0, 0, 0), (0, 0, 5, 0, 0, 0)], [(5, 1, (0, 5, 5, 0, 0, 0)), (6, 4, (0, -2147483648, 2147483647, 0, 0, 0)), (7, 9, (0, 1, 6, 0, 0, 0)), (7, 10, (0, 1, 10, 0, 0, 0))])] := ha
  simp only [List.mem_cons, List.not_mem_nil, or_false] at ha
  rcases ha with rfl | rfl | rfl | rfl | rfl | rfl | rfl | rfl
  · obtain ⟨z2, e2, r⟩ := gW_int (show gW _ _ from q) (Nat.le_of_ble_eq_true rfl)
    cases e2
    have := gR0 r
    have w := gR0 (show gR (0, 2, 2, 0, 0, 0) (M' 5 1) from (p _ List.mem_cons_self).1)
    exact Or.inl ⟨this.1, this.2, w.1, w.2⟩
  · obtain ⟨z2, e2, r⟩ := gW_int (show gW _ _ from q) (Nat.le_of_ble_eq_true rfl)
    cases e2
    have := gR0 r
    have w := gR0 (show gR (0, 2, 2, 0, 0, 0) (M' 5 1) from (p _ List.mem_cons_self).1)
    exact Or.inr (Or.inl ⟨this.1, this.2, w.1, w.2⟩)
  · obtain ⟨z2, e2, r⟩ := gW_int (show gW _ _ from q) (Nat.le_of_ble_eq_true rfl)
    cases e2
    have := gR0 r
    have w := gR0 (show gR (0, 0, 0, 0, 0, 0) (M' 5 1) from (p _ List.mem_cons_self).1)
    exact Or.inr (Or.inr (Or.inl ⟨this.1, this.2, w.1, w.2⟩))
  · obtain ⟨z2, e2, r⟩ := gW_int (show gW _ _ from q) (Nat.le_of_ble_eq_true rfl)
    cases e2
    have := gR0 r
    have w := gR0 (show gR (0, 1, 1, 0, 0, 0) (M' 5 1) from (p _ List.mem_cons_self).1)
    exact Or.inr (Or.inr (Or.inr (Or.inl ⟨this.1, this.2, w.1, w.2⟩)))
  · obtain ⟨z2, e2, r⟩ := gW_int (show gW _ _ from q) (Nat.le_of_ble_eq_true rfl)
    cases e2
    have := gR0 r
    have w := gR0 (show gR (0, 2, 2, 0, 0, 0) (M' 5 1) from (p _ List.mem_cons_self).1)
    exact Or.inr (Or.inr (Or.inr (Or.inr (Or.inl ⟨this.1, this.2, w.1, w.2⟩))))
  · obtain ⟨z2, e2, r⟩ := gW_int (show gW _ _ from q) (Nat.le_of_ble_eq_true rfl)
    cases e2
    have := gR0 r
    have w := gR0 (show gR (0, 3, 3, 0, 0, 0) (M' 5 1) from (p _ List.mem_cons_self).1)
    exact Or.inr (Or.inr (Or.inr (Or.inr (Or.inr (Or.inl ⟨this.1, this.2, w.1, w.2⟩)))))
  · obtain ⟨z2, e2, r⟩ := gW_int (show gW _ _ from q) (Nat.le_of_ble_eq_true rfl)
    cases e2
    have := gR0 r
    have w := gR0 (show gR (0, 4, 4, 0, 0, 0) (M' 5 1) from (p _ List.mem_cons_self).1)
    exact Or.inr (Or.inr (Or.inr (Or.inr (Or.inr (Or.inr (Or.inl ⟨this.1, this.2, w.1, w.2⟩))))))
  · obtain ⟨z2, e2, r⟩ := gW_int (show gW _ _ from q) (Nat.le_of_ble_eq_true rfl)
    cases e2
    have := gR0 r
    have w := gR0 (show gR (0, 5, 5, 0, 0, 0) (M' 5 1) from (p _ List.mem_cons_self).1)
    exact Or.inr (Or.inr (Or.inr (Or.inr (Or.inr (Or.inr (Or.inr ⟨this.1, this.2, w.1, w.2⟩))))))
theorem nu_X_way_3 {d : Nat} (hd : 5 ≤ d) {M : pM} {a1 : Int} {a2 : Int} (hM : gM gAll M) (h1 : -2147483648 ≤ a1 ∧ a1 ≤ 2147483647) (h2 : -2147483648 ≤ a2 ∧ a2 ≤ 2147483647) (p0 : 3 ≤ M 5 1 ∧ M 5 1 ≤ 3) : ∃ z M', xF d 34 [.inr 2, .inl a1, .inl a2] M = rI z M' ∧ ((-1 ≤ z ∧ z ≤ -1 ∧ 3 ≤ M' 5 1 ∧ M' 5 1 ≤ 3) ∨ (-2 ≤ z ∧ z ≤ -2 ∧ 3 ≤ M' 5 1 ∧ M' 5 1 ≤ 3) ∨ (0 ≤ z ∧ z ≤ 0 ∧ 0 ≤ M' 5 1 ∧ M' 5 1 ≤ 0) ∨ (1 ≤ z ∧ z ≤ 1 ∧ 1 ≤ M' 5 1 ∧ M' 5 1 ≤ 1) ∨ (2 ≤ z ∧ z ≤ 2 ∧ 2 ≤ M' 5 1 ∧ M' 5 1 ≤ 2) ∨ (3 ≤ z ∧ z ≤ 3 ∧ 3 ≤ M' 5 1 ∧ M' 5 1 ≤ 3) ∨ (4 ≤ z ∧ z ≤ 4 ∧ 4 ≤ M' 5 1 ∧ M' 5 1 ≤ 4) ∨ (5 ≤ z ∧ z ≤ 5 ∧ 5 ≤ M' 5 1 ∧ M' 5 1 ≤ 5)) := by
  have c0 : cOK gAll (xF d) 34 K_705 := (ct_of (d := d) ct_ok (show K_705 ∈ CT.getD 34 [] from (show CT.getD 34 [] = [K_702, K_703, K_704, K_705, K_706, K_707, K_708, K_709, K_710, K_711, K_712, K_713, K_413] from rfl) ▸ by simp) hd)
  obtain ⟨z, M', e, -, -, alt, ha, q, p⟩ := cOK_I c0 (A := [.inr 2, .inl a1, .inl a2]) (show aF2 gW [aRef 2, (0, -2147483648, 2147483647, 0, 0, 0), (0, -2147483648, 2147483647, 0, 0, 0)] [.inr 2, .inl a1, .inl a2] from ⟨gW_o, gW_i h1.1 h1.2, gW_i h2.1 h2.2, trivial⟩) hM (show gP0 [(5, 1, (0, 3, 3, 0, 0, 0))] M from fun e he => by
    simp only [List.mem_cons, List.not_mem_nil, or_false] at he
    rcases he with rfl
    · exact gR_i p0.1 p0.2) rfl
  refine ⟨z, M', e, ?_⟩
  have ha : alt ∈ [(some (0, -1, -1, 0, 0, 0), [], [(5, 1, (0, 3, 3, 0, 0, 0))]), (some (0, -2, -2, 0, 0, 0), [(4, 0, 0, 0, 0, 0), (0, 0, 9, 0, 0, 0), (0, 0, 5, 0, 0, 0)], [(5, 1, (0, 3, 3, 0, 0, 0)), (7, 9, (0, 1, 6, 0, 0, 0)), (7, 10, (0, 1, 10, 0, 0, 0))]), (some (0, 0, 0, 0, 0, 0), [(4, 0, 0, 0, 0, 0), (0, 0, 9, 0, 0, 0), (0, 0, 5, 0, 0, 0)], [(5, 1, (0, 0, 0, 0, 0, 0)), (7, 9, (0, 1, 6, 0, 0, 0)), (7, 10, (0, 1, 10, 0, 0, 0))]), (some (0, 1, 1, 0, 0, 0), [(4, 0, 0, 0, 0, 0), (0, 0, 9, 0, 0, 0), (0, 0, 5, 0, 0, 0)], [(5, 1, (0, 1, 1, 0, 0, 0)), (6, 0, (0, -2147483648, 2147483647, 0, 0, 0)), (7, 9, (0, 1, 6, 0, 0, 0)), (7, 10, (0, 1, 10, 0, 0, 0))]), (some (0, 2, 2, 0, 0, 0), [(4, 0, 0, 0, 0, 0), (0, 0, 9, 0, 0, 0), (0, 0, 5, 0, 0, 0)], [(5, 1, (0, 2, 2, 0, 0, 0)), (6, 1, (0, -2147483648, 2147483647, 0, 0, 0)), (7, 9, (0, 1, 6, 0, 0, 0)), (7, 10, (0, 1, 10, 0, 0, 0))]), (some (0, 3, 3, 0, 0, 0), [(4, 0, 0, 0, 0, 0), (0, 0, 9, 0, 0, 0), (0, 0, 5, 0, 0, 0)], [(5, 1, (0, 3, 3, 0, 0, 0)), (6, 2, (0, -2147483648, 2147483647, 0, 0, 0)), (7, 9, (0, 1, 6, 0, 0, 0)), (7, 10, (0, 1, 10, 0, 0, 0))]), (some (0, 4, 4, 0, 0, 0), [(4, 0, 0, 0, 0, 0), (0, 0, 9, 0, 0, 0), (0, 0, 5, 0, 0, 0)], [(5, 1, (0, 4, 4, 0, 0, 0)), (6, 3, (0, -2147483648, 2147483647, 0, 0, 0)), (7, 9, (0, 1, 6, 0, 0, 0)), (7, 10, (0, 1, 10, 0, 0, 0))]), (some (0, 5, 5, 0, 0, 0), [(4, 0, 0, 0, 0, 0), (0, 0, 9, 0, 0, 0), (0, 0, 5, 0, 0, 0)], [(5, 1, (0, 5, 5, 0, 0, 0)), (6, 4, (0, -2147483648, 2147483647, 0, 0, 0)), (7, 9, (0, 1, 6, 0, 0, 0)), (7, 10, (0, 1, 10, 0, 0, 0))])] := ha
  simp only [List.mem_cons, List.not_mem_nil, or_false] at ha
  rcases ha with rfl | rfl | rfl | rfl | rfl | rfl | rfl | rfl
  · obtain ⟨z2, e2, r⟩ := gW_int (show gW _ _ from q) (Nat.le_of_ble_eq_true rfl)
    cases e2
    have := gR0 r
    have w := gR0 (show gR (0, 3, 3, 0, 0, 0) (M' 5 1) from (p _ List.mem_cons_self).1)
    exact Or.inl ⟨this.1, this.2, w.1, w.2⟩
  · obtain ⟨z2, e2, r⟩ := gW_int (show gW _ _ from q) (Nat.le_of_ble_eq_true rfl)
    cases e2
    have := gR0 r
    have w := gR0 (show gR (0, 3, 3, 0, 0, 0) (M' 5 1) from (p _ List.mem_cons_self).1)
    exact Or.inr (Or.inl ⟨this.1, this.2, w.1, w.2⟩)
  · obtain ⟨z2, e2, r⟩ := gW_int (show gW _ _ from q) (Nat.le_of_ble_eq_true rfl)
    cases e2
    have := gR0 r
    have w := gR0 (show gR (0, 0, 0, 0, 0, 0) (M' 5 1) from (p _ List.mem_cons_self).1)
    exact Or.inr (Or.inr (Or.inl ⟨this.1, this.2, w.1, w.2⟩))
  · obtain ⟨z2, e2, r⟩ := gW_int (show gW _ _ from q) (Nat.le_of_ble_eq_true rfl)
    cases e2
    have := gR0 r
    have w := gR0 (show gR (0, 1, 1, 0, 0, 0) (M' 5 1) from (p _ List.mem_cons_self).1)
    exact Or.inr (Or.inr (Or.inr (Or.inl ⟨this.1, this.2, w.1, w.2⟩)))
  · obtain ⟨z2, e2, r⟩ := gW_int (show gW _ _ from q) (Nat.le_of_ble_eq_true rfl)
    cases e2
    have := gR0 r
    have w := gR0 (show gR (0, 2, 2, 0, 0, 0) (M' 5 1) from (p _ List.mem_cons_self).1)
    exact Or.inr (Or.inr (Or.inr (Or.inr (Or.inl ⟨this.1, this.2, w.1, w.2⟩))))
  · obtain ⟨z2, e2, r⟩ := gW_int (show gW _ _ from q) (Nat.le_of_ble_eq_true rfl)
    cases e2
    have := gR0 r
    have w := gR0 (show gR (0, 3, 3, 0, 0, 0) (M' 5 1) from (p _ List.mem_cons_self).1)
    exact Or.inr (Or.inr (Or.inr (Or.inr (Or.inr (Or.inl ⟨this.1, this.2, w.1, w.2⟩)))))
  · obtain ⟨z2, e2, r⟩ := gW_int (show gW _ _ from q) (Nat.le_of_ble_eq_true rfl)
    cases e2
    have := gR0 r
    have w := gR0 (show gR (0, 4, 4, 0, 0, 0) (M' 5 1) from (p _ List.mem_cons_self).1)
    exact Or.inr (Or.inr (Or.inr (Or.inr (Or.inr (Or.inr (Or.inl ⟨this.1, this.2, w.1, w.2⟩))))))
  · obtain ⟨z2, e2, r⟩ := gW_int (show gW _ _ from q) (Nat.le_of_ble_eq_true rfl)
    cases e2
    have := gR0 r
    have w := gR0 (show gR (0, 5, 5, 0, 0, 0) (M' 5 1) from (p _ List.mem_cons_self).1)
    exact Or.inr (Or.inr (Or.inr (Or.inr (Or.inr (Or.inr (Or.inr ⟨this.1, this.2, w.1, w.2⟩))))))
theorem nu_X_way_4 {d : Nat} (hd : 5 ≤ d) {M : pM} {a1 : Int} {a2 : Int} (hM : gM gAll M) (h1 : -2147483648 ≤ a1 ∧ a1 ≤ 2147483647) (h2 : -2147483648 ≤ a2 ∧ a2 ≤ 2147483647) (p0 : 4 ≤ M 5 1 ∧ M 5 1 ≤ 4) : ∃ z M', xF d 34 [.inr 2, .inl a1, .inl a2] M = rI z M' ∧ ((-1 ≤ z ∧ z ≤ -1 ∧ 4 ≤ M' 5 1 ∧ M' 5 1 ≤ 4) ∨ (-2 ≤ z ∧ z ≤ -2 ∧ 4 ≤ M' 5 1 ∧ M' 5 1 ≤ 4) ∨ (0 ≤ z ∧ z ≤ 0 ∧ 0 ≤ M' 5 1 ∧ M' 5 1 ≤ 0) ∨ (1 ≤ z ∧ z ≤ 1 ∧ 1 ≤ M' 5 1 ∧ M' 5 1 ≤ 1) ∨ (2 ≤ z ∧ z ≤ 2 ∧ 2 ≤ M' 5 1 ∧ M' 5 1 ≤ 2) ∨ (3 ≤ z ∧ z ≤ 3 ∧ 3 ≤ M' 5 1 ∧ M' 5 1 ≤ 3) ∨ (4 ≤ z ∧ z ≤ 4 ∧ 4 ≤ M' 5 1 ∧ M' 5 1 ≤ 4) ∨ (5 ≤ z ∧ z ≤ 5 ∧ 5 ≤ M' 5 1 ∧ M' 5 1 ≤ 5)) := by
  have c0 : cOK gAll (xF d) 34 K_706 := (ct_of (d := d) ct_ok (show K_706 ∈ CT.getD 34 [] from (show CT.getD 34 [] = [K_702, K_703, K_704, K_705, K_706, K_707, K_708, K_709, K_710, K_711, K_712, K_713, K_413] from rfl) ▸ by simp) hd)
  obtain ⟨z, M', e, -, -, alt, ha, q, p⟩ := cOK_I c0 (A := [.inr 2, .inl a1, .inl a2]) (show aF2 gW [aRef 2, (0, -2147483648, 2147483647, 0, 0, 0), (0, -2147483648, 2147483647, 0, 0, 0)] [.inr 2, .inl a1, .inl a2] from ⟨gW_o, gW_i h1.1 h1.2, gW_i h2.1 h2.2, trivial⟩) hM (show gP0 [(5, 1, (0, 4, 4, 0, 0, 0))] M from fun e he => by
    simp only [List.mem_cons, List.not_mem_nil, or_false] at he
    rcases he with rfl
    · exact gR_i p0.1 p0.2) rfl
  refine ⟨z, M', e, ?_⟩
  have ha : alt ∈ [(some (0, -1, -1, 0, 0, 0), [], [(5, 1, (0, 4, 4, 0, 0, 0))]), (some (0, -2, -2, 0, 0, 0), [(4, 0, 0, 0, 0, 0), (0, 0, 9, 0, 0, 0), (0, 0, 5, 0, 0, 0)], [(5, 1, (0, 4, 4, 0, 0, 0)), (7, 9, (0, 1, 6, 0, 0, 0)), (7, 10, (0, 1, 10, 0, 0, 0))]), (some (0, 0, 0, 0, 0, 0), [(4, 0, 0, 0, 0, 0), (0, 0, 9, 0, 0, 0), (0, 0, 5, 0, 0, 0)], [(5, 1, (0, 0, 0, 0, 0, 0)), (7, 9, (0, 1, 6, 0, 0, 0)), (7, 10, (0, 1, 10, 0, 0, 0))]), (some (0, 1, 1, 0, 0, 0), [(4, 0, 0, 0, 0, 0), (0, 0, 9, 0, 0, 0), (0, 0, 5, 0, 0, 0)], [(5, 1, (0, 1, 1, 0, 0, 0)), (6, 0, (0, -2147483648, 2147483647, 0, 0, 0)), (7, 9, (0, 1, 6, 0, 0, 0)), (7, 10, (0, 1, 10, 0, 0, 0))]), (some (0, 2, 2, 0, 0, 0), [(4, 0, 0, 0, 0, 0), (0, 0, 9, 0, 0, 0), (0, 0, 5, 0, 0, 0)], [(5, 1, (0, 2, 2, 0, 0, 0)), (6, 1, (0, -2147483648, 2147483647, 0, 0, 0)), (7, 9, (0, 1, 6, 0, 0, 0)), (7, 10, (0, 1, 10, 0, 0, 0))]), (some (0, 3, 3, 0, 0, 0), [(4, 0, 0, 0, 0, 0), (0, 0, 9, 0, 0, 0), (0, 0, 5, 0, 0, 0)], [(5, 1, (0, 3, 3, 0, 0, 0)), (6, 2, (0, -2147483648, 2147483647, 0, 0, 0)), (7, 9, (0, 1, 6, 0, 0, 0)), (7, 10, (0, 1, 10, 0, 0, 0))]), (some (0, 4, 4, 0, 0, 0), [(4, 0, 0, 0, 0, 0), (0, 0, 9, 0, 0, 0), (0, 0, 5, 0, 0, 0)], [(5, 1, (0, 4, 4, 0, 0, 0)), (6, 3, (0, -2147483648, 2147483647, 0, 0, 0)), (7, 9, (0, 1, 6, 0, 0, 0)), (7, 10, (0, 1, 10, 0, 0, 0))]), (some (0, 5, 5, 0, 0, 0), [(4, 0, 0, 0, 0, 0), (0, 0, 9, 0, 0, 0), (0, 0, 5, 0, 0, 0)], [(5, 1, (0, 5, 5, 0, 0, 0)), (6, 4, (0, -2147483648, 2147483647, 0, 0, 0)), (7, 9, (0, 1, 6, 0, 0, 0)), (7, 10, (0, 1, 10, 0, 0, 0))])] := ha
  simp only [List.mem_cons, List.not_mem_nil, or_false] at ha
  rcases ha with rfl | rfl | rfl | rfl | rfl | rfl | rfl | rfl
  · obtain ⟨z2, e2, r⟩ := gW_int (show gW _ _ from q) (Nat.le_of_ble_eq_true rfl)
    cases e2
    have := gR0 r
    have w := gR0 (show gR (0, 4, 4, 0, 0, 0) (M' 5 1) from (p _ List.mem_cons_self).1)
    exact Or.inl ⟨this.1, this.2, w.1, w.2⟩
  · obtain ⟨z2, e2, r⟩ := gW_int (show gW _ _ from q) (Nat.le_of_ble_eq_true rfl)
    cases e2
    have := gR0 r
    have w := gR0 (show gR (0, 4, 4, 0, 0, 0) (M' 5 1) from (p _ List.mem_cons_self).1)
    exact Or.inr (Or.inl ⟨this.1, this.2, w.1, w.2⟩)
  · obtain ⟨z2, e2, r⟩ := gW_int (show gW _ _ from q) (Nat.le_of_ble_eq_true rfl)
    cases e2
    have := gR0 r
    have w := gR0 (show gR (0, 0, 0, 0, 0, 0) (M' 5 1) from (p _ List.mem_cons_self).1)
    exact Or.inr (Or.inr (Or.inl ⟨this.1, this.2, w.1, w.2⟩))
  · obtain ⟨z2, e2, r⟩ := gW_int (show gW _ _ from q) (Nat.le_of_ble_eq_true rfl)
    cases e2
    have := gR0 r
    have w := gR0 (show gR (0, 1, 1, 0, 0, 0) (M' 5 1) from (p _ List.mem_cons_self).1)
    exact Or.inr (Or.inr (Or.inr (Or.inl ⟨this.1, this.2, w.1, w.2⟩)))
  · obtain ⟨z2, e2, r⟩ := gW_int (show gW _ _ from q) (Nat.le_of_ble_eq_true rfl)
    cases e2
    have := gR0 r
    have w := gR0 (show gR (0, 2, 2, 0, 0, 0) (M' 5 1) from (p _ List.mem_cons_self).1)
    exact Or.inr (Or.inr (Or.inr (Or.inr (Or.inl ⟨this.1, this.2, w.1, w.2⟩))))
  · obtain ⟨z2, e2, r⟩ := gW_int (show gW _ _ from q) (Nat.le_of_ble_eq_true rfl)
    cases e2
    have := gR0 r
    have w := gR0 (show gR (0, 3, 3, 0, 0, 0) (M' 5 1) from (p _ List.mem_cons_self).1)
    exact Or.inr (Or.inr (Or.inr (Or.inr (Or.inr (Or.inl ⟨this.1, this.2, w.1, w.2⟩)))))
  · obtain ⟨z2, e2, r⟩ := gW_int (show gW _ _ from q) (Nat.le_of_ble_eq_true rfl)
    cases e2
    have := gR0 r
    have w := gR0 (show gR (0, 4, 4, 0, 0, 0) (M' 5 1) from (p _ List.mem_cons_self).1)
    exact Or.inr (Or.inr (Or.inr (Or.inr (Or.inr (Or.inr (Or.inl ⟨this.1, this.2, w.1, w.2⟩))))))
  · obtain ⟨z2, e2, r⟩ := gW_int (show gW _ _ from q) (Nat.le_of_ble_eq_true rfl)
    cases e2
    have := gR0 r
    have w := gR0 (show gR (0, 5, 5, 0, 0, 0) (M' 5 1) from (p _ List.mem_cons_self).1)
    exact Or.inr (Or.inr (Or.inr (Or.inr (Or.inr (Or.inr (Or.inr ⟨this.1, this.2, w.1, w.2⟩))))))
theorem nu_X_way_5 {d : Nat} (hd : 5 ≤ d) {M : pM} {a1 : Int} {a2 : Int} (hM : gM gAll M) (h1 : -2147483648 ≤ a1 ∧ a1 ≤ 2147483647) (h2 : -2147483648 ≤ a2 ∧ a2 ≤ 2147483647) (p0 : 5 ≤ M 5 1 ∧ M 5 1 ≤ 5) : ∃ z M', xF d 34 [.inr 2, .inl a1, .inl a2] M = rI z M' ∧ ((-1 ≤ z ∧ z ≤ -1 ∧ 5 ≤ M' 5 1 ∧ M' 5 1 ≤ 5) ∨ (-2 ≤ z ∧ z ≤ -2 ∧ 5 ≤ M' 5 1 ∧ M' 5 1 ≤ 5) ∨ (0 ≤ z ∧ z ≤ 0 ∧ 0 ≤ M' 5 1 ∧ M' 5 1 ≤ 0) ∨ (1 ≤ z ∧ z ≤ 1 ∧ 1 ≤ M' 5 1 ∧ M' 5 1 ≤ 1) ∨ (2 ≤ z ∧ z ≤ 2 ∧ 2 ≤ M' 5 1 ∧ M' 5 1 ≤ 2) ∨ (3 ≤ z ∧ z ≤ 3 ∧ 3 ≤ M' 5 1 ∧ M' 5 1 ≤ 3) ∨ (4 ≤ z ∧ z ≤ 4 ∧ 4 ≤ M' 5 1 ∧ M' 5 1 ≤ 4) ∨ (5 ≤ z ∧ z ≤ 5 ∧ 5 ≤ M' 5 1 ∧ M' 5 1 ≤ 5)) := by
  have c0 : cOK gAll (xF d) 34 K_707 := (ct_of (d := d) ct_ok (show K_707 ∈ CT.getD 34 [] from (show CT.getD 34 [] = [K_702, K_703, K_704, K_705, K_706, K_707, K_708, K_709, K_710, K_711, K_712, K_713, K_413] from rfl) ▸ by simp) hd)
  obtain ⟨z, M', e, -, -, alt, ha, q, p⟩ := cOK_I c0 (A := [.inr 2, .inl a1, .inl a2]) (show aF2 gW [aRef 2, (0, -2147483648, 2147483647, 0, 0, 0), (0, -2147483648, 2147483647, 0, 0, 0)] [.inr 2, .inl a1, .inl a2] from ⟨gW_o, gW_i h1.1 h1.2, gW_i h2.1 h2.2, trivial⟩) hM (show gP0 [(5, 1, (0, 5, 5, 0, 0, 0))] M from fun e he => by
    simp only [List.mem_cons, List.not_mem_nil, or_false] at he
    rcases he with rfl
    · exact gR_i p0.1 p0.2) rfl
  refine ⟨z, M', e, ?_⟩
  have ha : alt ∈ [(some (0, -1, -1, 0, 0, 0), [], [(5, 1, (0, 5, 5, 0, 0, 0))]), (some (0, -2, -2, 0, 0, 0), [(4, 0, 0, 0, 0, 0), (0, 0, 9, 0, 0, 0), (0, 0, 5, 0, 0, 0)], [(5, 1, (0, 5, 5, 0, 0, 0)), (7, 9, (0, 1, 6, 0, 0, 0)), (7, 10, (0, 1, 10, 0, 0, 0))]), (some (0, 0, 0, 0, 0, 0), [(4, 0, 0, 0, 0, 0), (0, 0, 9, 0, 0, 0), (0, 0, 5, 0, 0, 0)], [(5, 1, (0, 0, 0, 0, 0, 0)), (7, 9, (0, 1, 6, 0, 0, 0)), (7, 10, (0, 1, 10, 0, 0, 0))]), (some (0, 1, 1, 0, 0, 0), [(4, 0, 0, 0, 0, 0), (0, 0, 9, 0, 0, 0), (0, 0, 5, 0, 0, 0)], [(5, 1, (0, 1, 1, 0, 0, 0)), (6, 0, (0, -2147483648, 2147483647, 0, 0, 0)), (7, 9, (0, 1, 6, 0, 0, 0)), (7, 10, (0, 1, 10, 0, 0, 0))]), (some (0, 2, 2, 0, 0, 0), [(4, 0, 0, 0, 0, 0), (0, 0, 9, 0, 0, 0), (0, 0, 5, 0, 0, 0)], [(5, 1, (0, 2, 2, 0, 0, 0)), (6, 1, (0, -2147483648, 2147483647, 0, 0, 0)), (7, 9, (0, 1, 6, 0, 0, 0)), (7, 10, (0, 1, 10, 0, 0, 0))]), (some (0, 3, 3, 0, 0, 0), [(4, 0, 0, 0, 0, 0), (0, 0, 9, 0, 0, 0), (0, 0, 5, 0, 0, 0)], [(5, 1, (0, 3, 3, 0, 0, 0)), (6, 2, (0, -2147483648, 2147483647, 0, 0, 0)), (7, 9, (0, 1, 6, 0, 0, 0)), (7, 10, (0, 1, 10, 0, 0, 0))]), (some (0, 4, 4, 0, 0, 0), [(4, 0, 0, 0, 0, 0), (0, 0, 9, 0, 0, 0), (0, 0, 5, 0, 0, 0)], [(5, 1, (0, 4, 4, 0, 0, 0)), (6, 3, (0, -2147483648, 2147483647, 0, 0, 0)), (7, 9, (0, 1, 6, 0, 0, 0)), (7, 10, (0, 1, 10, 0, 0, 0))]), (some (0, 5, 5, 0, 0, 0), [(4, 0, 0, 0, 0, 0), (0, 0, 9, 0, 0, 0), (0, 0, 5, 0, 0, 0)], [(5, 1, (0, 5, 5, 0, 0, 0)), (6, 4, (0, -2147483648, 2147483647, 0, 0, 0)), (7, 9, (0, 1, 6, 0, 0, 0)), (7, 10, (0, 1, 10, 0, 0, 0))])] := ha
  simp only [List.mem_cons, List.not_mem_nil, or_false] at ha
  rcases ha with rfl | rfl | rfl | rfl | rfl | rfl | rfl | rfl
  · obtain ⟨z2, e2, r⟩ := gW_int (show gW _ _ from q) (Nat.le_of_ble_eq_true rfl)
    cases e2
    have := gR0 r
    have w := gR0 (show gR (0, 5, 5, 0, 0, 0) (M' 5 1) from (p _ List.mem_cons_self).1)
    exact Or.inl ⟨this.1, this.2, w.1, w.2⟩
  · obtain ⟨z2, e2, r⟩ := gW_int (show gW _ _ from q) (Nat.le_of_ble_eq_true rfl)
    cases e2
    have := gR0 r
    have w := gR0 (show gR (0, 5, 5, 0, 0, 0) (M' 5 1) from (p _ List.mem_cons_self).1)
    exact Or.inr (Or.inl ⟨this.1, this.2, w.1, w.2⟩)
  · obtain ⟨z2, e2, r⟩ := gW_int (show gW _ _ from q) (Nat.le_of_ble_eq_true rfl)
    cases e2
    have := gR0 r
    have w := gR0 (show gR (0, 0, 0, 0, 0, 0) (M' 5 1) from (p _ List.mem_cons_self).1)
    exact Or.inr (Or.inr (Or.inl ⟨this.1, this.2, w.1, w.2⟩))
  · obtain ⟨z2, e2, r⟩ := gW_int (show gW _ _ from q) (Nat.le_of_ble_eq_true rfl)
    cases e2
    have := gR0 r
    have w := gR0 (show gR (0, 1, 1, 0, 0, 0) (M' 5 1) from (p _ List.mem_cons_self).1)
    exact Or.inr (Or.inr (Or.inr (Or.inl ⟨this.1, this.2, w.1, w.2⟩)))
  · obtain ⟨z2, e2, r⟩ := gW_int (show gW _ _ from q) (Nat.le_of_ble_eq_true rfl)
    cases e2
    have := gR0 r
    have w := gR0 (show gR (0, 2, 2, 0, 0, 0) (M' 5 1) from (p _ List.mem_cons_self).1)
    exact Or.inr (Or.inr (Or.inr (Or.inr (Or.inl ⟨this.1, this.2, w.1, w.2⟩))))
  · obtain ⟨z2, e2, r⟩ := gW_int (show gW _ _ from q) (Nat.le_of_ble_eq_true rfl)
    cases e2
    have := gR0 r
    have w := gR0 (show gR (0, 3, 3, 0, 0, 0) (M' 5 1) from (p _ List.mem_cons_self).1)
    exact Or.inr (Or.inr (Or.inr (Or.inr (Or.inr (Or.inl ⟨this.1, this.2, w.1, w.2⟩)))))
  · obtain ⟨z2, e2, r⟩ := gW_int (show gW _ _ from q) (Nat.le_of_ble_eq_true rfl)
    cases e2
    have := gR0 r
    have w := gR0 (show gR (0, 4, 4, 0, 0, 0) (M' 5 1) from (p _ List.mem_cons_self).1)
    exact Or.inr (Or.inr (Or.inr (Or.inr (Or.inr (Or.inr (Or.inl ⟨this.1, this.2, w.1, w.2⟩))))))
  · obtain ⟨z2, e2, r⟩ := gW_int (show gW _ _ from q) (Nat.le_of_ble_eq_true rfl)
    cases e2
    have := gR0 r
    have w := gR0 (show gR (0, 5, 5, 0, 0, 0) (M' 5 1) from (p _ List.mem_cons_self).1)
    exact Or.inr (Or.inr (Or.inr (Or.inr (Or.inr (Or.inr (Or.inr ⟨this.1, this.2, w.1, w.2⟩))))))
theorem nu_X_way_6 {d : Nat} (hd : 5 ≤ d) {M : pM} {a1 : Int} {a2 : Int} (hM : gM gAll M) (h1 : -2147483648 ≤ a1 ∧ a1 ≤ 2147483647) (h2 : -2147483648 ≤ a2 ∧ a2 ≤ 2147483647) (p0 : 6 ≤ M 5 1 ∧ M 5 1 ≤ 6) : ∃ z M', xF d 34 [.inr 2, .inl a1, .inl a2] M = rI z M' ∧ ((-1 ≤ z ∧ z ≤ -1 ∧ 6 ≤ M' 5 1 ∧ M' 5 1 ≤ 6) ∨ (-2 ≤ z ∧ z ≤ -2 ∧ 6 ≤ M' 5 1 ∧ M' 5 1 ≤ 6) ∨ (0 ≤ z ∧ z ≤ 0 ∧ 0 ≤ M' 5 1 ∧ M' 5 1 ≤ 0) ∨ (1 ≤ z ∧ z ≤ 1 ∧ 1 ≤ M' 5 1 ∧ M' 5 1 ≤ 1) ∨ (2 ≤ z ∧ z ≤ 2 ∧ 2 ≤ M' 5 1 ∧ M' 5 1 ≤ 2) ∨ (3 ≤ z ∧ z ≤ 3 ∧ 3 ≤ M' 5 1 ∧ M' 5 1 ≤ 3) ∨ (4 ≤ z ∧ z ≤ 4 ∧ 4 ≤ M' 5 1 ∧ M' 5 1 ≤ 4) ∨ (5 ≤ z ∧ z ≤ 5 ∧ 5 ≤ M' 5 1 ∧ M' 5 1 ≤ 5)) := by
  have c0 : cOK gAll (xF d) 34 K_708 := (ct_of (d := d) ct_ok (show K_708 ∈ CT.getD 34 [] from (show CT.getD 34 [] = [K_702, K_703, K_704, K_705, K_706, K_707, K_708, K_709, K_710, K_711, K_712, K_713, K_413] from rfl) ▸ by simp) hd)
  obtain ⟨z, M', e, -, -, alt, ha, q, p⟩ := cOK_I c0 (A := [.inr 2, .inl a1, .inl a2]) (show aF2 gW [aRef 2, (0, -2147483648, 2147483647, 0, 0, 0), (0, -2147483648, 2147483647, 0, 0, 0)] [.inr 2, .inl a1, .inl a2] from ⟨gW_o, gW_i h1.1 h1.2, gW_i h2.1 h2.2, trivial⟩) hM (show gP0 [(5, 1, (0, 6, 6, 0, 0, 0))] M from fun e he => by
    simp only [List.mem_cons, List.not_mem_nil, or_false] at he
    rcases he with rfl
    · exact gR_i p0.1 p0.2) rfl
  refine ⟨z, M', e, ?_⟩
  have ha : alt ∈ [(some (0, -1, -1, 0, 0, 0), [], [(5, 1, (0, 6, 6, 0, 0, 0))]), (some (0, -2, -2, 0, 0, 0), [(4, 0, 0, 0, 0, 0), (0, 0, 9, 0, 0, 0), (0, 0, 5, 0, 0, 0)], [(5, 1, (0, 6, 6, 0, 0, 0)), (7, 9, (0, 1, 6, 0, 0, 0)), (7, 10, (0, 1, 10, 0, 0, 0))]), (some (0, 0, 0, 0, 0, 0), [(4, 0, 0, 0, 0, 0), (0, 0, 9, 0, 0, 0), (0, 0, 5, 0, 0, 0)], [(5, 1, (0, 0, 0, 0, 0, 0)), (7, 9, (0, 1, 6, 0, 0, 0)), (7, 10, (0, 1, 10, 0, 0, 0))]), (some (0, 1, 1, 0, 0, 0), [(4, 0, 0, 0, 0, 0), (0, 0, 9, 0, 0, 0), (0, 0, 5, 0, 0, 0)], [(5, 1, (0, 1, 1, 0, 0, 0)), (6, 0, (0, -2147483648, 2147483647, 0, 0, 0)), (7, 9, (0, 1, 6, 0, 0, 0)), (7, 10, (0, 1, 10, 0, 0, 0))]), (some (0, 2, 2, 0, 0, 0), [(4, 0, 0, 0, 0, 0), (0, 0, 9, 0, 0, 0), (0, 0, 5, 0, 0, 0)], [(5, 1, (0, 2, 2, 0, 0, 0)), (6, 1, (0, -2147483648, 2147483647, 0, 0, 0)), (7, 9, (0, 1, 6, 0, 0, 0)), (7, 10, (0, 1, 10, 0, 0, 0))]), (some (0, 3, 3, 0, 0, 0), [(4, 0, 0, 0, 0, 0), (0, 0, 9, 0, 0, 0), (0, 0, 5, 0, 0, 0)], [(5, 1, (0, 3, 3, 0, 0, 0)), (6, 2, (0, -2147483648, 2147483647, 0, 0, 0)), (7, 9, (0, 1, 6, 0, 0, 0)), (7, 10, (0, 1, 10, 0, 0, 0))]), (some (0, 4, 4, 0, 0, 0), [(4, 0, 0, 0, 0, 0), (0, 0, 9, 0, 0, 0), (0, 0, 5, 0, 0, 0)], [(5, 1, (0, 4, 4, 0, 0, 0)), (6, 3, (0, -2147483648, 2147483647, 0, 0, 0)), (7, 9, (0, 1, 6, 0, 0, 0)), (7, 10, (0, 1, 10, 0, 0, 0))]), (some (0, 5, 5, 0, 0, 0), [(4, 0, 0, 0, 0, 0), (0, 0, 9, 0, 0, 0), (0, 0, 5, 0, 0, 0)], [(5, 1, (0, 5, 5, 0, 0, 0)), (6, 4, (0, -2147483648, 2147483647, 0, 0, 0)), (7, 9, (0, 1, 6, 0, 0, 0)), (7, 10, (0, 1, 10, 0, 0, 0))])] := ha
  simp only [List.mem_cons, List.not_mem_nil, or_false] at ha
  rcases ha with rfl | rfl | rfl | rfl | rfl | rfl | rfl | rfl
  · obtain ⟨z2, e2, r⟩ := gW_int (show gW _ _ from q) (Nat.le_of_ble_eq_true rfl)
    cases e2
    have := gR0 r
    have w := gR0 (show gR (0, 6, 6, 0, 0, 0) (M' 5 1) from (p _ List.mem_cons_self).1)
    exact Or.inl ⟨this.1, this.2, w.1, w.2⟩
  · obtain ⟨z2, e2, r⟩ := gW_int (show gW _ _ from q) (Nat.le_of_ble_eq_true rfl)
    cases e2
    have := gR0 r
    have w := gR0 (show gR (0, 6, 6, 0, 0, 0) (M' 5 1) from (p _ List.mem_cons_self).1)
    exact Or.inr (Or.inl ⟨this.1, this.2, w.1, w.2⟩)
  · obtain ⟨z2, e2, r⟩ := gW_int (show gW _ _ from q) (Nat.le_of_ble_eq_true rfl)
    cases e2
    have := gR0 r
    have w := gR0 (show gR (0, 0, 0, 0, 0, 0) (M' 5 1) from (p _ List.mem_cons_self).1)
    exact Or.inr (Or.inr (Or.inl ⟨this.1, this.2, w.1, w.2⟩))
  · obtain ⟨z2, e2, r⟩ := gW_int (show gW _ _ from q) (Nat.le_of_ble_eq_true rfl)
    cases e2
    have := gR0 r
    have w := gR0 (show gR (0, 1, 1, 0, 0, 0) (M' 5 1) from (p _ List.mem_cons_self).1)
    exact Or.inr (Or.inr (Or.inr (Or.inl ⟨this.1, this.2, w.1, w.2⟩)))
  · obtain ⟨z2, e2, r⟩ := gW_int (show gW _ _ from q) (Nat.le_of_ble_eq_true rfl)
    cases e2
    have := gR0 r
    have w := gR0 (show gR (0, 2, 2, 0, 0, 0) (M' 5 1) from (p _ List.mem_cons_self).1)
    exact Or.inr (Or.inr (Or.inr (Or.inr (Or.inl ⟨this.1, this.2, w.1, w.2⟩))))
  · obtain ⟨z2, e2, r⟩ := gW_int (show gW _ _ from q) (Nat.le_of_ble_eq_true rfl)
    cases e2
    have := gR0 r
    have w := gR0 (show gR (0, 3, 3, 0, 0, 0) (M' 5 1) from (p _ List.mem_cons_self).1)
    exact Or.inr (Or.inr (Or.inr (Or.inr (Or.inr (Or.inl ⟨this.1, this.2, w.1, w.2⟩)))))
  · obtain ⟨z2, e2, r⟩ := gW_int (show gW _ _ from q) (Nat.le_of_ble_eq_true rfl)
    cases e2
    have := gR0 r
    have w := gR0 (show gR (0, 4, 4, 0, 0, 0) (M' 5 1) from (p _ List.mem_cons_self).1)
    exact Or.inr (Or.inr (Or.inr (Or.inr (Or.inr (Or.inr (Or.inl ⟨this.1, this.2, w.1, w.2⟩))))))
  · obtain ⟨z2, e2, r⟩ := gW_int (show gW _ _ from q) (Nat.le_of_ble_eq_true rfl)
    cases e2
    have := gR0 r
    have w := gR0 (show gR (0, 5, 5, 0, 0, 0) (M' 5 1) from (p _ List.mem_cons_self).1)
    exact Or.inr (Or.inr (Or.inr (Or.inr (Or.inr (Or.inr (Or.inr ⟨this.1, this.2, w.1, w.2⟩))))))
theorem nu_X_way_7 {d : Nat} (hd : 5 ≤ d) {M : pM} {a1 : Int} {a2 : Int} (hM : gM gAll M) (h1 : -2147483648 ≤ a1 ∧ a1 ≤ 2147483647) (h2 : -2147483648 ≤ a2 ∧ a2 ≤ 2147483647) (p0 : 7 ≤ M 5 1 ∧ M 5 1 ≤ 7) : ∃ z M', xF d 34 [.inr 2, .inl a1, .inl a2] M = rI z M' ∧ ((-1 ≤ z ∧ z ≤ -1 ∧ 7 ≤ M' 5 1 ∧ M' 5 1 ≤ 7) ∨ (-2 ≤ z ∧ z ≤ -2 ∧ 7 ≤ M' 5 1 ∧ M' 5 1 ≤ 7) ∨ (0 ≤ z ∧ z ≤ 0 ∧ 0 ≤ M' 5 1 ∧ M' 5 1 ≤ 0) ∨ (1 ≤ z ∧ z ≤ 1 ∧ 1 ≤ M' 5 1 ∧ M' 5 1 ≤ 1) ∨ (2 ≤ z ∧ z ≤ 2 ∧ 2 ≤ M' 5 1 ∧ M' 5 1 ≤ 2) ∨ (3 ≤ z ∧ z ≤ 3 ∧ 3 ≤ M' 5 1 ∧ M' 5 1 ≤ 3) ∨ (4 ≤ z ∧ z ≤ 4 ∧ 4 ≤ M' 5 1 ∧ M' 5 1 ≤ 4) ∨ (5 ≤ z ∧ z ≤ 5 ∧ 5 ≤ M' 5 1 ∧ M' 5 1 ≤ 5)) := by
  have c0 : cOK gAll (xF d) 34 K_709 := (ct_of (d := d) ct_ok (show K_709 ∈ CT.getD 34 [] from (show CT.getD 34 [] = [K_702, K_703, K_704, K_705, K_706, K_707, K_708, K_709, K_710, K_711, K_712, K_713, K_413] from rfl) ▸ by simp) hd)
  obtain ⟨z, M', e, -, -, alt, ha, q, p⟩ := cOK_I c0 (A := [.inr 2, .inl a1, .inl a2]) (show aF2 gW [aRef 2, (0, -2147483648, 2147483647, 0, 0, 0), (0, -2147483648, 2147483647, 0, 0, 0)] [.inr 2, .inl a1, .inl a2] from ⟨gW_o, gW_i h1.1 h1.2, gW_i h2.1 h2.2, trivial⟩) hM (show gP0 [(5, 1, (0, 7, 7, 0, 0, 0))] M from fun e he => by
    simp only [List.mem_cons, List.not_mem_nil, or_false] at he
    rcases he with rfl
    · exact gR_i p0.1 p0.2) rfl
  refine ⟨z, M', e, ?_⟩
  have ha : alt ∈ [(some (0, -1, -1, 0, 0, 0), [], [(5, 1, (0, 7, 7, 0, 0, 0))]), (some (0, -2, -2, 0, 0, 0), [(4, 0, 0, 0, 0, 0), (0, 0, 9, 0, 0, 0), (0, 0, 5, 0, 0, 0)], [(5, 1, (0, 7, 7, 0, 0, 0)), (7, 9, (0, 1, 6, 0, 0, 0)), (7, 10, (0, 1, 10, 0, 0, 0))]), (some (0, 0, 0, 0, 0, 0), [(4, 0, 0, 0, 0, 0), (0, 0, 9, 0, 0, 0), (0, 0, 5, 0, 0, 0)], [(5, 1, (0, 0, 0, 0, 0, 0)), (7, 9, (0, 1, 6, 0, 0, 0)), (7, 10, (0, 1, 10, 0, 0, 0))]), (some (0, 1, 1, 0, 0, 0), [(4, 0, 0, 0, 0, 0), (0, 0, 9, 0, 0, 0), (0, 0, 5, 0, 0, 0)], [(5, 1, (0, 1, 1, 0, 0, 0)), (6, 0, (0, -2147483648, 2147483647, 0, 0, 0)), (7, 9, (0, 1, 6, 0, 0, 0)), (7, 10, (0, 1, 10, 0, 0, 0))]), (some (0, 2, 2, 0, 0, 0), [(4, 0, 0, 0, 0, 0), (0, 0, 9, 0, 0, 0), (0, 0, 5, 0, 0, 0)], [(5, 1, (0, 2, 2, 0, 0, 0)), (6, 1, (0, -2147483648, 2147483647, 0, 0, 0)), (7, 9, (0, 1, 6, 0, 0, 0)), (7, 10, (0, 1, 10, 0, 0, 0))]), (some (0, 3, 3, 0, 0, 0), [(4, 0, 0, 0, 0, 0), (0, 0, 9, 0, 0, 0), (0, 0, 5, 0, 0, 0)], [(5, 1, (0, 3, 3, 0, 0, 0)), (6, 2, (0, -2147483648, 2147483647, 0, 0, 0)), (7, 9, (0, 1, 6, 0, 0, 0)), (7, 10, (0, 1, 10, 0, 0, 0))]), (some (0, 4, 4, 0, 0, 0), [(4, 0, 0, 0, 0, 0), (0, 0, 9, 0, 0, 0), (0, 0, 5, 0, 0, 0)], [(5, 1, (0, 4, 4, 0, 0, 0)), (6, 3, (0, -2147483648, 2147483647, 0, 0, 0)), (7, 9, (0, 1, 6, 0, 0, 0)), (7, 10, (0, 1, 10, 0, 0, 0))]), (some (0, 5, 5, 0, 0, 0), [(4, 0, 0, 0, 0, 0), (0, 0, 9, 0, 0, 0), (0, 0, 5, 0, 0, 0)], [(5, 1, (0, 5, 5, 0, 0, 0)), (6, 4, (0, -2147483648, 2147483647, 0, 0, 0)), (7, 9, (0, 1, 6, 0, 0, 0)), (7, 10, (0, 1, 10, 0, 0, 0))])] := ha
  simp only [List.mem_cons, List.not_mem_nil, or_false] at ha
  rcases ha with rfl | rfl | rfl | rfl | rfl | rfl | rfl | rfl
  · obtain ⟨z2, e2, r⟩ := gW_int (show gW _ _ from q) (Nat.le_of_ble_eq_true rfl)
    cases e2
    have := gR0 r
    have w := gR0 (show gR (0, 7, 7, 0, 0, 0) (M' 5 1) from (p _ List.mem_cons_self).1)
    exact Or.inl ⟨this.1, this.2, w.1, w.2⟩
  · obtain ⟨z2, e2, r⟩ := gW_int (show gW _ _ from q) (Nat.le_of_ble_eq_true rfl)
    cases e2
    have := gR0 r
    have w := gR0 (show gR (0, 7, 7, 0, 0, 0) (M' 5 1) from (p _ List.mem_cons_self).1)
    exact Or.inr (Or.inl ⟨this.1, this.2, w.1, w.2⟩)
  · obtain ⟨z2, e2, r⟩ := gW_int (show gW _ _ from q) (Nat.le_of_ble_eq_true rfl)
    cases e2
    have := gR0 r
    have w := gR0 (show gR (0, 0, 0, 0, 0, 0) (M' 5 1) from (p _ List.mem_cons_self).1)
    exact Or.inr (Or.inr (Or.inl ⟨this.1, this.2, w.1, w.2⟩))
  · obtain ⟨z2, e2, r⟩ := gW_int (show gW _ _ from q) (Nat.le_of_ble_eq_true rfl)
    cases e2
    have := gR0 r
    have w := gR0 (show gR (0, 1, 1, 0, 0, 0) (M' 5 1) from (p _ List.mem_cons_self).1)
    exact Or.inr (Or.inr (Or.inr (Or.inl ⟨this.1, this.2, w.1, w.2⟩)))
  · obtain ⟨z2, e2, r⟩ := gW_int (show gW _ _ from q) (Nat.le_of_ble_eq_true rfl)
    cases e2
    have := gR0 r
    have w := gR0 (show gR (0, 2, 2, 0, 0, 0) (M' 5 1) from (p _ List.mem_cons_self).1)
    exact Or.inr (Or.inr (Or.inr (Or.inr (Or.inl ⟨this.1, this.2, w.1, w.2⟩))))
  · obtain ⟨z2, e2, r⟩ := gW_int (show gW _ _ from q) (Nat.le_of_ble_eq_true rfl)
    cases e2
    have := gR0 r
    have w := gR0 (show gR (0, 3, 3, 0, 0, 0) (M' 5 1) from (p _ List.mem_cons_self).1)
    exact Or.inr (Or.inr (Or.inr (Or.inr (Or.inr (Or.inl ⟨this.1, this.2, w.1, w.2⟩)))))
  · obtain ⟨z2, e2, r⟩ := gW_int (show gW _ _ from q) (Nat.le_of_ble_eq_true rfl)
    cases e2
    have := gR0 r
    have w := gR0 (show gR (0, 4, 4, 0, 0, 0) (M' 5 1) from (p _ List.mem_cons_self).1)
    exact Or.inr (Or.inr (Or.inr (Or.inr (Or.inr (Or.inr (Or.inl ⟨this.1, this.2, w.1, w.2⟩))))))
  · obtain ⟨z2, e2, r⟩ := gW_int (show gW _ _ from q) (Nat.le_of_ble_eq_true rfl)
    cases e2
    have := gR0 r
    have w := gR0 (show gR (0, 5, 5, 0, 0, 0) (M' 5 1) from (p _ List.mem_cons_self).1)
    exact Or.inr (Or.inr (Or.inr (Or.inr (Or.inr (Or.inr (Or.inr ⟨this.1, this.2, w.1, w.2⟩))))))
theorem nu_X_way_8 {d : Nat} (hd : 5 ≤ d) {M : pM} {a1 : Int} {a2 : Int} (hM : gM gAll M) (h1 : -2147483648 ≤ a1 ∧ a1 ≤ 2147483647) (h2 : -2147483648 ≤ a2 ∧ a2 ≤ 2147483647) (p0 : 8 ≤ M 5 1 ∧ M 5 1 ≤ 8) : ∃ z M', xF d 34 [.inr 2, .inl a1, .inl a2] M = rI z M' ∧ ((-1 ≤ z ∧ z ≤ -1 ∧ 8 ≤ M' 5 1 ∧ M' 5 1 ≤ 8) ∨ (-2 ≤ z ∧ z ≤ -2 ∧ 8 ≤ M' 5 1 ∧ M' 5 1 ≤ 8) ∨ (0 ≤ z ∧ z ≤ 0 ∧ 0 ≤ M' 5 1 ∧ M' 5 1 ≤ 0) ∨ (1 ≤ z ∧ z ≤ 1 ∧ 1 ≤ M' 5 1 ∧ M' 5 1 ≤ 1) ∨ (2 ≤ z ∧ z ≤ 2 ∧ 2 ≤ M' 5 1 ∧ M' 5 1 ≤ 2) ∨ (3 ≤ z ∧ z ≤ 3 ∧ 3 ≤ M' 5 1 ∧ M' 5 1 ≤ 3) ∨ (4 ≤ z ∧ z ≤ 4 ∧ 4 ≤ M' 5 1 ∧ M' 5 1 ≤ 4) ∨ (5 ≤ z ∧ z ≤ 5 ∧ 5 ≤ M' 5 1 ∧ M' 5 1 ≤ 5)) := by
  have c0 : cOK gAll (xF d) 34 K_710 := (ct_of (d := d) ct_ok (show K_710 ∈ CT.getD 34 [] from (show CT.getD 34 [] = [K_702, K_703, K_704, K_705, K_706, K_707, K_708, K_709, K_710, K_711, K_712, K_713, K_413] from rfl) ▸ by simp) hd)
  obtain ⟨z, M', e, -, -, alt, ha, q, p⟩ := cOK_I c0 (A := [.inr 2, .inl a1, .inl a2]) (show aF2 gW [aRef 2, (0, -2147483648, 2147483647, 0, 0, 0), (0, -2147483648, 2147483647, 0, 0, 0)] [.inr 2, .inl a1, .inl a2] from ⟨gW_o, gW_i h1.1 h1.2, gW_i h2.1 h2.2, trivial⟩) hM (show gP0 [(5, 1, (0, 8, 8, 0, 0, 0))] M from fun e he => by
    simp only [List.mem_cons, List.not_mem_nil, or_false] at he
    rcases he with rfl
    · exact gR_i p0.1 p0.2) rfl
  refine ⟨z, M', e, ?_⟩
  have ha : alt ∈ [(some (0, -1, -1, 0, 0, 0), [], [(5, 1, (0, 8, 8, 0, 0, 0))]), (some (0, -2, -2, 0, 0, 0), [(4, 0, 0, 0, 0, 0), (0, 0, 9, 0, 0, 0), (0, 0, 5, 0, 0, 0)], [(5, 1, (0, 8, 8, 0, 0, 0)), (7, 9, (0, 1, 6, 0, 0, 0)), (7, 10, (0, 1, 10, 0, 0, 0))]), (some (0, 0, 0, 0, 0, 0), [(4, 0, 0, 0, 0, 0), (0, 0, 9, 0, 0, 0), (0, 0, 5, 0, 0, 0)], [(5, 1, (0, 0, 0, 0, 0, 0)), (7, 9, (0, 1, 6, 0, 0, 0)), (7, 10, (0, 1, 10, 0, 0, 0))]), (some (0, 1, 1, 0, 0, 0), [(4, 0, 0, 0, 0, 0), (0, 0, 9, 0, 0, 0), (0, 0, 5, 0, 0, 0)], [(5, 1, (0, 1, 1, 0, 0, 0)), (6, 0, (0, -2147483648, 2147483647, 0, 0, 0)), (7, 9, (0, 1, 6, 0, 0, 0)), (7, 10, (0, 1, 10, 0, 0, 0))]), (some (0, 2, 2, 0, 0, 0), [(4, 0, 0, 0, 0, 0), (0, 0, 9, 0, 0, 0), (0, 0, 5, 0, 0, 0)], [(5, 1, (0, 2, 2, 0, 0, 0)), (6, 1, (0, -2147483648, 2147483647, 0, 0, 0)), (7, 9, (0, 1, 6, 0, 0, 0)), (7, 10, (0, 1, 10, 0, 0, 0))]), (some (0, 3, 3, 0, 0, 0), [(4, 0, 0, 0, 0, 0), (0, 0, 9, 0, 0, 0), (0, 0, 5, 0, 0, 0)], [(5, 1, (0, 3, 3, 0, 0, 0)), (6, 2, (0, -2147483648, 2147483647, 0, 0, 0)), (7, 9, (0, 1, 6, 0, 0, 0)), (7, 10, (0, 1, 10, 0, 0, 0))]), (some (0, 4, 4, 0, 0, 0), [(4, 0, 0, 0, 0, 0), (0, 0, 9, 0, 0, 0), (0, 0, 5, 0, 0, 0)], [(5, 1, (0, 4, 4, 0, 0, 0)), (6, 3, (0, -2147483648, 2147483647, 0, 0, 0)), (7, 9, (0, 1, 6, 0, 0, 0)), (7, 10, (0, 1, 10, 0, 0, 0))]), (some (0, 5, 5, 0, 0, 0), [(4, 0, 0, 0, 0, 0), (0, 0, 9, 0, 0, 0), (0, 0, 5, 0, 0, 0)], [(5, 1, (0, 5, 5, 0, 0, 0)), (6, 4, (0, -2147483648, 2147483647, 0, 0, 0)), (7, 9, (0, 1, 6, 0, 0, 0)), (7, 10, (0, 1, 10, 0, 0, 0))])] := ha
  simp only [List.mem_cons, List.not_mem_nil, or_false] at ha
  rcases ha with rfl | rfl | rfl | rfl | rfl | rfl | rfl | rfl
  · obtain ⟨z2, e2, r⟩ := gW_int (show gW _ _ from q) (Nat.le_of_ble_eq_true rfl)
    cases e2
    have := gR0 r
    have w := gR0 (show gR (0, 8, 8, 0, 0, 0) (M' 5 1) from (p _ List.mem_cons_self).1)
    exact Or.inl ⟨this.1, this.2, w.1, w.2⟩
  · obtain ⟨z2, e2, r⟩ := gW_int (show gW _ _ from q) (Nat.le_of_ble_eq_true rfl)
    cases e2
    have := gR0 r
    have w := gR0 (show gR (0, 8, 8, 0, 0, 0) (M' 5 1) from (p _ List.mem_cons_self).1)
    exact Or.inr (Or.inl ⟨this.1, this.2, w.1, w.2⟩)
  · obtain ⟨z2, e2, r⟩ := gW_int (show gW _ _ from q) (Nat.le_of_ble_eq_true rfl)
    cases e2
    have := gR0 r
    have w := gR0 (show gR (0, 0, 0, 0, 0, 0) (M' 5 1) from (p _ List.mem_cons_self).1)
    exact Or.inr (Or.inr (Or.inl ⟨this.1, this.2, w.1, w.2⟩))
  · obtain ⟨z2, e2, r⟩ := gW_int (show gW _ _ from q) (Nat.le_of_ble_eq_true rfl)
    cases e2
    have := gR0 r
    have w := gR0 (show gR (0, 1, 1, 0, 0, 0) (M' 5 1) from (p _ List.mem_cons_self).1)
    exact Or.inr (Or.inr (Or.inr (Or.inl ⟨this.1, this.2, w.1, w.2⟩)))
  · obtain ⟨z2, e2, r⟩ := gW_int (show gW _ _ from q) (Nat.le_of_ble_eq_true rfl)
    cases e2
    have := gR0 r
    have w := gR0 (show gR (0, 2, 2, 0, 0, 0) (M' 5 1) from (p _ List.mem_cons_self).1)
    exact Or.inr (Or.inr (Or.inr (Or.inr (Or.inl ⟨this.1, this.2, w.1, w.2⟩))))
  · obtain ⟨z2, e2, r⟩ := gW_int (show gW _ _ from q) (Nat.le_of_ble_eq_true rfl)
    cases e2
    have := gR0 r
    have w := gR0 (show gR (0, 3, 3, 0, 0, 0) (M' 5 1) from (p _ List.mem_cons_self).1)
    exact Or.inr (Or.inr (Or.inr (Or.inr (Or.inr (Or.inl ⟨this.1, this.2, w.1, w.2⟩)))))
  · obtain ⟨z2, e2, r⟩ := gW_int (show gW _ _ from q) (Nat.le_of_ble_eq_true rfl)
    cases e2
    have := gR0 r
    have w := gR0 (show gR (0, 4, 4, 0, 0, 0) (M' 5 1) from (p _ List.mem_cons_self).1)
    exact Or.inr (Or.inr (Or.inr (Or.inr (Or.inr (Or.inr (Or.inl ⟨this.1, this.2, w.1, w.2⟩))))))
  · obtain ⟨z2, e2, r⟩ := gW_int (show gW _ _ from q) (Nat.le_of_ble_eq_true rfl)
    cases e2
    have := gR0 r
    have w := gR0 (show gR (0, 5, 5, 0, 0, 0) (M' 5 1) from (p _ List.mem_cons_self).1)
    exact Or.inr (Or.inr (Or.inr (Or.inr (Or.inr (Or.inr (Or.inr ⟨this.1, this.2, w.1, w.2⟩))))))
theorem nu_X_way_9 {d : Nat} (hd : 5 ≤ d) {M : pM} {a1 : Int} {a2 : Int} (hM : gM gAll M) (h1 : -2147483648 ≤ a1 ∧ a1 ≤ 2147483647) (h2 : -2147483648 ≤ a2 ∧ a2 ≤ 2147483647) (p0 : 9 ≤ M 5 1 ∧ M 5 1 ≤ 9) : ∃ z M', xF d 34 [.inr 2, .inl a1, .inl a2] M = rI z M' ∧ ((-1 ≤ z ∧ z ≤ -1 ∧ 9 ≤ M' 5 1 ∧ M' 5 1 ≤ 9) ∨ (-2 ≤ z ∧ z ≤ -2 ∧ 9 ≤ M' 5 1 ∧ M' 5 1 ≤ 9) ∨ (0 ≤ z ∧ z ≤ 0 ∧ 0 ≤ M' 5 1 ∧ M' 5 1 ≤ 0) ∨ (1 ≤ z ∧ z ≤ 1 ∧ 1 ≤ M' 5 1 ∧ M' 5 1 ≤ 1) ∨ (2 ≤ z ∧ z ≤ 2 ∧ 2 ≤ M' 5 1 ∧ M' 5 1 ≤ 2) ∨ (3 ≤ z ∧ z ≤ 3 ∧ 3 ≤ M' 5 1 ∧ M' 5 1 ≤ 3) ∨ (4 ≤ z ∧ z ≤ 4 ∧ 4 ≤ M' 5 1 ∧ M' 5 1 ≤ 4) ∨ (5 ≤ z ∧ z ≤ 5 ∧ 5 ≤ M' 5 1 ∧ M' 5 1 ≤ 5)) := by
  have c0 : cOK gAll (xF d) 34 K_711 := (ct_of (d := d) ct_ok (show K_711 ∈ CT.getD 34 [] from (show CT.getD 34 [] = [K_702, K_703, K_704, K_705, K_706, K_707, K_708, K_709, K_710, K_711, K_712, K_713, K_413] from rfl) ▸ by simp) hd)
  obtain ⟨z, M', e, -, -, alt, ha, q, p⟩ := cOK_I c0 (A := [.inr 2, .inl a1, .inl a2]) (show aF2 gW [aRef 2, (0, -2147483648, 2147483647, 0, 0, 0), (0, -2147483648, 2147483647, 0, 0, 0)] [.inr 2, .inl a1, .inl a2] from ⟨gW_o, gW_i h1.1 h1.2, gW_i h2.1 h2.2, trivial⟩) hM (show gP0 [(5, 1, (0, 9, 9, 0, 0, 0))] M from fun e he => by
    simp only [List.mem_cons, List.not_mem_nil, or_false] at he
    rcases he with rfl
    · exact gR_i p0.1 p0.2) rfl
  refine ⟨z, M', e, ?_⟩
  have ha : alt ∈ [(some (0, -1, -1, 0, 0, 0), [], [(5, 1, (0, 9, 9, 0, 0, 0))]), (some (0, -2, -2, 0, 0, 0), [(4, 0, 0, 0, 0, 0), (0, 0, 9, 0, 0, 0), (0, 0, 5, 0, 0, 0)], [(5, 1, (0, 9, 9, 0, 0, 0)), (7, 9, (0, 1, 6, 0, 0, 0)), (7, 10, (0, 1, 10, 0, 0, 0))]), (some (0, 0, 0, 0, 0, 0), [(4, 0, 0, 0, 0, 0), (0, 0, 9, 0, 0, 0), (0, 0, 5, 0, 0, 0)], [(5, 1, (0, 0, 0, 0, 0, 0)), (7, 9, (0, 1, 6, 0, 0, 0)), (7, 10, (0, 1, 10, 0, 0, 0))]), (some (0, 1, 1, 0, 0, 0), [(4, 0, 0, 0, 0, 0), (0, 0, 9, 0, 0, 0), (0, 0, 5, 0, 0, 0)], [(5, 1, (0, 1, 1, 0, 0, 0)), (6, 0, (0, -2147483648, 2147483647, 0, 0, 0)), (7, 9, (0, 1, 6, 0, 0, 0)), (7, 10, (0, 1, 10, 0, 0, 0))]), (some (0, 2, 2, 0, 0, 0), [(4, 0, 0, 0, 0, 0), (0, 0, 9, 0, 0, 0), (0, 0, 5, 0, 0, 0)], [(5, 1, (0, 2, 2, 0, 0, 0)), (6, 1, (0, -2147483648, 2147483647, 0, 0, 0)), (7, 9, (0, 1, 6, 0, 0, 0)), (7, 10, (0, 1, 10, 0, 0, 0))]), (some (0, 3, 3, 0, 0, 0), [(4, 0, 0, 0, 0, 0), (0, 0, 9, 0, 0, 0), (0, 0, 5, 0, 0, 0)], [(5, 1, (0, 3, 3, 0, 0, 0)), (6, 2, (0, -2147483648, 2147483647, 0, 0, 0)), (7, 9, (0, 1, 6, 0, 0, 0)), (7, 10, (0, 1, 10, 0, 0, 0))]), (some (0, 4, 4, 0, 0, 0), [(4, 0, 0, 0, 0, 0), (0, 0, 9, 0, 0, 0), (0, 0, 5, 0, 0, 0)], [(5, 1, (0, 4, 4, 0, 0, 0)), (6, 3, (0, -2147483648, 2147483647, 0, 0, 0)), (7, 9, (0, 1, 6, 0, 0, 0)), (7, 10, (0, 1, 10, 0, 0, 0))]), (some (0, 5, 5, 0, 0, 0), [(4, 0, 0, 0, 0, 0), (0, 0, 9, 0, 0, 0), (0, 0, 5, 0, 0, 0)], [(5, 1, (0, 5, 5, 0, 0, 0)), (6, 4, (0, -2147483648, 2147483647, 0, 0, 0)), (7, 9, (0, 1, 6, 0, 0, 0)), (7, 10, (0, 1, 10, 0, 0, 0))])] := ha
  simp only [List.mem_cons, List.not_mem_nil, or_false] at ha
  rcases ha with rfl | rfl | rfl | rfl | rfl | rfl | rfl | rfl
  · obtain ⟨z2, e2, r⟩ := gW_int (show gW _ _ from q) (Nat.le_of_ble_eq_true rfl)
    cases e2
    have := gR0 r
    have w := gR0 (show gR (0, 9, 9, 0, 0, 0) (M' 5 1) from (p _ List.mem_cons_self).1)
    exact Or.inl ⟨this.1, this.2, w.1, w.2⟩
  · obtain ⟨z2, e2, r⟩ := gW_int (show gW _ _ from q) (Nat.le_of_ble_eq_true rfl)
    cases e2
    have := gR0 r
    have w := gR0 (show gR (0, 9, 9, 0, 0, 0) (M' 5 1) from (p _ List.mem_cons_self).1)
    exact Or.inr (Or.inl ⟨this.1, this.2, w.1, w.2⟩)
  · obtain ⟨z2, e2, r⟩ := gW_int (show gW _ _ from q) (Nat.le_of_ble_eq_true rfl)
    cases e2
    have := gR0 r
    have w := gR0 (show gR (0, 0, 0, 0, 0, 0) (M' 5 1) from (p _ List.mem_cons_self).1)
    exact Or.inr (Or.inr (Or.inl ⟨this.1, this.2, w.1, w.2⟩))
  · obtain ⟨z2, e2, r⟩ := gW_int (show gW _ _ from q) (Nat.le_of_ble_eq_true rfl)
    cases e2
    have := gR0 r
    have w := gR0 (show gR (0, 1, 1, 0, 0, 0) (M' 5 1) from (p _ List.mem_cons_self).1)
    exact Or.inr (Or.inr (Or.inr (Or.inl ⟨this.1, this.2, w.1, w.2⟩)))
  · obtain ⟨z2, e2, r⟩ := gW_int (show gW _ _ from q) (Nat.le_of_ble_eq_true rfl)
    cases e2
    have := gR0 r
    have w := gR0 (show gR (0, 2, 2, 0, 0, 0) (M' 5 1) from (p _ List.mem_cons_self).1)
    exact Or.inr (Or.inr (Or.inr (Or.inr (Or.inl ⟨this.1, this.2, w.1, w.2⟩))))
  · obtain ⟨z2, e2, r⟩ := gW_int (show gW _ _ from q) (Nat.le_of_ble_eq_true rfl)
    cases e2
    have := gR0 r
    have w := gR0 (show gR (0, 3, 3, 0, 0, 0) (M' 5 1) from (p _ List.mem_cons_self).1)
    exact Or.inr (Or.inr (Or.inr (Or.inr (Or.inr (Or.inl ⟨this.1, this.2, w.1, w.2⟩)))))
  · obtain ⟨z2, e2, r⟩ := gW_int (show gW _ _ from q) (Nat.le_of_ble_eq_true rfl)
    cases e2
    have := gR0 r
    have w := gR0 (show gR (0, 4, 4, 0, 0, 0) (M' 5 1) from (p _ List.mem_cons_self).1)
    exact Or.inr (Or.inr (Or.inr (Or.inr (Or.inr (Or.inr (Or.inl ⟨this.1, this.2, w.1, w.2⟩))))))
  · obtain ⟨z2, e2, r⟩ := gW_int (show gW _ _ from q) (Nat.le_of_ble_eq_true rfl)
    cases e2
    have := gR0 r
    have w := gR0 (show gR (0, 5, 5, 0, 0, 0) (M' 5 1) from (p _ List.mem_cons_self).1)
    exact Or.inr (Or.inr (Or.inr (Or.inr (Or.inr (Or.inr (Or.inr ⟨this.1, this.2, w.1, w.2⟩))))))
theorem nu_X_way_10 {d : Nat} (hd : 5 ≤ d) {M : pM} {a1 : Int} {a2 : Int} (hM : gM gAll M) (h1 : -2147483648 ≤ a1 ∧ a1 ≤ 2147483647) (h2 : -2147483648 ≤ a2 ∧ a2 ≤ 2147483647) (p0 : 10 ≤ M 5 1 ∧ M 5 1 ≤ 10) : ∃ z M', xF d 34 [.inr 2, .inl a1, .inl a2] M = rI z M' ∧ ((-1 ≤ z ∧ z ≤ -1 ∧ 10 ≤ M' 5 1 ∧ M' 5 1 ≤ 10) ∨ (-2 ≤ z ∧ z ≤ -2 ∧ 10 ≤ M' 5 1 ∧ M' 5 1 ≤ 10) ∨ (0 ≤ z ∧ z ≤ 0 ∧ 0 ≤ M' 5 1 ∧ M' 5 1 ≤ 0) ∨ (1 ≤ z ∧ z ≤ 1 ∧ 1 ≤ M' 5 1 ∧ M' 5 1 ≤ 1) ∨ (2 ≤ z ∧ z ≤ 2 ∧ 2 ≤ M' 5 1 ∧ M' 5 1 ≤ 2) ∨ (3 ≤ z ∧ z ≤ 3 ∧ 3 ≤ M' 5 1 ∧ M' 5 1 ≤ 3) ∨ (4 ≤ z ∧ z ≤ 4 ∧ 4 ≤ M' 5 1 ∧ M' 5 1 ≤ 4) ∨ (5 ≤ z ∧ z ≤ 5 ∧ 5 ≤ M' 5 1 ∧ M' 5 1 ≤ 5)) := by
  have c0 : cOK gAll (xF d) 34 K_712 := (ct_of (d := d) ct_ok (show K_712 ∈ CT.getD 34 [] from (show CT.getD 34 [] = [K_702, K_703, K_704, K_705, K_706, K_707, K_708, K_709, K_710, K_711, K_712, K_713, K_413] from rfl) ▸ by simp) hd)
  obtain ⟨z, M', e, -, -, alt, ha, q, p⟩ := cOK_I c0 (A := [.inr 2, .inl a1, .inl a2]) (show aF2 gW [aRef 2, (0, -2147483648, 2147483647, 0, 0, 0), (0, -2147483648, 2147483647, 0, 0, 0)] [.inr 2, .inl a1, .inl a2] from ⟨gW_o, gW_i h1.1 h1.2, gW_i h2.1 h2.2, trivial⟩) hM (show gP0 [(5, 1, (0, 10, 10, 0, 0, 0))] M from fun e he => by
    simp only [List.mem_cons, List.not_mem_nil, or_false] at he
    rcases he with rfl
    · exact gR_i p0.1 p0.2) rfl
  refine ⟨z, M', e, ?_⟩
  have ha : alt ∈ [(some (0, -1, -1, 0, 0, 0), [], [(5, 1, (0, 10, 10, 0, 0, 0))]), (some (0, -2, -2, 0, 0, 0), [(4, 0, 0, 0, 0, 0), (0, 0, 9, 0, 0, 0), (0, 0, 5, 0, 0, 0)], [(5, 1, (0, 10, 10, 0, 0, 0)), (7, 9, (0, 1, 6, 0, 0, 0)), (7, 10, (0, 1, 10, 0, 0, 0))]), (some (0, 0, 0, 0, 0, 0), [(4, 0, 0, 0, 0, 0), (0, 0, 9, 0, 0, 0), (0, 0, 5, 0, 0, 0)], [(5, 1, (0, 0, 0, 0, 0, 0)), (7, 9, (0, 1, 6, 0, 0, 0)), (7, 10, (0, 1, 10, 0, 0, 0))]), (some (0, 1, 1, 0, 0, 0), [(4, 0, 0, 0, 0, 0), (0, 0, 9, 0, 0, 0), (0, 0, 5, 0, 0, 0)], [(5, 1, (0, 1, 1, 0, 0, 0)), (6, 0, (0, -2147483648, 2147483647, 0, 0, 0)), (7, 9, (0, 1, 6, 0, 0, 0)), (7, 10, (0, 1, 10, 0, 0, 0))]), (some (0, 2, 2, 0, 0, 0), [(4, 0, 0, 0, 0, 0), (0, 0, 9, 0, 0, 0), (0, 0, 5, 0, 0, 0)], [(5, 1, (0, 2, 2, 0, 0, 0)), (6, 1, (0, -2147483648, 2147483647, 0, 0, 0)), (7, 9, (0, 1, 6, 0, 0, 0)), (7, 10, (0, 1, 10, 0, 0, 0))]), (some (0, 3, 3, 0, 0, 0), [(4, 0, 0, 0, 0, 0), (0, 0, 9, 0, 0, 0), (0, 0, 5, 0, 0, 0)], [(5, 1, (0, 3, 3, 0, 0, 0)), (6, 2, (0, -2147483648, 2147483647, 0, 0, 0)), (7, 9, (0, 1, 6, 0, 0, 0)), (7, 10, (0, 1, 10, 0, 0, 0))]), (some (0, 4, 4, 0, 0, 0), [(4, 0, 0, 0, 0, 0), (0, 0, 9, 0, 0, 0), (0, 0, 5, 0, 0, 0)], [(5, 1, (0, 4, 4, 0, 0, 0)), (6, 3, (0, -2147483648, 2147483647, 0, 0, 0)), (7, 9, (0, 1, 6, 0, 0, 0)), (7, 10, (0, 1, 10, 0, 0, 0))]), (some (0, 5, 5, 0, 0, 0), [(4, 0, 0, 0, 0, 0), (0, 0, 9, 0, 0, 0), (0, 0, 5, 0, 0, 0)], [(5, 1, (0, 5, 5, 0, 0, 0)), (6, 4, (0, -2147483648, 2147483647, 0, 0, 0)), (7, 9, (0, 1, 6, 0, 0, 0)), (7, 10, (0, 1, 10, 0, 0, 0))])] := ha
  simp only [List.mem_cons, List.not_mem_nil, or_false] at ha
  rcases ha with rfl | rfl | rfl | rfl | rfl | rfl | rfl | rfl
  · obtain ⟨z2, e2, r⟩ := gW_int (show gW _ _ from q) (Nat.le_of_ble_eq_true rfl)
    cases e2
    have := gR0 r
    have w := gR0 (show gR (0, 10, 10, 0, 0, 0) (M' 5 1) from (p _ List.mem_cons_self).1)
    exact Or.inl ⟨this.1, this.2, w.1, w.2⟩
  · obtain ⟨z2, e2, r⟩ := gW_int (show gW _ _ from q) (Nat.le_of_ble_eq_true rfl)
    cases e2
    have := gR0 r
    have w := gR0 (show gR (0, 10, 10, 0, 0, 0) (M' 5 1) from (p _ List.mem_cons_self).1)
    exact Or.inr (Or.inl ⟨this.1, this.2, w.1, w.2⟩)
  · obtain ⟨z2, e2, r⟩ := gW_int (show gW _ _ from q) (Nat.le_of_ble_eq_true rfl)
    cases e2
    have := gR0 r
    have w := gR0 (show gR (0, 0, 0, 0, 0, 0) (M' 5 1) from (p _ List.mem_cons_self).1)
    exact Or.inr (Or.inr (Or.inl ⟨this.1, this.2, w.1, w.2⟩))
  · obtain ⟨z2, e2, r⟩ := gW_int (show gW _ _ from q) (Nat.le_of_ble_eq_true rfl)
    cases e2
    have := gR0 r
    have w := gR0 (show gR (0, 1, 1, 0, 0, 0) (M' 5 1) from (p _ List.mem_cons_self).1)
    exact Or.inr (Or.inr (Or.inr (Or.inl ⟨this.1, this.2, w.1, w.2⟩)))
  · obtain ⟨z2, e2, r⟩ := gW_int (show gW _ _ from q) (Nat.le_of_ble_eq_true rfl)
    cases e2
    have := gR0 r
    have w := gR0 (show gR (0, 2, 2, 0, 0, 0) (M' 5 1) from (p _ List.mem_cons_self).1)
    exact Or.inr (Or.inr (Or.inr (Or.inr (Or.inl ⟨this.1, this.2, w.1, w.2⟩))))
  · obtain ⟨z2, e2, r⟩ := gW_int (show gW _ _ from q) (Nat.le_of_ble_eq_true rfl)
    cases e2
    have := gR0 r
    have w := gR0 (show gR (0, 3, 3, 0, 0, 0) (M' 5 1) from (p _ List.mem_cons_self).1)
    exact Or.inr (Or.inr (Or.inr (Or.inr (Or.inr (Or.inl ⟨this.1, this.2, w.1, w.2⟩)))))
  · obtain ⟨z2, e2, r⟩ := gW_int (show gW _ _ from q) (Nat.le_of_ble_eq_true rfl)
    cases e2
    have := gR0 r
    have w := gR0 (show gR (0, 4, 4, 0, 0, 0) (M' 5 1) from (p _ List.mem_cons_self).1)
    exact Or.inr (Or.inr (Or.inr (Or.inr (Or.inr (Or.inr (Or.inl ⟨this.1, this.2, w.1, w.2⟩))))))
  · obtain ⟨z2, e2, r⟩ := gW_int (show gW _ _ from q) (Nat.le_of_ble_eq_true rfl)
    cases e2
    have := gR0 r
    have w := gR0 (show gR (0, 5, 5, 0, 0, 0) (M' 5 1) from (p _ List.mem_cons_self).1)
    exact Or.inr (Or.inr (Or.inr (Or.inr (Or.inr (Or.inr (Or.inr ⟨this.1, this.2, w.1, w.2⟩))))))
theorem nu_X_way_11 {d : Nat} (hd : 5 ≤ d) {M : pM} {a1 : Int} {a2 : Int} (hM : gM gAll M) (h1 : -2147483648 ≤ a1 ∧ a1 ≤ 2147483647) (h2 : -2147483648 ≤ a2 ∧ a2 ≤ 2147483647) (p0 : 11 ≤ M 5 1 ∧ M 5 1 ≤ 11) : ∃ z M', xF d 34 [.inr 2, .inl a1, .inl a2] M = rI z M' ∧ ((-1 ≤ z ∧ z ≤ -1 ∧ 11 ≤ M' 5 1 ∧ M' 5 1 ≤ 11) ∨ (-2 ≤ z ∧ z ≤ -2 ∧ 11 ≤ M' 5 1 ∧ M' 5 1 ≤ 11) ∨ (0 ≤ z ∧ z ≤ 0 ∧ 0 ≤ M' 5 1 ∧ M' 5 1 ≤ 0) ∨ (1 ≤ z ∧ z ≤ 1 ∧ 1 ≤ M' 5 1 ∧ M' 5 1 ≤ 1) ∨ (2 ≤ z ∧ z ≤ 2 ∧ 2 ≤ M' 5 1 ∧ M' 5 1 ≤ 2) ∨ (3 ≤ z ∧ z ≤ 3 ∧ 3 ≤ M' 5 1 ∧ M' 5 1 ≤ 3) ∨ (4 ≤ z ∧ z ≤ 4 ∧ 4 ≤ M' 5 1 ∧ M' 5 1 ≤ 4) ∨ (5 ≤ z ∧ z ≤ 5 ∧ 5 ≤ M' 5 1 ∧ M' 5 1 ≤ 5)) := by
  have c0 : cOK gAll (xF d) 34 K_713 := (ct_of (d := d) ct_ok (show K_713 ∈ CT.getD 34 [] from (show CT.getD 34 [] = [K_702, K_703, K_704, K_705, K_706, K_707, K_708, K_709, K_710, K_711, K_712, K_713, K_413] from rfl) ▸ by simp) hd)
  obtain ⟨z, M', e, -, -, alt, ha, q, p⟩ := cOK_I c0 (A := [.inr 2, .inl a1, .inl a2]) (show aF2 gW [aRef 2, (0, -2147483648, 2147483647, 0, 0, 0), (0, -2147483648, 2147483647, 0, 0, 0)] [.inr 2, .inl a1, .inl a2] from ⟨gW_o, gW_i h1.1 h1.2, gW_i h2.1 h2.2, trivial⟩) hM (show gP0 [(5, 1, (0, 11, 11, 0, 0, 0))] M from fun e he => by
    simp only [List.mem_cons, List.not_mem_nil, or_false] at he
    rcases he with rfl
    · exact gR_i p0.1 p0.2) rfl
  refine ⟨z, M', e, ?_⟩
  have ha : alt ∈ [(some (0, -1, -1, 0, 0, 0), [], [(5, 1, (0, 11, 11, 0, 0, 0))]), (some (0, -2, -2, 0, 0, 0), [(4, 0, 0, 0, 0, 0), (0, 0, 9, 0, 0, 0), (0, 0, 5, 0, 0, 0)], [(5, 1, (0, 11, 11, 0, 0, 0)), (7, 9, (0, 1, 6, 0, 0, 0)), (7, 10, (0, 1, 10, 0, 0, 0))]), (some (0, 0, 0, 0, 0, 0), [(4, 0, 0, 0, 0, 0), (0, 0, 9, 0, 0, 0), (0, 0, 5, 0, 0, 0)], [(5, 1, (0, 0, 0, 0, 0, 0)), (7, 9, (0, 1, 6, 0, 0, 0)), (7, 10, (0, 1, 10, 0, 0, 0))]), (some (0, 1, 1, 0, 0, 0), [(4, 0, 0, 0, 0, 0), (0, 0, 9, 0, 0, 0), (0, 0, 5, 0, 0, 0)], [(5, 1, (0, 1, 1, 0, 0, 0)), (6, 0, (0, -2147483648, 2147483647, 0, 0, 0)), (7, 9, (0, 1, 6, 0, 0, 0)), (7, 10, (0, 1, 10, 0, 0, 0))]), (some (0, 2, 2, 0, 0, 0), [(4, 0, 0, 0, 0, 0), (0, 0, 9, 0, 0, 0), (0, 0, 5, 0, 0, 0)], [(5, 1, (0, 2, 2, 0, 0, 0)), (6, 1, (0, -2147483648, 2147483647, 0, 0, 0)), (7, 9, (0, 1, 6, 0, 0, 0)), (7, 10, (0, 1, 10, 0, 0, 0))]), (some (0, 3, 3, 0, 0, 0), [(4, 0, 0, 0, 0, 0), (0, 0, 9, 0, 0, 0), (0, 0, 5, 0, 0, 0)], [(5, 1, (0, 3, 3, 0, 0, 0)), (6, 2, (0, -2147483648, 2147483647, 0, 0, 0)), (7, 9, (0, 1, 6, 0, 0, 0)), (7, 10, (0, 1, 10, 0, 0, 0))]), (some (0, 4, 4, 0, 0, 0), [(4, 0, 0, 0, 0, 0), (0, 0, 9, 0, 0, 0), (0, 0, 5, 0, 0, 0)], [(5, 1, (0, 4, 4, 0, 0, 0)), (6, 3, (0, -2147483648, 2147483647, 0, 0, 0)), (7, 9, (0, 1, 6, 0, 0, 0)), (7, 10, (0, 1, 10, 0, 0, 0))]), (some (0, 5, 5, 0, 0, 0), [(4, 0, 0, 0, 0, 0), (0, 0, 9, 0, 0, 0), (0, 0, 5, 0, 0, 0)], [(5, 1, (0, 5, 5, 0, 0, 0)), (6, 4, (0, -2147483648, 2147483647, 0, 0, 0)), (7, 9, (0, 1, 6, 0, 0, 0)), (7, 10, (0, 1, 10, 0, 0, 0))])] := ha
  simp only [List.mem_cons, List.not_mem_nil, or_false] at ha
  rcases ha with rfl | rfl | rfl | rfl | rfl | rfl | rfl | rfl
  · obtain ⟨z2, e2, r⟩ := gW_int (show gW _ _ from q) (Nat.le_of_ble_eq_true rfl)
    cases e2
    have := gR0 r
    have w := gR0 (show gR (0, 11, 11, 0, 0, 0) (M' 5 1) from (p _ List.mem_cons_self).1)
    exact Or.inl ⟨this.1, this.2, w.1, w.2⟩
  · obtain ⟨z2, e2, r⟩ := gW_int (show gW _ _ from q) (Nat.le_of_ble_eq_true rfl)
    cases e2
    have := gR0 r
    have w := gR0 (show gR (0, 11, 11, 0, 0, 0) (M' 5 1) from (p _ List.mem_cons_self).1)
    exact Or.inr (Or.inl ⟨this.1, this.2, w.1, w.2⟩)
  · obtain ⟨z2, e2, r⟩ := gW_int (show gW _ _ from q) (Nat.le_of_ble_eq_true rfl)
    cases e2
    have := gR0 r
    have w := gR0 (show gR (0, 0, 0, 0, 0, 0) (M' 5 1) from (p _ List.mem_cons_self).1)
    exact Or.inr (Or.inr (Or.inl ⟨this.1, this.2, w.1, w.2⟩))
  · obtain ⟨z2, e2, r⟩ := gW_int (show gW _ _ from q) (Nat.le_of_ble_eq_true rfl)
    cases e2
    have := gR0 r
    have w := gR0 (show gR (0, 1, 1, 0, 0, 0) (M' 5 1) from (p _ List.mem_cons_self).1)
    exact Or.inr (Or.inr (Or.inr (Or.inl ⟨this.1, this.2, w.1, w.2⟩)))
  · obtain ⟨z2, e2, r⟩ := gW_int (show gW _ _ from q) (Nat.le_of_ble_eq_true rfl)
    cases e2
    have := gR0 r
    have w := gR0 (show gR (0, 2, 2, 0, 0, 0) (M' 5 1) from (p _ List.mem_cons_self).1)
    exact Or.inr (Or.inr (Or.inr (Or.inr (Or.inl ⟨this.1, this.2, w.1, w.2⟩))))
  · obtain ⟨z2, e2, r⟩ := gW_int (show gW _ _ from q) (Nat.le_of_ble_eq_true rfl)
    cases e2
    have := gR0 r
    have w := gR0 (show gR (0, 3, 3, 0, 0, 0) (M' 5 1) from (p _ List.mem_cons_self).1)
    exact Or.inr (Or.inr (Or.inr (Or.inr (Or.inr (Or.inl ⟨this.1, this.2, w.1, w.2⟩)))))
  · obtain ⟨z2, e2, r⟩ := gW_int (show gW _ _ from q) (Nat.le_of_ble_eq_true rfl)
    cases e2
    have := gR0 r
    have w := gR0 (show gR (0, 4, 4, 0, 0, 0) (M' 5 1) from (p _ List.mem_cons_self).1)
    exact Or.inr (Or.inr (Or.inr (Or.inr (Or.inr (Or.inr (Or.inl ⟨this.1, this.2, w.1, w.2⟩))))))
  · obtain ⟨z2, e2, r⟩ := gW_int (show gW _ _ from q) (Nat.le_of_ble_eq_true rfl)
    cases e2
    have := gR0 r
    have w := gR0 (show gR (0, 5, 5, 0, 0, 0) (M' 5 1) from (p _ List.mem_cons_self).1)
    exact Or.inr (Or.inr (Or.inr (Or.inr (Or.inr (Or.inr (Or.inr ⟨this.1, this.2, w.1, w.2⟩))))))
theorem nu_X_way {d : Nat} (hd : 5 ≤ d) {M M' : pM} {a1 : Int} {a2 : Int} {v : Int} (hM : gM gAll M) (h1 : -2147483648 ≤ a1 ∧ a1 ≤ 2147483647) (h2 : -2147483648 ≤ a2 ∧ a2 ≤ 2147483647) {n : Nat} (hn : n ≤ 11) (hc : M 5 1 = (n : Int)) (e : xF d 34 [.inr 2, .inl a1, .inl a2] M = rI v M') : (-1 ≤ v ∧ v ≤ -1 ∧ M' 5 1 = (n : Int)) ∨ (-2 ≤ v ∧ v ≤ -2 ∧ M' 5 1 = (n : Int)) ∨ (0 ≤ v ∧ v ≤ 0 ∧ M' 5 1 = 0) ∨ (1 ≤ v ∧ v ≤ 1 ∧ M' 5 1 = 1) ∨ (2 ≤ v ∧ v ≤ 2 ∧ M' 5 1 = 2) ∨ (3 ≤ v ∧ v ≤ 3 ∧ M' 5 1 = 3) ∨ (4 ≤ v ∧ v ≤ 4 ∧ M' 5 1 = 4) ∨ (5 ≤ v ∧ v ≤ 5 ∧ M' 5 1 = 5) := by
  rcases (show n = 0 ∨ n = 1 ∨ n = 2 ∨ n = 3 ∨ n = 4 ∨ n = 5 ∨ n = 6 ∨ n = 7 ∨ n = 8 ∨ n = 9 ∨ n = 10 ∨ n = 11 by omega) with rfl | rfl | rfl | rfl | rfl | rfl | rfl | rfl | rfl | rfl | rfl | rfl
  · obtain ⟨z, M2, e2, r⟩ := nu_X_way_0 (d := d) (by omega) hM h1 h2 (by omega)
    obtain ⟨y1, y2⟩ := rI_inj (e.symm.trans e2)
    rw [y1, y2]
    rcases r with r | r | r | r | r | r | r | r
    · exact Or.inl (by omega)
    · exact Or.inr (Or.inl (by omega))
    · exact Or.inr (Or.inr (Or.inl (by omega)))
    · exact Or.inr (Or.inr (Or.inr (Or.inl (by omega))))
    · exact Or.inr (Or.inr (Or.inr (Or.inr (Or.inl (by omega)))))
    · exact Or.inr (Or.inr (Or.inr (Or.inr (Or.inr (Or.inl (by omega))))))
    · exact Or.inr (Or.inr (Or.inr (Or.inr (Or.inr (Or.inr (Or.inl (by omega)))))))
    · exact Or.inr (Or.inr (Or.inr (Or.inr (Or.inr (Or.inr (Or.inr ((by omega))))))))
  · obtain ⟨z, M2, e2, r⟩ := nu_X_way_1 (d := d) (by omega) hM h1 h2 (by omega)
    obtain ⟨y1, y2⟩ := rI_inj (e.symm.trans e2)
    rw [y1, y2]
    rcases r with r | r | r | r | r | r | r | r
    · exact Or.inl (by omega)
    · exact Or.inr (Or.inl (by omega))
    · exact Or.inr (Or.inr (Or.inl (by omega)))
    · exact Or.inr (Or.inr (Or.inr (Or.inl (by omega))))
    · exact Or.inr (Or.inr (Or.inr (Or.inr (Or.inl (by omega)))))
    · exact Or.inr (Or.inr (Or.inr (Or.inr (Or.inr (Or.inl (by omega))))))
    · exact Or.inr (Or.inr (Or.inr (Or.inr (Or.inr (Or.inr (Or.inl (by omega)))))))
    · exact Or.inr (Or.inr (Or.inr (Or.inr (Or.inr (Or.inr (Or.inr ((by omega))))))))
  · obtain ⟨z, M2, e2, r⟩ := nu_X_way_2 (d := d) (by omega) hM h1 h2 (by omega)
    obtain ⟨y1, y2⟩ := rI_inj (e.symm.trans e2)
    rw [y1, y2]
    rcases r with r | r | r | r | r | r | r | r
    · exact Or.inl (by omega)
    · exact Or.inr (Or.inl (by omega))
    · exact Or.inr (Or.inr (Or.inl (by omega)))
    · exact Or.inr (Or.inr (Or.inr (Or.inl (by omega))))
    · exact Or.inr (Or.inr (Or.inr (Or.inr (Or.inl (by omega)))))
    · exact Or.inr (Or.inr (Or.inr (Or.inr (Or.inr (Or.inl (by omega))))))
    · exact Or.inr (Or.inr (Or.inr (Or.inr (Or.inr (Or.inr (Or.inl (by omega)))))))
    · exact Or.inr (Or.inr (Or.inr (Or.inr (Or.inr (Or.inr (Or.inr ((by omega))))))))
  · obtain ⟨z, M2, e2, r⟩ := nu_X_way_3 (d := d) (by omega) hM h1 h2 (by omega)
    obtain ⟨y1, y2⟩ := rI_inj (e.symm.trans e2)
    rw [y1, y2]
    rcases r with r | r | r | r | r | r | r | r
    · exact Or.inl (by omega)
    · exact Or.inr (Or.inl (by omega))
    · exact Or.inr (Or.inr (Or.inl (by omega)))
    · exact Or.inr (Or.inr (Or.inr (Or.inl (by omega))))
    · exact Or.inr (Or.inr (Or.inr (Or.inr (Or.inl (by omega)))))
    · exact Or.inr (Or.inr (Or.inr (Or.inr (Or.inr (Or.inl (by omega))))))
    · exact Or.inr (Or.inr (Or.inr (Or.inr (Or.inr (Or.inr (Or.inl (by omega)))))))
    · exact Or.inr (Or.inr (Or.inr (Or.inr (Or.inr (Or.inr (Or.inr ((by omega))))))))
  · obtain ⟨z, M2, e2, r⟩ := nu_X_way_4 (d := d) (by omega) hM h1 h2 (by omega)
    obtain ⟨y1, y2⟩ := rI_inj (e.symm.trans e2)
    rw [y1, y2]
    rcases r with r | r | r | r | r | r | r | r
    · exact Or.inl (by omega)
    · exact Or.inr (Or.inl (by omega))
    · exact Or.inr (Or.inr (Or.inl (by omega)))
    · exact Or.inr (Or.inr (Or.inr (Or.inl (by omega))))
    · exact Or.inr (Or.inr (Or.inr (Or.inr (Or.inl (by omega)))))
    · exact Or.inr (Or.inr (Or.inr (Or.inr (Or.inr (Or.inl (by omega))))))
    · exact Or.inr (Or.inr (Or.inr (Or.inr (Or.inr (Or.inr (Or.inl (by omega)))))))
    · exact Or.inr (Or.inr (Or.inr (Or.inr (Or.inr (Or.inr (Or.inr ((by omega))))))))
  · obtain ⟨z, M2, e2, r⟩ := nu_X_way_5 (d := d) (by omega) hM h1 h2 (by omega)
    obtain ⟨y1, y2⟩ := rI_inj (e.symm.trans e2)
    rw [y1, y2]
    rcases r with r | r | r | r | r | r | r | r
    · exact Or.inl (by omega)
    · exact Or.inr (Or.inl (by omega))
    · exact Or.inr (Or.inr (Or.inl (by omega)))
    · exact Or.inr (Or.inr (Or.inr (Or.inl (by omega))))
    · exact Or.inr (Or.inr (Or.inr (Or.inr (Or.inl (by omega)))))
    · exact Or.inr (Or.inr (Or.inr (Or.inr (Or.inr (Or.inl (by omega))))))
    · exact Or.inr (Or.inr (Or.inr (Or.inr (Or.inr (Or.inr (Or.inl (by omega)))))))
    · exact Or.inr (Or.inr (Or.inr (Or.inr (Or.inr (Or.inr (Or.inr ((by omega))))))))
  · obtain ⟨z, M2, e2, r⟩ := nu_X_way_6 (d := d) (by omega) hM h1 h2 (by omega)
    obtain ⟨y1, y2⟩ := rI_inj (e.symm.trans e2)
    rw [y1, y2]
    rcases r with r | r | r | r | r | r | r | r
    · exact Or.inl (by omega)
    · exact Or.inr (Or.inl (by omega))
    · exact Or.inr (Or.inr (Or.inl (by omega)))
    · exact Or.inr (Or.inr (Or.inr (Or.inl (by omega))))
    · exact Or.inr (Or.inr (Or.inr (Or.inr (Or.inl (by omega)))))
    · exact Or.inr (Or.inr (Or.inr (Or.inr (Or.inr (Or.inl (by omega))))))
    · exact Or.inr (Or.inr (Or.inr (Or.inr (Or.inr (Or.inr (Or.inl (by omega)))))))
    · exact Or.inr (Or.inr (Or.inr (Or.inr (Or.inr (Or.inr (Or.inr ((by omega))))))))
  · obtain ⟨z, M2, e2, r⟩ := nu_X_way_7 (d := d) (by omega) hM h1 h2 (by omega)
    obtain ⟨y1, y2⟩ := rI_inj (e.symm.trans e2)
    rw [y1, y2]
    rcases r with r | r | r | r | r | r | r | r
    · exact Or.inl (by omega)
    · exact Or.inr (Or.inl (by omega))
    · exact Or.inr (Or.inr (Or.inl (by omega)))
    · exact Or.inr (Or.inr (Or.inr (Or.inl (by omega))))
    · exact Or.inr (Or.inr (Or.inr (Or.inr (Or.inl (by omega)))))
    · exact Or.inr (Or.inr (Or.inr (Or.inr (Or.inr (Or.inl (by omega))))))
    · exact Or.inr (Or.inr (Or.inr (Or.inr (Or.inr (Or.inr (Or.inl (by omega)))))))
    · exact Or.inr (Or.inr (Or.inr (Or.inr (Or.inr (Or.inr (Or.inr ((by omega))))))))
  · obtain ⟨z, M2, e2, r⟩ := nu_X_way_8 (d := d) (by omega) hM h1 h2 (by omega)
    obtain ⟨y1, y2⟩ := rI_inj (e.symm.trans e2)
    rw [y1, y2]
    rcases r with r | r | r | r | r | r | r | r
    · exact Or.inl (by omega)
    · exact Or.inr (Or.inl (by omega))
    · exact Or.inr (Or.inr (Or.inl (by omega)))
    · exact Or.inr (Or.inr (Or.inr (Or.inl (by omega))))
    · exact Or.inr (Or.inr (Or.inr (Or.inr (Or.inl (by omega)))))
    · exact Or.inr (Or.inr (Or.inr (Or.inr (Or.inr (Or.inl (by omega))))))
    · exact Or.inr (Or.inr (Or.inr (Or.inr (Or.inr (Or.inr (Or.inl (by omega)))))))
    · exact Or.inr (Or.inr (Or.inr (Or.inr (Or.inr (Or.inr (Or.inr ((by omega))))))))
  · obtain ⟨z, M2, e2, r⟩ := nu_X_way_9 (d := d) (by omega) hM h1 h2 (by omega)
    obtain ⟨y1, y2⟩ := rI_inj (e.symm.trans e2)
    rw [y1, y2]
    rcases r with r | r | r | r | r | r | r | r
    · exact Or.inl (by omega)
    · exact Or.inr (Or.inl (by omega))
    · exact Or.inr (Or.inr (Or.inl (by omega)))
    · exact Or.inr (Or.inr (Or.inr (Or.inl (by omega))))
    · exact Or.inr (Or.inr (Or.inr (Or.inr (Or.inl (by omega)))))
    · exact Or.inr (Or.inr (Or.inr (Or.inr (Or.inr (Or.inl (by omega))))))
    · exact Or.inr (Or.inr (Or.inr (Or.inr (Or.inr (Or.inr (Or.inl (by omega)))))))
    · exact Or.inr (Or.inr (Or.inr (Or.inr (Or.inr (Or.inr (Or.inr ((by omega))))))))
  · obtain ⟨z, M2, e2, r⟩ := nu_X_way_10 (d := d) (by omega) hM h1 h2 (by omega)
    obtain ⟨y1, y2⟩ := rI_inj (e.symm.trans e2)
    rw [y1, y2]
    rcases r with r | r | r | r | r | r | r | r
    · exact Or.inl (by omega)
    · exact Or.inr (Or.inl (by omega))
    · exact Or.inr (Or.inr (Or.inl (by omega)))
    · exact Or.inr (Or.inr (Or.inr (Or.inl (by omega))))
    · exact Or.inr (Or.inr (Or.inr (Or.inr (Or.inl (by omega)))))
    · exact Or.inr (Or.inr (Or.inr (Or.inr (Or.inr (Or.inl (by omega))))))
    · exact Or.inr (Or.inr (Or.inr (Or.inr (Or.inr (Or.inr (Or.inl (by omega)))))))
    · exact Or.inr (Or.inr (Or.inr (Or.inr (Or.inr (Or.inr (Or.inr ((by omega))))))))
  · obtain ⟨z, M2, e2, r⟩ := nu_X_way_11 (d := d) (by omega) hM h1 h2 (by omega)
    obtain ⟨y1, y2⟩ := rI_inj (e.symm.trans e2)
    rw [y1, y2]
    rcases r with r | r | r | r | r | r | r | r
    · exact Or.inl (by omega)
    · exact Or.inr (Or.inl (by omega))
    · exact Or.inr (Or.inr (Or.inl (by omega)))
    · exact Or.inr (Or.inr (Or.inr (Or.inl (by omega))))
    · exact Or.inr (Or.inr (Or.inr (Or.inr (Or.inl (by omega)))))
    · exact Or.inr (Or.inr (Or.inr (Or.inr (Or.inr (Or.inl (by omega))))))
    · exact Or.inr (Or.inr (Or.inr (Or.inr (Or.inr (Or.inr (Or.inl (by omega)))))))
    · exact Or.inr (Or.inr (Or.inr (Or.inr (Or.inr (Or.inr (Or.inr ((by omega))))))))
theorem nu_X_queue_0 {d : Nat} (hd : 7 ≤ d) {M : pM} (hM : gM gAll M) (p0 : 0 ≤ M 5 1 ∧ M 5 1 ≤ 0) : ∃ z M', xF d 40 [.inr 2] M = rI z M' ∧ ((-2 ≤ z ∧ z ≤ -2 ∧ 0 ≤ M' 5 1 ∧ M' 5 1 ≤ 0) ∨ (-4 ≤ z ∧ z ≤ -4 ∧ 0 ≤ M' 5 1 ∧ M' 5 1 ≤ 0) ∨ (-5 ≤ z ∧ z ≤ -5 ∧ 0 ≤ M' 5 1 ∧ M' 5 1 ≤ 0) ∨ (0 ≤ z ∧ z ≤ 0 ∧ 0 ≤ M' 5 1 ∧ M' 5 1 ≤ 0) ∨ (1 ≤ z ∧ z ≤ 1 ∧ 1 ≤ M' 5 1 ∧ M' 5 1 ≤ 1) ∨ (10 ≤ z ∧ z ≤ 10 ∧ 10 ≤ M' 5 1 ∧ M' 5 1 ≤ 10) ∨ (2 ≤ z ∧ z ≤ 2 ∧ 2 ≤ M' 5 1 ∧ M' 5 1 ≤ 2) ∨ (3 ≤ z ∧ z ≤ 3 ∧ 3 ≤ M' 5 1 ∧ M' 5 1 ≤ 3) ∨ (4 ≤ z ∧ z ≤ 4 ∧ 4 ≤ M' 5 1 ∧ M' 5 1 ≤ 4) ∨ (5 ≤ z ∧ z ≤ 5 ∧ 5 ≤ M' 5 1 ∧ M' 5 1 ≤ 5) ∨ (6 ≤ z ∧ z ≤ 6 ∧ 6 ≤ M' 5 1 ∧ M' 5 1 ≤ 6) ∨ (7 ≤ z ∧ z ≤ 7 ∧ 7 ≤ M' 5 1 ∧ M' 5 1 ≤ 7) ∨ (8 ≤ z ∧ z ≤ 8 ∧ 8 ≤ M' 5 1 ∧ M' 5 1 ≤ 8) ∨ (9 ≤ z ∧ z ≤ 9 ∧ 9 ≤ M' 5 1 ∧ M' 5 1 ≤ 9)) := by
  have c0 : cOK gAll (xF d) 40 K_714 := (ct_of (d := d) ct_ok (show K_714 ∈ CT.getD 40 [] from (show CT.getD 40 [] = [K_714, K_715, K_716, K_717, K_718, K_719, K_720, K_721, K_722, K_723, K_724, K_725, K_445] from rfl) ▸ by simp) hd)
  obtain ⟨z, M', e, -, -, alt, ha, q, p⟩ := cOK_I c0 (A := [.inr 2]) (show aF2 gW [aRef 2] [.inr 2] from ⟨gW_o, trivial⟩) hM (show gP0 [(5, 1, (0, 0, 0, 0, 0, 0))] M from fun e he => by
    simp only [List.mem_cons, List.not_mem_nil, or_false] at he
    rcases he with rfl
    · exact gR_i p0.1 p0.2) rfl
  refine ⟨z, M', e, ?_⟩
  have ha : alt ∈ [(some (0, -2, -2, 0, 0, 0), [], [(0, 14, (0, 1, 10, 0, 0, 0)), (5, 1, (0, 0, 0, 0, 0, 0)), (7, 10, (0, 1, 10, 0, 0, 0))]), (some (0, -4, -4, 0, 0, 0), [], [(5, 1, (0, 0, 0, 0, 0, 0))]), (some (0, -5, -5, 0, 0, 0), [], [(0, 14, (0, 1, 10, 0, 0, 0)), (5, 1, (0, 0, 0, 0, 0, 0)), (7, 10, (0, 1, 10, 0, 0, 0))]), (some (0, 0, 0, 0, 0, 0), [], [(0, 14, (0, 1, 10, 0, 0, 0)), (5, 1, (0, 0, 0, 0, 0, 0)), (7, 9, (0, 1, 6, 0, 0, 0)), (7, 10, (0, 1, 10, 0, 0, 0)), (48, 3, (0, 0, 0, 0, 0, 0))]), (some (0, 1, 1, 0, 0, 0), [], [(0, 14, (0, 1, 10, 0, 0, 0)), (5, 1, (0, 1, 1, 0, 0, 0)), (6, 0, (0, -2147483648, 2147483647, 0, 0, 0)), (7, 9, (0, 1, 6, 0, 0, 0)), (7, 10, (0, 1, 10, 0, 0, 0)), (48, 3, (0, 1, 1, 0, 0, 0))]), (some (0, 10, 10, 0, 0, 0), [], [(0, 14, (0, 1, 10, 0, 0, 0)), (5, 1, (0, 10, 10, 0, 0, 0)), (6, 9, (0, -2147483648, 2147483647, 0, 0, 0)), (7, 9, (0, 1, 6, 0, 0, 0)), (7, 10, (0, 1, 10, 0, 0, 0)), (48, 3, (0, 10, 10, 0, 0, 0))]), (some (0, 2, 2, 0, 0, 0), [], [(0, 14, (0, 1, 10, 0, 0, 0)), (5, 1, (0, 2, 2, 0, 0, 0)), (6, 1, (0, -2147483648, 2147483647, 0, 0, 0)), (7, 9, (0, 1, 6, 0, 0, 0)), (7, 10, (0, 1, 10, 0, 0, 0)), (48, 3, (0, 2, 2, 0, 0, 0))]), (some (0, 3, 3, 0, 0, 0), [], [(0, 14, (0, 1, 10, 0, 0, 0)), (5, 1, (0, 3, 3, 0, 0, 0)), (6, 2, (0, -2147483648, 2147483647, 0, 0, 0)), (7, 9, (0, 1, 6, 0, 0, 0)), (7, 10, (0, 1, 10, 0, 0, 0)), (48, 3, (0, 3, 3, 0, 0, 0))]), (some (0, 4, 4, 0, 0, 0), [], [(0, 14, (0, 1, 10, 0, 0, 0)), (5, 1, (0, 4, 4, 0, 0, 0)), (6, 3, (0, -2147483648, 2147483647, 0, 0, 0)), (7, 9, (0, 1, 6, 0, 0, 0)), (7, 10, (0, 1, 10, 0, 0, 0)), (48, 3, (0, 4, 4, 0, 0, 0))]), (some (0, 5, 5, 0, 0, 0), [], [(0, 14, (0, 1, 10, 0, 0, 0)), (5, 1, (0, 5, 5, 0, 0, 0)), (6, 4, (0, -2147483648, 2147483647, 0, 0, 0)), (7, 9, (0, 1, 6, 0, 0, 0)), (7, 10, (0, 1, 10, 0, 0, 0)), (48, 3, (0, 5, 5, 0, 0, 0))]), (some (0, 6, 6, 0, 0, 0), [], [(0, 14, (0, 1, 10, 0, 0, 0)), (5, 1, (0, 6, 6, 0, 0, 0)), (6, 5, (0, -2147483648, 2147483647, 0, 0, 0)), (7, 9, (0, 1, 6, 0, 0, 0)), (7, 10, (0, 1, 10, 0, 0, 0)), (48, 3, (0, 6, 6, 0, 0, 0))]), (some (0, 7, 7, 0, 0, 0), [], [(0, 14, (0, 1, 10, 0, 0, 0)), (5, 1, (0, 7, 7, 0, 0, 0)), (6, 6, (0, -2147483648, 2147483647, 0, 0, 0)), (7, 9, (0, 1, 6, 0, 0, 0)), (7, 10, (0, 1, 10, 0, 0, 0)), (48, 3, (0, 7, 7, 0, 0, 0))]), (some (0, 8, 8, 0, 0, 0), [], [(0, 14, (0, 1, 10, 0, 0, 0)), (5, 1, (0, 8, 8, 0, 0, 0)), (6, 7, (0, -2147483648, 2147483647, 0, 0, 0)), (7, 9, (0, 1, 6, 0, 0, 0)), (7, 10, (0, 1, 10, 0, 0, 0)), (48, 3, (0, 8, 8, 0, 0, 0))]), (some (0, 9, 9, 0, 0, 0), [], [(0, 14, (0, 1, 10, 0, 0, 0)), (5, 1, (0, 9, 9, 0, 0, 0)), (6, 8, (0, -2147483648, 2147483647, 0, 0, 0)), (7, 9, (0, 1, 6, 0, 0, 0)), (7, 10, (0, 1, 10, 0, 0, 0)), (48, 3, (0, 9, 9, 0, 0, 0))])] := ha
  simp only [List.mem_cons, List.not_mem_nil, or_false] at ha
  rcases ha with rfl | rfl | rfl | rfl | rfl | rfl | rfl | rfl | rfl | rfl | rfl | rfl | rfl | rfl
  · obtain ⟨z2, e2, r⟩ := gW_int (show gW _ _ from q) (Nat.le_of_ble_eq_true rfl)
    cases e2
    have := gR0 r
    have w := gR0 (show gR (0, 0, 0, 0, 0, 0) (M' 5 1) from (p _ (List.mem_cons_of_mem _ List.mem_cons_self)).1)
    exact Or.inl ⟨this.1, this.2, w.1, w.2⟩
  · obtain ⟨z2, e2, r⟩ := gW_int (show gW _ _ from q) (Nat.le_of_ble_eq_true rfl)
    cases e2
    have := gR0 r
    have w := gR0 (show gR (0, 0, 0, 0, 0, 0) (M' 5 1) from (p _ List.mem_cons_self).1)
    exact Or.inr (Or.inl ⟨this.1, this.2, w.1, w.2⟩)
  · obtain ⟨z2, e2, r⟩ := gW_int (show gW _ _ from q) (Nat.le_of_ble_eq_true rfl)
    cases e2
    have := gR0 r
    have w := gR0 (show gR (0, 0, 0, 0, 0, 0) (M' 5 1) from (p _ (List.mem_cons_of_mem _ List.mem_cons_self)).1)
    exact Or.inr (Or.inr (Or.inl ⟨this.1, this.2, w.1, w.2⟩))
  · obtain ⟨z2, e2, r⟩ := gW_int (show gW _ _ from q) (Nat.le_of_ble_eq_true rfl)
    cases e2
    have := gR0 r
    have w := gR0 (show gR (0, 0, 0, 0, 0, 0) (M' 5 1) from (p _ (List.mem_cons_of_mem _ List.mem_cons_self)).1)
    exact Or.inr (Or.inr (Or.inr (Or.inl ⟨this.1, this.2, w.1, w.2⟩)))
  · obtain ⟨z2, e2, r⟩ := gW_int (show gW _ _ from q) (Nat.le_of_ble_eq_true rfl)
    cases e2
    have := gR0 r
    have w := gR0 (show gR (0, 1, 1, 0, 0, 0) (M' 5 1) from (p _ (List.mem_cons_of_mem _ List.mem_cons_self)).1)
    exact Or.inr (Or.inr (Or.inr (Or.inr (Or.inl ⟨this.1, this.2, w.1, w.2⟩))))
  · obtain ⟨z2, e2, r⟩ := gW_int (show gW _ _ from q) (Nat.le_of_ble_eq_true rfl)
    cases e2
    have := gR0 r
    have w := gR0 (show gR (0, 10, 10, 0, 0, 0) (M' 5 1) from (p _ (List.mem_cons_of_mem _ List.mem_cons_self)).1)
    exact Or.inr (Or.inr (Or.inr (Or.inr (Or.inr (Or.inl ⟨this.1, this.2, w.1, w.2⟩)))))
  · obtain ⟨z2, e2, r⟩ := gW_int (show gW _ _ from q) (Nat.le_of_ble_eq_true rfl)
    cases e2
    have := gR0 r
    have w := gR0 (show gR (0, 2, 2, 0, 0, 0) (M' 5 1) from (p _ (List.mem_cons_of_mem _ List.mem_cons_self)).1)
    exact Or.inr (Or.inr (Or.inr (Or.inr (Or.inr (Or.inr (Or.inl ⟨this.1, this.2, w.1, w.2⟩))))))
  · obtain ⟨z2, e2, r⟩ := gW_int (show gW _ _ from q) (Nat.le_of_ble_eq_true rfl)
    cases e2
    have := gR0 r
    have w := gR0 (show gR (0, 3, 3, 0, 0, 0) (M' 5 1) from (p _ (List.mem_cons_of_mem _ List.mem_cons_self)).1)
    exact Or.inr (Or.inr (Or.inr (Or.inr (Or.inr (Or.inr (Or.inr (Or.inl ⟨this.1, this.2, w.1, w.2⟩)))))))
  · obtain ⟨z2, e2, r⟩ := gW_int (show gW _ _ from q) (Nat.le_of_ble_eq_true rfl)
    cases e2
    have := gR0 r
    have w := gR0 (show gR (0, 4, 4, 0, 0, 0) (M' 5 1) from (p _ (List.mem_cons_of_mem _ List.mem_cons_self)).1)
    exact Or.inr (Or.inr (Or.inr (Or.inr (Or.inr (Or.inr (Or.inr (Or.inr (Or.inl ⟨this.1, this.2, w.1, w.2⟩))))))))
  · obtain ⟨z2, e2, r⟩ := gW_int (show gW _ _ from q) (Nat.le_of_ble_eq_true rfl)
    cases e2
    have := gR0 r
    have w := gR0 (show gR (0, 5, 5, 0, 0, 0) (M' 5 1) from (p _ (List.mem_cons_of_mem _ List.mem_cons_self)).1)
    exact Or.inr (Or.inr (Or.inr (Or.inr (Or.inr (Or.inr (Or.inr (Or.inr (Or.inr (Or.inl ⟨this.1, this.2, w.1, w.2⟩)))))))))
  · obtain ⟨z2, e2, r⟩ := gW_int (show gW _ _ from q) (Nat.le_of_ble_eq_true rfl)
    cases e2
    have := gR0 r
    have w := gR0 (show gR (0, 6, 6, 0, 0, 0) (M' 5 1) from (p _ (List.mem_cons_of_mem _ List.mem_cons_self)).1)
    exact Or.inr (Or.inr (Or.inr (Or.inr (Or.inr (Or.inr (Or.inr (Or.inr (Or.inr (Or.inr (Or.inl ⟨this.1, this.2, w.1, w.2⟩))))))))))
  · obtain ⟨z2, e2, r⟩ := gW_int (show gW _ _ from q) (Nat.le_of_ble_eq_true rfl)
    cases e2
    have := gR0 r
    have w := gR0 (show gR (0, 7, 7, 0, 0, 0) (M' 5 1) from (p _ (List.mem_cons_of_mem _ List.mem_cons_self)).1)
    exact Or.inr (Or.inr (Or.inr (Or.inr (Or.inr (Or.inr (Or.inr (Or.inr (Or.inr (Or.inr (Or.inr (Or.inl ⟨this.1, this.2, w.1, w.2⟩)))))))))))
  · obtain ⟨z2, e2, r⟩ := gW_int (show gW _ _ from q) (Nat.le_of_ble_eq_true rfl)
    cases e2
    have := gR0 r
    have w := gR0 (show gR (0, 8, 8, 0, 0, 0) (M' 5 1) from (p _ (List.mem_cons_of_mem _ List.mem_cons_self)).1)
    exact Or.inr (Or.inr (Or.inr (Or.inr (Or.inr (Or.inr (Or.inr (Or.inr (Or.inr (Or.inr (Or.inr (Or.inr (Or.inl ⟨this.1, this.2, w.1, w.2⟩))))))))))))
  · obtain ⟨z2, e2, r⟩ := gW_int (show gW _ _ from q) (Nat.le_of_ble_eq_true rfl)
    cases e2
    have := gR0 r
    have w := gR0 (show gR (0, 9, 9, 0, 0, 0) (M' 5 1) from (p _ (List.mem_cons_of_mem _ List.mem_cons_self)).1)
    exact Or.inr (Or.inr (Or.inr (Or.inr (Or.inr (Or.inr (Or.inr (Or.inr (Or.inr (Or.inr (Or.inr (Or.inr (Or.inr ⟨this.1, this.2, w.1, w.2⟩))))))))))))
theorem nu_X_queue_1 {d : Nat} (hd : 7 ≤ d) {M : pM} (hM : gM gAll M) (p0 : 1 ≤ M 5 1 ∧ M 5 1 ≤ 1) : ∃ z M', xF d 40 [.inr 2] M = rI z M' ∧ ((-2 ≤ z ∧ z ≤ -2 ∧ 1 ≤ M' 5 1 ∧ M' 5 1 ≤ 1) ∨ (-4 ≤ z ∧ z ≤ -4 ∧ 1 ≤ M' 5 1 ∧ M' 5 1 ≤ 1) ∨ (-5 ≤ z ∧ z ≤ -5 ∧ 1 ≤ M' 5 1 ∧ M' 5 1 ≤ 1) ∨ (0 ≤ z ∧ z ≤ 0 ∧ 0 ≤ M' 5 1 ∧ M' 5 1 ≤ 0) ∨ (1 ≤ z ∧ z ≤ 1 ∧ 1 ≤ M' 5 1 ∧ M' 5 1 ≤ 1) ∨ (10 ≤ z ∧ z ≤ 10 ∧ 10 ≤ M' 5 1 ∧ M' 5 1 ≤ 10) ∨ (2 ≤ z ∧ z ≤ 2 ∧ 2 ≤ M' 5 1 ∧ M' 5 1 ≤ 2) ∨ (3 ≤ z ∧ z ≤ 3 ∧ 3 ≤ M' 5 1 ∧ M' 5 1 ≤ 3) ∨ (4 ≤ z ∧ z ≤ 4 ∧ 4 ≤ M' 5 1 ∧ M' 5 1 ≤ 4) ∨ (5 ≤ z ∧ z ≤ 5 ∧ 5 ≤ M' 5 1 ∧ M' 5 1 ≤ 5) ∨ (6 ≤ z ∧ z ≤ 6 ∧ 6 ≤ M' 5 1 ∧ M' 5 1 ≤ 6) ∨ (7 ≤ z ∧ z ≤ 7 ∧ 7 ≤ M' 5 1 ∧ M' 5 1 ≤ 7) ∨ (8 ≤ z ∧ z ≤ 8 ∧ 8 ≤ M' 5 1 ∧ M' 5 1 ≤ 8) ∨ (9 ≤ z ∧ z ≤ 9 ∧ 9 ≤ M' 5 1 ∧ M' 5 1 ≤ 9)) := by
  have c0 : cOK gAll (xF d) 40 K_715 := (ct_of (d := d) ct_ok (show K_715 ∈ CT.getD 40 [] from (show CT.getD 40 [] = [K_714, K_715, K_716, K_717, K_718, K_719, K_720, K_721, K_722, K_723, K_724, K_725, K_445] from rfl) ▸ by simp) hd)
  obtain ⟨z, M', e, -, -, alt, ha, q, p⟩ := cOK_I c0 (A := [.inr 2]) (show aF2 gW [aRef 2] [.inr 2] from ⟨gW_o, trivial⟩) hM (show gP0 [(5, 1, (0, 1, 1, 0, 0, 0))] M from fun e he => by
    simp only [List.mem_cons, List.not_mem_nil, or_false] at he
    rcases he with rfl
    · exact gR_i p0.1 p0.2) rfl
  refine ⟨z, M', e, ?_⟩
  have ha : alt ∈ [(some (0, -2, -2, 0, 0, 0), [], [(0, 14, (0, 1, 10, 0, 0, 0)), (5, 1, (0, 1, 1, 0, 0, 0)), (7, 10, (0, 1, 10, 0, 0, 0))]), (some (0, -4, -4, 0, 0, 0), [], [(5, 1, (0, 1, 1, 0, 0, 0))]), (some (0, -5, -5, 0, 0, 0), [], [(0, 14, (0, 1, 10, 0, 0, 0)), (5, 1, (0, 1, 1, 0, 0, 0)), (7, 10, (0, 1, 10, 0, 0, 0))]), (some (0, 0, 0, 0, 0, 0), [], [(0, 14, (0, 1, 10, 0, 0, 0)), (5, 1, (0, 0, 0, 0, 0, 0)), (7, 9, (0, 1, 6, 0, 0, 0)), (7, 10, (0, 1, 10, 0, 0, 0)), (48, 3, (0, 0, 0, 0, 0, 0))]), (some (0, 1, 1, 0, 0, 0), [], [(0, 14, (0, 1, 10, 0, 0, 0)), (5, 1, (0, 1, 1, 0, 0, 0)), (6, 0, (0, -2147483648, 2147483647, 0, 0, 0)), (7, 9, (0, 1, 6, 0, 0, 0)), (7, 10, (0, 1, 10, 0, 0, 0)), (48, 3, (0, 1, 1, 0, 0, 0))]), (some (0, 10, 10, 0, 0, 0), [], [(0, 14, (0, 1, 10, 0, 0, 0)), (5, 1, (0, 10, 10, 0, 0, 0)), (6, 9, (0, -2147483648, 2147483647, 0, 0, 0)), (7, 9, (0, 1, 6, 0, 0, 0)), (7, 10, (0, 1, 10, 0, 0, 0)), (48, 3, (0, 10, 10, 0, 0, 0))]), (some (0, 2, 2, 0, 0, 0), [], [(0, 14, (0, 1, 10, 0, 0, 0)), (5, 1, (0, 2, 2, 0, 0, 0)), (6, 1, (0, -2147483648, 2147483647, 0, 0, 0)), (7, 9, (0, 1, 6, 0, 0, 0)), (7, 10, (0, 1, 10, 0, 0, 0)), (48, 3, (0, 2, 2, 0, 0, 0))]), (some (0, 3, 3, 0, 0, 0), [], [(0, 14, (0, 1, 10, 0, 0, 0)), (5, 1, (0, 3, 3, 0, 0, 0)), (6, 2, (0, -2147483648, 2147483647, 0, 0, 0)), (7, 9, (0, 1, 6, 0, 0, 0)), (7, 10, (0, 1, 10, 0, 0, 0)), (48, 3, (0, 3, 3, 0, 0, 0))]), (some (0, 4, 4, 0, 0, 0), [], [(0, 14, (0, 1, 10, 0, 0, 0)), (5, 1, (0, 4, 4, 0, 0, 0)), (6, 3, (0, -2147483648, 2147483647, 0, 0, 0)), (7, 9, (0, 1, 6, 0, 0, 0)), (7, 10, (0, 1, 10, 0, 0, 0)), (48, 3, (0, 4, 4, 0, 0, 0))]), (some (0, 5, 5, 0, 0, 0), [], [(0, 14, (0, 1, 10, 0, 0, 0)), (5, 1, (0, 5, 5, 0, 0, 0)), (6, 4, (0, -2147483648, 2147483647, 0, 0, 0)), (7, 9, (0, 1, 6, 0, 0, 0)), (7, 10, (0, 1, 10, 0, 0, 0)), (48, 3, (0, 5, 5, 0, 0, 0))]), (some (0, 6, 6, 0, 0, 0), [], [(0, 14, (0, 1, 10, 0, 0, 0)), (5, 1, (0, 6, 6, 0, 0, 0)), (6, 5, (0, -2147483648, 2147483647, 0, 0, 0)), (7, 9, (0, 1, 6, 0, 0, 0)), (7, 10, (0, 1, 10, 0, 0, 0)), (48, 3, (0, 6, 6, 0, 0, 0))]), (some (0, 7, 7, 0, 0, 0), [], [(0, 14, (0, 1, 10, 0, 0, 0)), (5, 1, (0, 7, 7, 0, 0, 0)), (6, 6, (0, -2147483648, 2147483647, 0, 0, 0)), (7, 9, (0, 1, 6, 0, 0, 0)), (7, 10, (0, 1, 10, 0, 0, 0)), (48, 3, (0, 7, 7, 0, 0, 0))]), (some (0, 8, 8, 0, 0, 0), [], [(0, 14, (0, 1, 10, 0, 0, 0)), (5, 1, (0, 8, 8, 0, 0, 0)), (6, 7, (0, -2147483648, 2147483647, 0, 0, 0)), (7, 9, (0, 1, 6, 0, 0, 0)), (7, 10, (0, 1, 10, 0, 0, 0)), (48, 3, (0, 8, 8, 0, 0, 0))]), (some (0, 9, 9, 0, 0, 0), [], [(0, 14, (0, 1, 10, 0, 0, 0)), (5, 1, (0, 9, 9, 0, 0, 0)), (6, 8, (0, -2147483648, 2147483647, 0, 0, 0)), (7, 9, (0, 1, 6, 0, 0, 0)), (7, 10, (0, 1, 10, 0, 0, 0)), (48, 3, (0, 9, 9, 0, 0, 0))])] := ha
  simp only [List.mem_cons, List.not_mem_nil, or_false] at ha
  rcases ha with rfl | rfl | rfl | rfl | rfl | rfl | rfl | rfl | rfl | rfl | rfl | rfl | rfl | rfl
  · obtain ⟨z2, e2, r⟩ := gW_int (show gW _ _ from q) (Nat.le_of_ble_eq_true rfl)
    cases e2
    have := gR0 r
    have w := gR0 (show gR (0, 1, 1, 0, 0, 0) (M' 5 1) from (p _ (List.mem_cons_of_mem _ List.mem_cons_self)).1)
    exact Or.inl ⟨this.1, this.2, w.1, w.2⟩
  · obtain ⟨z2, e2, r⟩ := gW_int (show gW _ _ from q) (Nat.le_of_ble_eq_true rfl)
    cases e2
    have := gR0 r
    have w := gR0 (show gR (0, 1, 1, 0, 0, 0) (M' 5 1) from (p _ List.mem_cons_self).1)
    exact Or.inr (Or.inl ⟨this.1, this.2, w.1, w.2⟩)
  · obtain ⟨z2, e2, r⟩ := gW_int (show gW _ _ from q) (Nat.le_of_ble_eq_true rfl)
    cases e2
    have := gR0 r
    have w := gR0 (show gR (0, 1, 1, 0, 0, 0) (M' 5 1) from (p _ (List.mem_cons_of_mem _ List.mem_cons_self)).1)
    exact Or.inr (Or.inr (Or.inl ⟨this.1, this.2, w.1, w.2⟩))
  · obtain ⟨z2, e2, r⟩ := gW_int (show gW _ _ from q) (Nat.le_of_ble_eq_true rfl)
    cases e2
    have := gR0 r
    have w := gR0 (show gR (0, 0, 0, 0, 0, 0) (M' 5 1) from (p _ (List.mem_cons_of_mem _ List.mem_cons_self)).1)
    exact Or.inr (Or.inr (Or.inr (Or.inl ⟨this.1, this.2, w.1, w.2⟩)))
  · obtain ⟨z2, e2, r⟩ := gW_int (show gW _ _ from q) (Nat.le_of_ble_eq_true rfl)
    cases e2
    have := gR0 r
    have w := gR0 (show gR (0, 1, 1, 0, 0, 0) (M' 5 1) from (p _ (List.mem_cons_of_mem _ List.mem_cons_self)).1)
    exact Or.inr (Or.inr (Or.inr (Or.inr (Or.inl ⟨this.1, this.2, w.1, w.2⟩))))
  · obtain ⟨z2, e2, r⟩ := gW_int (show gW _ _ from q) (Nat.le_of_ble_eq_true rfl)
    cases e2
    have := gR0 r
    have w := gR0 (show gR (0, 10, 10, 0, 0, 0) (M' 5 1) from (p _ (List.mem_cons_of_mem _ List.mem_cons_self)).1)
    exact Or.inr (Or.inr (Or.inr (Or.inr (Or.inr (Or.inl ⟨this.1, this.2, w.1, w.2⟩)))))
  · obtain ⟨z2, e2, r⟩ := gW_int (show gW _ _ from q) (Nat.le_of_ble_eq_true rfl)
    cases e2
    have := gR0 r
    have w := gR0 (show gR (0, 2, 2, 0, 0, 0) (M' 5 1) from (p _ (List.mem_cons_of_mem _ List.mem_cons_self)).1)
    exact Or.inr (Or.inr (Or.inr (Or.inr (Or.inr (Or.inr (Or.inl ⟨this.1, this.2, w.1, w.2⟩))))))
  · obtain ⟨z2, e2, r⟩ := gW_int (show gW _ _ from q) (Nat.le_of_ble_eq_true rfl)
    cases e2
    have := gR0 r
    have w := gR0 (show gR (0, 3, 3, 0, 0, 0) (M' 5 1) from (p _ (List.mem_cons_of_mem _ List.mem_cons_self)).1)
    exact Or.inr (Or.inr (Or.inr (Or.inr (Or.inr (Or.inr (Or.inr (Or.inl ⟨this.1, this.2, w.1, w.2⟩)))))))
  · obtain ⟨z2, e2, r⟩ := gW_int (show gW _ _ from q) (Nat.le_of_ble_eq_true rfl)
    cases e2
    have := gR0 r
    have w := gR0 (show gR (0, 4, 4, 0, 0, 0) (M' 5 1) from (p _ (List.mem_cons_of_mem _ List.mem_cons_self)).1)
    exact Or.inr (Or.inr (Or.inr (Or.inr (Or.inr (Or.inr (Or.inr (Or.inr (Or.inl ⟨this.1, this.2, w.1, w.2⟩))))))))
  · obtain ⟨z2, e2, r⟩ := gW_int (show gW _ _ from q) (Nat.le_of_ble_eq_true rfl)
    cases e2
    have := gR0 r
    have w := gR0 (show gR (0, 5, 5, 0, 0, 0) (M' 5 1) from (p _ (List.mem_cons_of_mem _ List.mem_cons_self)).1)
    exact Or.inr (Or.inr (Or.inr (Or.inr (Or.inr (Or.inr (Or.inr (Or.inr (Or.inr (Or.inl ⟨this.1, this.2, w.1, w.2⟩)))))))))
  · obtain ⟨z2, e2, r⟩ := gW_int (show gW _ _ from q) (Nat.le_of_ble_eq_true rfl)
    cases e2
    have := gR0 r
    have w := gR0 (show gR (0, 6, 6, 0, 0, 0) (M' 5 1) from (p _ (List.mem_cons_of_mem _ List.mem_cons_self)).1)
    exact Or.inr (Or.inr (Or.inr (Or.inr (Or.inr (Or.inr (Or.inr (Or.inr (Or.inr (Or.inr (Or.inl ⟨this.1, this.2, w.1, w.2⟩))))))))))
  · obtain ⟨z2, e2, r⟩ := gW_int (show gW _ _ from q) (Nat.le_of_ble_eq_true rfl)
    cases e2
    have := gR0 r
    have w := gR0 (show gR (0, 7, 7, 0, 0, 0) (M' 5 1) from (p _ (List.mem_cons_of_mem _ List.mem_cons_self)).1)
    exact Or.inr (Or.inr (Or.inr (Or.inr (Or.inr (Or.inr (Or.inr (Or.inr (Or.inr (Or.inr (Or.inr (Or.inl ⟨this.1, this.2, w.1, w.2⟩)))))))))))
  · obtain ⟨z2, e2, r⟩ := gW_int (show gW _ _ from q) (Nat.le_of_ble_eq_true rfl)
    cases e2
    have := gR0 r
    have w := gR0 (show gR (0, 8, 8, 0, 0, 0) (M' 5 1) from (p _ (List.mem_cons_of_mem _ List.mem_cons_self)).1)
    exact Or.inr (Or.inr (Or.inr (Or.inr (Or.inr (Or.inr (Or.inr (Or.inr (Or.inr (Or.inr (Or.inr (Or.inr (Or.inl ⟨this.1, this.2, w.1, w.2⟩))))))))))))
  · obtain ⟨z2, e2, r⟩ := gW_int (show gW _ _ from q) (Nat.le_of_ble_eq_true rfl)
    cases e2
    have := gR0 r
    have w := gR0 (show gR (0, 9, 9, 0, 0, 0) (M' 5 1) from (p _ (List.mem_cons_of_mem _ List.mem_cons_self)).1)
    exact Or.inr (Or.inr (Or.inr (Or.inr (Or.inr (Or.inr (Or.inr (Or.inr (Or.inr (Or.inr (Or.inr (Or.inr (Or.inr ⟨this.1, this.2, w.1, w.2⟩))))))))))))
theorem nu_X_queue_2 {d : Nat} (hd : 7 ≤ d) {M : pM} (hM : gM gAll M) (p0 : 2 ≤ M 5 1 ∧ M 5 1 ≤ 2) : ∃ z M', xF d 40 [.inr 2] M = rI z M' ∧ ((-2 ≤ z ∧ z ≤ -2 ∧ 2 ≤ M' 5 1 ∧ M' 5 1 ≤ 2) ∨ (-4 ≤ z ∧ z ≤ -4 ∧ 2 ≤ M' 5 1 ∧ M' 5 1 ≤ 2) ∨ (-5 ≤ z ∧ z ≤ -5 ∧ 2 ≤ M' 5 1 ∧ M' 5 1 ≤ 2) ∨ (0 ≤ z ∧ z ≤ 0 ∧ 0 ≤ M' 5 1 ∧ M' 5 1 ≤ 0) ∨ (1 ≤ z ∧ z ≤ 1 ∧ 1 ≤ M' 5 1 ∧ M' 5 1 ≤ 1) ∨ (10 ≤ z ∧ z ≤ 10 ∧ 10 ≤ M' 5 1 ∧ M' 5 1 ≤ 10) ∨ (2 ≤ z ∧ z ≤ 2 ∧ 2 ≤ M' 5 1 ∧ M' 5 1 ≤ 2) ∨ (3 ≤ z ∧ z ≤ 3 ∧ 3 ≤ M' 5 1 ∧ M' 5 1 ≤ 3) ∨ (4 ≤ z ∧ z ≤ 4 ∧ 4 ≤ M' 5 1 ∧ M' 5 1 ≤ 4) ∨ (5 ≤ z ∧ z ≤ 5 ∧ 5 ≤ M' 5 1 ∧ M' 5 1 ≤ 5) ∨ (6 ≤ z ∧ z ≤ 6 ∧ 6 ≤ M' 5 1 ∧ M' 5 1 ≤ 6) ∨ (7 ≤ z ∧ z ≤ 7 ∧ 7 ≤ M' 5 1 ∧ M' 5 1 ≤ 7) ∨ (8 ≤ z ∧ z ≤ 8 ∧ 8 ≤ M' 5 1 ∧ M' 5 1 ≤ 8) ∨ (9 ≤ z ∧ z ≤ 9 ∧ 9 ≤ M' 5 1 ∧ M' 5 1 ≤ 9)) := by
  have c0 : cOK gAll (xF d) 40 K_716 := (ct_of (d := d) ct_ok (show K_716 ∈ CT.getD 40 [] from (show CT.getD 40 [] = [K_714, K_715, K_716, K_717, K_718, K_719, K_720, K_721, K_722, K_723, K_724, K_725, K_445] from rfl) ▸ by simp) hd)
  obtain ⟨z, M', e, -, -, alt, ha, q, p⟩ := cOK_I c0 (A := [.inr 2]) (show aF2 gW [aRef 2] [.inr 2] from ⟨gW_o, trivial⟩) hM (show gP0 [(5, 1, (0, 2, 2, 0, 0, 0))] M from fun e he => by
    simp only [List.mem_cons, List.not_mem_nil, or_false] at he
    rcases he with rfl
    · exact gR_i p0.1 p0.2) rfl
  refine ⟨z, M', e, ?_⟩
  have ha : alt ∈ [(some (0, -2, -2, 0, 0, 0), [], [(0, 14, (0, 1, 10, 0, 0, 0)), (5, 1, (0, 2, 2, 0, 0, 0)), (7, 10, (0, 1, 10, 0, 0, 0))]), (some (0, -4, -4, 0, 0, 0), [], [(5, 1, (0, 2, 2, 0, 0, 0))]), (some (0, -5, -5, 0, 0, 0), [], [(0, 14, (0, 1, 10, 0, 0, 0)), (5, 1, (0, 2, 2, 0, 0, 0)), (7, 10, (0, 1, 10, 0, 0, 0))]), (some (0, 0, 0, 0, 0, 0), [], [(0, 14, (0, 1, 10, 0, 0, 0)), (5, 1, (0, 0, 0, 0, 0, 0)), (7, 9, (0, 1, 6, 0, 0, 0)), (7, 10, (0, 1, 10, 0, 0, 0)), (48, 3, (0, 0, 0, 0, 0, 0))]), (some (0, 1, 1, 0, 0, 0), [], [(0, 14, (0, 1, 10, 0, 0, 0)), (5, 1, (0, 1, 1, 0, 0, 0)), (6, 0, (0, -2147483648, 2147483647, 0, 0, 0)), (7, 9, (0, 1, 6, 0, 0, 0)), (7, 10, (0, 1, 10, 0, 0, 0)), (48, 3, (0, 1, 1, 0, 0, 0))]), (some (0, 10, 10, 0, 0, 0), [], [(0, 14, (0, 1, 10, 0, 0, 0)), (5, 1, (0, 10, 10, 0, 0, 0)), (6, 9, (0, -2147483648, 2147483647, 0, 0, 0)), (7, 9, (0, 1, 6, 0, 0, 0)), (7, 10, (0, 1, 10, 0, 0, 0)), (48, 3, (0, 10, 10, 0, 0, 0))]), (some (0, 2, 2, 0, 0, 0), [], [(0, 14, (0, 1, 10, 0, 0, 0)), (5, 1, (0, 2, 2, 0, 0, 0)), (6, 1, (0, -2147483648, 2147483647, 0, 0, 0)), (7, 9, (0, 1, 6, 0, 0, 0)), (7, 10, (0, 1, 10, 0, 0, 0)), (48, 3, (0, 2, 2, 0, 0, 0))]), (some (0, 3, 3, 0, 0, 0), [], [(0, 14, (0, 1, 10, 0, 0, 0)), (5, 1, (0, 3, 3, 0, 0, 0)), (6, 2, (0, -2147483648, 2147483647, 0, 0, 0)), (7, 9, (0, 1, 6, 0, 0, 0)), (7, 10, (0, 1, 10, 0, 0, 0)), (48, 3, (0, 3, 3, 0, 0, 0))]), (some (0, 4, 4, 0, 0, 0), [], [(0, 14, (0, 1, 10, 0, 0, 0)), (5, 1, (0, 4, 4, 0, 0, 0)), (6, 3, (0, -2147483648, 2147483647, 0, 0, 0)), (7, 9, (0, 1, 6, 0, 0, 0)), (7, 10, (0, 1, 10, 0, 0, 0)), (48, 3, (0, 4, 4, 0, 0, 0))]), (some (0, 5, 5, 0, 0, 0), [], [(0, 14, (0, 1, 10, 0, 0, 0)), (5, 1, (0, 5, 5, 0, 0, 0)), (6, 4, (0, -2147483648, 2147483647, 0, 0, 0)), (7, 9, (0, 1, 6, 0, 0, 0)), (7, 10, (0, 1, 10, 0, 0, 0)), (48, 3, (0, 5, 5, 0, 0, 0))]), (some (0, 6, 6, 0, 0, 0), [], [(0, 14, (0, 1, 10, 0, 0, 0)), (5, 1, (0, 6, 6, 0, 0, 0)), (6, 5, (0, -2147483648, 2147483647, 0, 0, 0)), (7, 9, (0, 1, 6, 0, 0, 0)), (7, 10, (0, 1, 10, 0, 0, 0)), (48, 3, (0, 6, 6, 0, 0, 0))]), (some (0, 7, 7, 0, 0, 0), [], [(0, 14, (0, 1, 10, 0, 0, 0)), (5, 1, (0, 7, 7, 0, 0, 0)), (6, 6, (0, -2147483648, 2147483647, 0, 0, 0)), (7, 9, (0, 1, 6, 0, 0, 0)), (7, 10, (0, 1, 10, 0, 0, 0)), (48, 3, (0, 7, 7, 0, 0, 0))]), (some (0, 8, 8, 0, 0, 0), [], [(0, 14, (0, 1, 10, 0, 0, 0)), (5, 1, (0, 8, 8, 0, 0, 0)), (6, 7, (0, -2147483648, 2147483647, 0, 0, 0)), (7, 9, (0, 1, 6, 0, 0, 0)), (7, 10, (0, 1, 10, 0, 0, 0)), (48, 3, (0, 8, 8, 0, 0, 0))]), (some (0, 9, 9, 0, 0, 0), [], [(0, 14, (0, 1, 10, 0, 0, 0)), (5, 1, (0, 9, 9, 0, 0, 0)), (6, 8, (0, -2147483648, 2147483647, 0, 0, 0)), (7, 9, (0, 1, 6, 0, 0, 0)), (7, 10, (0, 1, 10, 0, 0, 0)), (48, 3, (0, 9, 9, 0, 0, 0))])] := ha
  simp only [List.mem_cons, List.not_mem_nil, or_false] at ha
  rcases ha with rfl | rfl | rfl | rfl | rfl | rfl | rfl | rfl | rfl | rfl | rfl | rfl | rfl | rfl
  · obtain ⟨z2, e2, r⟩ := gW_int (show gW _ _ from q) (Nat.le_of_ble_eq_true rfl)
    cases e2
    have := gR0 r
    have w := gR0 (show gR (0, 2, 2, 0, 0, 0) (M' 5 1) from (p _ (List.mem_cons_of_mem _ List.mem_cons_self)).1)
    exact Or.inl ⟨this.1, this.2, w.1, w.2⟩
  · obtain ⟨z2, e2, r⟩ := gW_int (show gW _ _ from q) (Nat.le_of_ble_eq_true rfl)
    cases e2
    have := gR0 r
    have w := gR0 (show gR (0, 2, 2, 0, 0, 0) (M' 5 1) from (p _ List.mem_cons_self).1)
    exact Or.inr (Or.inl ⟨this.1, this.2, w.1, w.2⟩)
  · obtain ⟨z2, e2, r⟩ := gW_int (show gW _ _ from q) (Nat.le_of_ble_eq_true rfl)
    cases e2
    have := gR0 r
    have w := gR0 (show gR (0, 2, 2, 0, 0, 0) (M' 5 1) from (p _ (List.mem_cons_of_mem _ List.mem_cons_self)).1)
    exact Or.inr (Or.inr (Or.inl ⟨this.1, this.2, w.1, w.2⟩))
  · obtain ⟨z2, e2, r⟩ := gW_int (show gW _ _ from q) (Nat.le_of_ble_eq_true rfl)
    cases e2
    have := gR0 r
    have w := gR0 (show gR (0, 0, 0, 0, 0, 0) (M' 5 1) from (p _ (List.mem_cons_of_mem _ List.mem_cons_self)).1)
    exact Or.inr (Or.inr (Or.inr (Or.inl ⟨this.1, this.2, w.1, w.2⟩)))
  · obtain ⟨z2, e2, r⟩ := gW_int (show gW _ _ from q) (Nat.le_of_ble_eq_true rfl)
    cases e2
    have := gR0 r
    have w := gR0 (show gR (0, 1, 1, 0, 0, 0) (M' 5 1) from (p _ (List.mem_cons_of_mem _ List.mem_cons_self)).1)
    exact Or.inr (Or.inr (Or.inr (Or.inr (Or.inl ⟨this.1, this.2, w.1, w.2⟩))))
  · obtain ⟨z2, e2, r⟩ := gW_int (show gW _ _ from q) (Nat.le_of_ble_eq_true rfl)
    cases e2
    have := gR0 r
    have w := gR0 (show gR (0, 10, 10, 0, 0, 0) (M' 5 1) from (p _ (List.mem_cons_of_mem _ List.mem_cons_self)).1)
    exact Or.inr (Or.inr (Or.inr (Or.inr (Or.inr (Or.inl ⟨this.1, this.2, w.1, w.2⟩)))))
  · obtain ⟨z2, e2, r⟩ := gW_int (show gW _ _ from q) (Nat.le_of_ble_eq_true rfl)
    cases e2
    have := gR0 r
    have w := gR0 (show gR (0, 2, 2, 0, 0, 0) (M' 5 1) from (p _ (List.mem_cons_of_mem _ List.mem_cons_self)).1)
    exact Or.inr (Or.inr (Or.inr (Or.inr (Or.inr (Or.inr (Or.inl ⟨this.1, this.2, w.1, w.2⟩))))))
  · obtain ⟨z2, e2, r⟩ := gW_int (show gW _ _ from q) (Nat.le_of_ble_eq_true rfl)
    cases e2
    have := gR0 r
    have w := gR0 (show gR (0, 3, 3, 0, 0, 0) (M' 5 1) from (p _ (List.mem_cons_of_mem _ List.mem_cons_self)).1)
    exact Or.inr (Or.inr (Or.inr (Or.inr (Or.inr (Or.inr (Or.inr (Or.inl ⟨this.1, this.2, w.1, w.2⟩)))))))
  · obtain ⟨z2, e2, r⟩ := gW_int (show gW _ _ from q) (Nat.le_of_ble_eq_true rfl)
    cases e2
    have := gR0 r
    have w := gR0 (show gR (0, 4, 4, 0, 0, 0) (M' 5 1) from (p _ (List.mem_cons_of_mem _ List.mem_cons_self)).1)
    exact Or.inr (Or.inr (Or.inr (Or.inr (Or.inr (Or.inr (Or.inr (Or.inr (Or.inl ⟨this.1, this.2, w.1, w.2⟩))))))))
  · obtain ⟨z2, e2, r⟩ := gW_int (show gW _ _ from q) (Nat.le_of_ble_eq_true rfl)
    cases e2
    have := gR0 r
    have w := gR0 (show gR (0, 5, 5, 0, 0, 0) (M' 5 1) from (p _ (List.mem_cons_of_mem _ List.mem_cons_self)).1)
    exact Or.inr (Or.inr (Or.inr (Or.inr (Or.inr (Or.inr (Or.inr (Or.inr (Or.inr (Or.inl ⟨this.1, this.2, w.1, w.2⟩)))))))))
  · obtain ⟨z2, e2, r⟩ := gW_int (show gW _ _ from q) (Nat.le_of_ble_eq_true rfl)
    cases e2
    have := gR0 r
    have w := gR0 (show gR (0, 6, 6, 0, 0, 0) (M' 5 1) from (p _ (List.mem_cons_of_mem _ List.mem_cons_self)).1)
    exact Or.inr (Or.inr (Or.inr (Or.inr (Or.inr (Or.inr (Or.inr (Or.inr (Or.inr (Or.inr (Or.inl ⟨this.1, this.2, w.1, w.2⟩))))))))))
  · obtain ⟨z2, e2, r⟩ := gW_int (show gW _ _ from q) (Nat.le_of_ble_eq_true rfl)
    cases e2
    have := gR0 r
    have w := gR0 (show gR (0, 7, 7, 0, 0, 0) (M' 5 1) from (p _ (List.mem_cons_of_mem _ List.mem_cons_self)).1)
    exact Or.inr (Or.inr (Or.inr (Or.inr (Or.inr (Or.inr (Or.inr (Or.inr (Or.inr (Or.inr (Or.inr (Or.inl ⟨this.1, this.2, w.1, w.2⟩)))))))))))
  · obtain ⟨z2, e2, r⟩ := gW_int (show gW _ _ from q) (Nat.le_of_ble_eq_true rfl)
    cases e2
    have := gR0 r
    have w := gR0 (show gR (0, 8, 8, 0, 0, 0) (M' 5 1) from (p _ (List.mem_cons_of_mem _ List.mem_cons_self)).1)
    exact Or.inr (Or.inr (Or.inr (Or.inr (Or.inr (Or.inr (Or.inr (Or.inr (Or.inr (Or.inr (Or.inr (Or.inr (Or.inl ⟨this.1, this.2, w.1, w.2⟩))))))))))))
  · obtain ⟨z2, e2, r⟩ := gW_int (show gW _ _ from q) (Nat.le_of_ble_eq_true rfl)
    cases e2
    have := gR0 r
    have w := gR0 (show gR (0, 9, 9, 0, 0, 0) (M' 5 1) from (p _ (List.mem_cons_of_mem _ List.mem_cons_self)).1)
    exact Or.inr (Or.inr (Or.inr (Or.inr (Or.inr (Or.inr (Or.inr (Or.inr (Or.inr (Or.inr (Or.inr (Or.inr (Or.inr ⟨this.1, this.2, w.1, w.2⟩))))))))))))
theorem nu_X_queue_3 {d : Nat} (hd : 7 ≤ d) {M : pM} (hM : gM gAll M) (p0 : 3 ≤ M 5 1 ∧ M 5 1 ≤ 3) : ∃ z M', xF d 40 [.inr 2] M = rI z M' ∧ ((-2 ≤ z ∧ z ≤ -2 ∧ 3 ≤ M' 5 1 ∧ M' 5 1 ≤ 3) ∨ (-4 ≤ z ∧ z ≤ -4 ∧ 3 ≤ M' 5 1 ∧ M' 5 1 ≤ 3) ∨ (-5 ≤ z ∧ z ≤ -5 ∧ 3 ≤ M' 5 1 ∧ M' 5 1 ≤ 3) ∨ (0 ≤ z ∧ z ≤ 0 ∧ 0 ≤ M' 5 1 ∧ M' 5 1 ≤ 0) ∨ (1 ≤ z ∧ z ≤ 1 ∧ 1 ≤ M' 5 1 ∧ M' 5 1 ≤ 1) ∨ (10 ≤ z ∧ z ≤ 10 ∧ 10 ≤ M' 5 1 ∧ M' 5 1 ≤ 10) ∨ (2 ≤ z ∧ z ≤ 2 ∧ 2 ≤ M' 5 1 ∧ M' 5 1 ≤ 2) ∨ (3 ≤ z ∧ z ≤ 3 ∧ 3 ≤ M' 5 1 ∧ M' 5 1 ≤ 3) ∨ (4 ≤ z ∧ z ≤ 4 ∧ 4 ≤ M' 5 1 ∧ M' 5 1 ≤ 4) ∨ (5 ≤ z ∧ z ≤ 5 ∧ 5 ≤ M' 5 1 ∧ M' 5 1 ≤ 5) ∨ (6 ≤ z ∧ z ≤ 6 ∧ 6 ≤ M' 5 1 ∧ M' 5 1 ≤ 6) ∨ (7 ≤ z ∧ z ≤ 7 ∧ 7 ≤ M' 5 1 ∧ M' 5 1 ≤ 7) ∨ (8 ≤ z ∧ z ≤ 8 ∧ 8 ≤ M' 5 1 ∧ M' 5 1 ≤ 8) ∨ (9 ≤ z ∧ z ≤ 9 ∧ 9 ≤ M' 5 1 ∧ M' 5 1 ≤ 9)) := by
  have c0 : cOK gAll (xF d) 40 K_717 := (ct_of (d := d) ct_ok (show K_717 ∈ CT.getD 40 [] from (show CT.getD 40 [] = [K_714, K_715, K_716, K_717, K_718, K_719, K_720, K_721, K_722, K_723, K_724, K_725, K_445] from rfl) ▸ by simp) hd)
  obtain ⟨z, M', e, -, -, alt, ha, q, p⟩ := cOK_I c0 (A := [.inr 2]) (show aF2 gW [aRef 2] [.inr 2] from ⟨gW_o, trivial⟩) hM (show gP0 [(5, 1, (0, 3, 3, 0, 0, 0))] M from fun e he => by
    simp only [List.mem_cons, List.not_mem_nil, or_false] at he
    rcases he with rfl
    · exact gR_i p0.1 p0.2) rfl
  refine ⟨z, M', e, ?_⟩
  have ha : alt ∈ [(some (0, -2, -2, 0, 0, 0), [], [(0, 14, (0, 1, 10, 0, 0, 0)), (5, 1, (0, 3, 3, 0, 0, 0)), (7, 10, (0, 1, 10, 0, 0, 0))]), (some (0, -4, -4, 0, 0, 0), [], [(5, 1, (0, 3, 3, 0, 0, 0))]), (some (0, -5, -5, 0, 0, 0), [], [(0, 14, (0, 1, 10, 0, 0, 0)), (5, 1, (0, 3, 3, 0, 0, 0)), (7, 10, (0, 1, 10, 0, 0, 0))]), (some (0, 0, 0, 0, 0, 0), [], [(0, 14, (0, 1, 10, 0, 0, 0)), (5, 1, (0, 0, 0, 0, 0, 0)), (7, 9, (0, 1, 6, 0, 0, 0)), (7, 10, (0, 1, 10, 0, 0, 0)), (48, 3, (0, 0, 0, 0, 0, 0))]), (some (0, 1, 1, 0, 0, 0), [], [(0, 14, (0, 1, 10, 0, 0, 0)), (5, 1, (0, 1, 1, 0, 0, 0)), (6, 0, (0, -2147483648, 2147483647, 0, 0, 0)), (7, 9, (0, 1, 6, 0, 0, 0)), (7, 10, (0, 1, 10, 0, 0, 0)), (48, 3, (0, 1, 1, 0, 0, 0))]), (some (0, 10, 10, 0, 0, 0), [], [(0, 14, (0, 1, 10, 0, 0, 0)), (5, 1, (0, 10, 10, 0, 0, 0)), (6, 9, (0, -2147483648, 2147483647, 0, 0, 0)), (7, 9, (0, 1, 6, 0, 0, 0)), (7, 10, (0, 1, 10, 0, 0, 0)), (48, 3, (0, 10, 10, 0, 0, 0))]), (some (0, 2, 2, 0, 0, 0), [], [(0, 14, (0, 1, 10, 0, 0, 0)), (5, 1, (0, 2, 2, 0, 0, 0)), (6, 1, (0, -2147483648, 2147483647, 0, 0, 0)), (7, 9, (0, 1, 6, 0, 0, 0)), (7, 10, (0, 1, 10, 0, 0, 0)), (48, 3, (0, 2, 2, 0, 0, 0))]), (some (0, 3, 3, 0, 0, 0), [], [(0, 14, (0, 1, 10, 0, 0, 0)), (5, 1, (0, 3, 3, 0, 0, 0)), (6, 2, (0, -2147483648, 2147483647, 0, 0, 0)), (7, 9, (0, 1, 6, 0, 0, 0)), (7, 10, (0, 1, 10, 0, 0, 0)), (48, 3, (0, 3, 3, 0, 0, 0))]), (some (0, 4, 4, 0, 0, 0), [], [(0, 14, (0, 1, 10, 0, 0, 0)), (5, 1, (0, 4, 4, 0, 0, 0)), (6, 3, (0, -2147483648, 2147483647, 0, 0, 0)), (7, 9, (0, 1, 6, 0, 0, 0)), (7, 10, (0, 1, 10, 0, 0, 0)), (48, 3, (0, 4, 4, 0, 0, 0))]), (some (0, 5, 5, 0, 0, 0), [], [(0, 14, (0, 1, 10, 0, 0, 0)), (5, 1, (0, 5, 5, 0, 0, 0)), (6, 4, (0, -2147483648, 2147483647, 0, 0, 0)), (7, 9, (0, 1, 6, 0, 0, 0)), (7, 10, (0, 1, 10, 0, 0, 0)), (48, 3, (0, 5, 5, 0, 0, 0))]), (some (0, 6, 6, 0, 0, 0), [], [(0, 14, (0, 1, 10, 0, 0, 0)), (5, 1, (0, 6, 6, 0, 0, 0)), (6, 5, (0, -2147483648, 2147483647, 0, 0, 0)), (7, 9, (0, 1, 6, 0, 0, 0)), (7, 10, (0, 1, 10, 0, 0, 0)), (48, 3, (0, 6, 6, 0, 0, 0))]), (some (0, 7, 7, 0, 0, 0), [], [(0, 14, (0, 1, 10, 0, 0, 0)), (5, 1, (0, 7, 7, 0, 0, 0)), (6, 6, (0, -2147483648, 2147483647, 0, 0, 0)), (7, 9, (0, 1, 6, 0, 0, 0)), (7, 10, (0, 1, 10, 0, 0, 0)), (48, 3, (0, 7, 7, 0, 0, 0))]), (some (0, 8, 8, 0, 0, 0), [], [(0, 14, (0, 1, 10, 0, 0, 0)), (5, 1, (0, 8, 8, 0, 0, 0)), (6, 7, (0, -2147483648, 2147483647, 0, 0, 0)), (7, 9, (0, 1, 6, 0, 0, 0)), (7, 10, (0, 1, 10, 0, 0, 0)), (48, 3, (0, 8, 8, 0, 0, 0))]), (some (0, 9, 9, 0, 0, 0), [], [(0, 14, (0, 1, 10, 0, 0, 0)), (5, 1, (0, 9, 9, 0, 0, 0)), (6, 8, (0, -2147483648, 2147483647, 0, 0, 0)), (7, 9, (0, 1, 6, 0, 0, 0)), (7, 10, (0, 1, 10, 0, 0, 0)), (48, 3, (0, 9, 9, 0, 0, 0))])] := ha
  simp only [List.mem_cons, List.not_mem_nil, or_false] at ha
  rcases ha with rfl | rfl | rfl | rfl | rfl | rfl | rfl | rfl | rfl | rfl | rfl | rfl | rfl | rfl
  · obtain ⟨z2, e2, r⟩ := gW_int (show gW _ _ from q) (Nat.le_of_ble_eq_true rfl)
    cases e2
    have := gR0 r
    have w := gR0 (show gR (0, 3, 3, 0, 0, 0) (M' 5 1) from (p _ (List.mem_cons_of_mem _ List.mem_cons_self)).1)
    exact Or.inl ⟨this.1, this.2, w.1, w.2⟩
  · obtain ⟨z2, e2, r⟩ := gW_int (show gW _ _ from q) (Nat.le_of_ble_eq_true rfl)
    cases e2
    have := gR0 r
    have w := gR0 (show gR (0, 3, 3, 0, 0, 0) (M' 5 1) from (p _ List.mem_cons_self).1)
    exact Or.inr (Or.inl ⟨this.1, this.2, w.1, w.2⟩)
  · obtain ⟨z2, e2, r⟩ := gW_int (show gW _ _ from q) (Nat.le_of_ble_eq_true rfl)
    cases e2
    have := gR0 r
    have w := gR0 (show gR (0, 3, 3, 0, 0, 0) (M' 5 1) from (p _ (List.mem_cons_of_mem _ List.mem_cons_self)).1)
    exact Or.inr (Or.inr (Or.inl ⟨this.1, this.2, w.1, w.2⟩))
  · obtain ⟨z2, e2, r⟩ := gW_int (show gW _ _ from q) (Nat.le_of_ble_eq_true rfl)
    cases e2
    have := gR0 r
    have w := gR0 (show gR (0, 0, 0, 0, 0, 0) (M' 5 1) from (p _ (List.mem_cons_of_mem _ List.mem_cons_self)).1)
    exact Or.inr (Or.inr (Or.inr (Or.inl ⟨this.1, this.2, w.1, w.2⟩)))
  · obtain ⟨z2, e2, r⟩ := gW_int (show gW _ _ from q) (Nat.le_of_ble_eq_true rfl)
    cases e2
    have := gR0 r
    have w := gR0 (show gR (0, 1, 1, 0, 0, 0) (M' 5 1) from (p _ (List.mem_cons_of_mem _ List.mem_cons_self)).1)
    exact Or.inr (Or.inr (Or.inr (Or.inr (Or.inl ⟨this.1, this.2, w.1, w.2⟩))))
  · obtain ⟨z2, e2, r⟩ := gW_int (show gW _ _ from q) (Nat.le_of_ble_eq_true rfl)
    cases e2
    have := gR0 r
    have w := gR0 (show gR (0, 10, 10, 0, 0, 0) (M' 5 1) from (p _ (List.mem_cons_of_mem _ List.mem_cons_self)).1)
    exact Or.inr (Or.inr (Or.inr (Or.inr (Or.inr (Or.inl ⟨this.1, this.2, w.1, w.2⟩)))))
  · obtain ⟨z2, e2, r⟩ := gW_int (show gW _ _ from q) (Nat.le_of_ble_eq_true rfl)
    cases e2
    have := gR0 r
    have w := gR0 (show gR (0, 2, 2, 0, 0, 0) (M' 5 1) from (p _ (List.mem_cons_of_mem _ List.mem_cons_self)).1)
    exact Or.inr (Or.inr (Or.inr (Or.inr (Or.inr (Or.inr (Or.inl ⟨this.1, this.2, w.1, w.2⟩))))))
  · obtain ⟨z2, e2, r⟩ := gW_int (show gW _ _ from q) (Nat.le_of_ble_eq_true rfl)
    cases e2
    have := gR0 r
    have w := gR0 (show gR (0, 3, 3, 0, 0, 0) (M' 5 1) from (p _ (List.mem_cons_of_mem _ List.mem_cons_self)).1)
    exact Or.inr (Or.inr (Or.inr (Or.inr (Or.inr (Or.inr (Or.inr (Or.inl ⟨this.1, this.2, w.1, w.2⟩)))))))
  · obtain ⟨z2, e2, r⟩ := gW_int (show gW _ _ from q) (Nat.le_of_ble_eq_true rfl)
    cases e2
    have := gR0 r
    have w := gR0 (show gR (0, 4, 4, 0, 0, 0) (M' 5 1) from (p _ (List.mem_cons_of_mem _ List.mem_cons_self)).1)
    exact Or.inr (Or.inr (Or.inr (Or.inr (Or.inr (Or.inr (Or.inr (Or.inr (Or.inl ⟨this.1, this.2, w.1, w.2⟩))))))))
  · obtain ⟨z2, e2, r⟩ := gW_int (show gW _ _ from q) (Nat.le_of_ble_eq_true rfl)
    cases e2
    have := gR0 r
    have w := gR0 (show gR (0, 5, 5, 0, 0, 0) (M' 5 1) from (p _ (List.mem_cons_of_mem _ List.mem_cons_self)).1)
    exact Or.inr (Or.inr (Or.inr (Or.inr (Or.inr (Or.inr (Or.inr (Or.inr (Or.inr (Or.inl ⟨this.1, this.2, w.1, w.2⟩)))))))))
  · obtain ⟨z2, e2, r⟩ := gW_int (show gW _ _ from q) (Nat.le_of_ble_eq_true rfl)
    cases e2
    have := gR0 r
    have w := gR0 (show gR (0, 6, 6, 0, 0, 0) (M' 5 1) from (p _ (List.mem_cons_of_mem _ List.mem_cons_self)).1)
    exact Or.inr (Or.inr (Or.inr (Or.inr (Or.inr (Or.inr (Or.inr (Or.inr (Or.inr (Or.inr (Or.inl ⟨this.1, this.2, w.1, w.2⟩))))))))))
  · obtain ⟨z2, e2, r⟩ := gW_int (show gW _ _ from q) (Nat.le_of_ble_eq_true rfl)
    cases e2
    have := gR0 r
    have w := gR0 (show gR (0, 7, 7, 0, 0, 0) (M' 5 1) from (p _ (List.mem_cons_of_mem _ List.mem_cons_self)).1)
    exact Or.inr (Or.inr (Or.inr (Or.inr (Or.inr (Or.inr (Or.inr (Or.inr (Or.inr (Or.inr (Or.inr (Or.inl ⟨this.1, this.2, w.1, w.2⟩)))))))))))
  · obtain ⟨z2, e2, r⟩ := gW_int (show gW _ _ from q) (Nat.le_of_ble_eq_true rfl)
    cases e2
    have := gR0 r
    have w := gR0 (show gR (0, 8, 8, 0, 0, 0) (M' 5 1) from (p _ (List.mem_cons_of_mem _ List.mem_cons_self)).1)
    exact Or.inr (Or.inr (Or.inr (Or.inr (Or.inr (Or.inr (Or.inr (Or.inr (Or.inr (Or.inr (Or.inr (Or.inr (Or.inl ⟨this.1, this.2, w.1, w.2⟩))))))))))))
  · obtain ⟨z2, e2, r⟩ := gW_int (show gW _ _ from q) (Nat.le_of_ble_eq_true rfl)
    cases e2
    have := gR0 r
    have w := gR0 (show gR (0, 9, 9, 0, 0, 0) (M' 5 1) from (p _ (List.mem_cons_of_mem _ List.mem_cons_self)).1)
    exact Or.inr (Or.inr (Or.inr (Or.inr (Or.inr (Or.inr (Or.inr (Or.inr (Or.inr (Or.inr (Or.inr (Or.inr (Or.inr ⟨this.1, this.2, w.1, w.2⟩))))))))))))
theorem nu_X_queue_4 {d : Nat} (hd : 7 ≤ d) {M : pM} (hM : gM gAll M) (p0 : 4 ≤ M 5 1 ∧ M 5 1 ≤ 4) : ∃ z M', xF d 40 [.inr 2] M = rI z M' ∧ ((-2 ≤ z ∧ z ≤ -2 ∧ 4 ≤ M' 5 1 ∧ M' 5 1 ≤ 4) ∨ (-4 ≤ z ∧ z ≤ -4 ∧ 4 ≤ M' 5 1 ∧ M' 5 1 ≤ 4) ∨ (-5 ≤ z ∧ z ≤ -5 ∧ 4 ≤ M' 5 1 ∧ M' 5 1 ≤ 4) ∨ (0 ≤ z ∧ z ≤ 0 ∧ 0 ≤ M' 5 1 ∧ M' 5 1 ≤ 0) ∨ (1 ≤ z ∧ z ≤ 1 ∧ 1 ≤ M' 5 1 ∧ M' 5 1 ≤ 1) ∨ (10 ≤ z ∧ z ≤ 10 ∧ 10 ≤ M' 5 1 ∧ M' 5 1 ≤ 10) ∨ (2 ≤ z ∧ z ≤ 2 ∧ 2 ≤ M' 5 1 ∧ M' 5 1 ≤ 2) ∨ (3 ≤ z ∧ z ≤ 3 ∧ 3 ≤ M' 5 1 ∧ M' 5 1 ≤ 3) ∨ (4 ≤ z ∧ z ≤ 4 ∧ 4 ≤ M' 5 1 ∧ M' 5 1 ≤ 4) ∨ (5 ≤ z ∧ z ≤ 5 ∧ 5 ≤ M' 5 1 ∧ M' 5 1 ≤ 5) ∨ (6 ≤ z ∧ z ≤ 6 ∧ 6 ≤ M' 5 1 ∧ M' 5 1 ≤ 6) ∨ (7 ≤ z ∧ z ≤ 7 ∧ 7 ≤ M' 5 1 ∧ M' 5 1 ≤ 7) ∨ (8 ≤ z ∧ z ≤ 8 ∧ 8 ≤ M' 5 1 ∧ M' 5 1 ≤ 8) ∨ (9 ≤ z ∧ z ≤ 9 ∧ 9 ≤ M' 5 1 ∧ M' 5 1 ≤ 9)) := by
  have c0 : cOK gAll (xF d) 40 K_718 := (ct_of (d := d) ct_ok (show K_718 ∈ CT.getD 40 [] from (show CT.getD 40 [] = [K_714, K_715, K_716, K_717, K_718, K_719, K_720, K_721, K_722, K_723, K_724, K_725, K_445] from rfl) ▸ by simp) hd)
  obtain ⟨z, M', e, -, -, alt, ha, q, p⟩ := cOK_I c0 (A := [.inr 2]) (show aF2 gW [aRef 2] [.inr 2] from ⟨gW_o, trivial⟩) hM (show gP0 [(5, 1, (0, 4, 4, 0, 0, 0))] M from fun e he => by
    simp only [List.mem_cons, List.not_mem_nil, or_false] at he
    rcases he with rfl
    · exact gR_i p0.1 p0.2) rfl
  refine ⟨z, M', e, ?_⟩
  have ha : alt ∈ [(some (0, -2, -2, 0, 0, 0), [], [(0, 14, (0, 1, 10, 0, 0, 0)), (5, 1, (0, 4, 4, 0, 0, 0)), (7, 10, (0, 1, 10, 0, 0, 0))]), (some (0, -4, -4, 0, 0, 0), [], [(5, 1, (0, 4, 4, 0, 0, 0))]), (some (0, -5, -5, 0, 0, 0), [], [(0, 14, (0, 1, 10, 0, 0, 0)), (5, 1, (0, 4, 4, 0, 0, 0)), (7, 10, (0, 1, 10, 0, 0, 0))]), (some (0, 0, 0, 0, 0, 0), [], [(0, 14, (0, 1, 10, 0, 0, 0)), (5, 1, (0, 0, 0, 0, 0, 0)), (7, 9, (0, 1, 6, 0, 0, 0)), (7, 10, (0, 1, 10, 0, 0, 0)), (48, 3, (0, 0, 0, 0, 0, 0))]), (some (0, 1, 1, 0, 0, 0), [], [(0, 14, (0, 1, 10, 0, 0, 0)), (5, 1, (0, 1, 1, 0, 0, 0)), (6, 0, (0, -2147483648, 2147483647, 0, 0, 0)), (7, 9, (0, 1, 6, 0, 0, 0)), (7, 10, (0, 1, 10, 0, 0, 0)), (48, 3, (0, 1, 1, 0, 0, 0))]), (some (0, 10, 10, 0, 0, 0), [], [(0, 14, (0, 1, 10, 0, 0, 0)), (5, 1, (0, 10, 10, 0, 0, 0)), (6, 9, (0, -2147483648, 2147483647, 0, 0, 0)), (7, 9, (0, 1, 6, 0, 0, 0)), (7, 10, (0, 1, 10, 0, 0, 0)), (48, 3, (0, 10, 10, 0, 0, 0))]), (some (0, 2, 2, 0, 0, 0), [], [(0, 14, (0, 1, 10, 0, 0, 0)), (5, 1, (0, 2, 2, 0, 0, 0)), (6, 1, (0, -2147483648, 2147483647, 0, 0, 0)), (7, 9, (0, 1, 6, 0, 0, 0)), (7, 10, (0, 1, 10, 0, 0, 0)), (48, 3, (0, 2, 2, 0, 0, 0))]), (some (0, 3, 3, 0, 0, 0), [], [(0, 14, (0, 1, 10, 0, 0, 0)), (5, 1, (0, 3, 3, 0, 0, 0)), (6, 2, (0, -2147483648, 2147483647, 0, 0, 0)), (7, 9, (0, 1, 6, 0, 0, 0)), (7, 10, (0, 1, 10, 0, 0, 0)), (48, 3, (0, 3, 3, 0, 0, 0))]), (some (0, 4, 4, 0, 0, 0), [], [(0, 14, (0, 1, 10, 0, 0, 0)), (5, 1, (0, 4, 4, 0, 0, 0)), (6, 3, (0, -2147483648, 2147483647, 0, 0, 0)), (7, 9, (0, 1, 6, 0, 0, 0)), (7, 10, (0, 1, 10, 0, 0, 0)), (48, 3, (0, 4, 4, 0, 0, 0))]), (some (0, 5, 5, 0, 0, 0), [], [(0, 14, (0, 1, 10, 0, 0, 0)), (5, 1, (0, 5, 5, 0, 0, 0)), (6, 4, (0, -2147483648, 2147483647, 0, 0, 0)), (7, 9, (0, 1, 6, 0, 0, 0)), (7, 10, (0, 1, 10, 0, 0, 0)), (48, 3, (0, 5, 5, 0, 0, 0))]), (some (0, 6, 6, 0, 0, 0), [], [(0, 14, (0, 1, 10, 0, 0, 0)), (5, 1, (0, 6, 6, 0, 0, 0)), (6, 5, (0, -2147483648, 2147483647, 0, 0, 0)), (7, 9, (0, 1, 6, 0, 0, 0)), (7, 10, (0, 1, 10, 0, 0, 0)), (48, 3, (0, 6, 6, 0, 0, 0))]), (some (0, 7, 7, 0, 0, 0), [], [(0, 14, (0, 1, 10, 0, 0, 0)), (5, 1, (0, 7, 7, 0, 0, 0)), (6, 6, (0, -2147483648, 2147483647, 0, 0, 0)), (7, 9, (0, 1, 6, 0, 0, 0)), (7, 10, (0, 1, 10, 0, 0, 0)), (48, 3, (0, 7, 7, 0, 0, 0))]), (some (0, 8, 8, 0, 0, 0), [], [(0, 14, (0, 1, 10, 0, 0, 0)), (5, 1, (0, 8, 8, 0, 0, 0)), (6, 7, (0, -2147483648, 2147483647, 0, 0, 0)), (7, 9, (0, 1, 6, 0, 0, 0)), (7, 10, (0, 1, 10, 0, 0, 0)), (48, 3, (0, 8, 8, 0, 0, 0))]), (some (0, 9, 9, 0, 0, 0), [], [(0, 14, (0, 1, 10, 0, 0, 0)), (5, 1, (0, 9, 9, 0, 0, 0)), (6, 8, (0, -2147483648, 2147483647, 0, 0, 0)), (7, 9, (0, 1, 6, 0, 0, 0)), (7, 10, (0, 1, 10, 0, 0, 0)), (48, 3, (0, 9, 9, 0, 0, 0))])] := ha
  simp only [List.mem_cons, List.not_mem_nil, or_false] at ha
  rcases ha with rfl | rfl | rfl | rfl | rfl | rfl | rfl | rfl | rfl | rfl | rfl | rfl | rfl | rfl
  · obtain ⟨z2, e2, r⟩ := gW_int (show gW _ _ from q) (Nat.le_of_ble_eq_true rfl)
    cases e2
    have := gR0 r
    have w := gR0 (show gR (0, 4, 4, 0, 0, 0) (M' 5 1) from (p _ (List.mem_cons_of_mem _ List.mem_cons_self)).1)
    exact Or.inl ⟨this.1, this.2, w.1, w.2⟩
  · obtain ⟨z2, e2, r⟩ := gW_int (show gW _ _ from q) (Nat.le_of_ble_eq_true rfl)
    cases e2
    have := gR0 r
    have w := gR0 (show gR (0, 4, 4, 0, 0, 0) (M' 5 1) from (p _ List.mem_cons_self).1)
    exact Or.inr (Or.inl ⟨this.1, this.2, w.1, w.2⟩)
  · obtain ⟨z2, e2, r⟩ := gW_int (show gW _ _ from q) (Nat.le_of_ble_eq_true rfl)
    cases e2
    have := gR0 r
    have w := gR0 (show gR (0, 4, 4, 0, 0, 0) (M' 5 1) from (p _ (List.mem_cons_of_mem _ List.mem_cons_self)).1)
    exact Or.inr (Or.inr (Or.inl ⟨this.1, this.2, w.1, w.2⟩))
  · obtain ⟨z2, e2, r⟩ := gW_int (show gW _ _ from q) (Nat.le_of_ble_eq_true rfl)
    cases e2
    have := gR0 r
    have w := gR0 (show gR (0, 0, 0, 0, 0, 0) (M' 5 1) from (p _ (List.mem_cons_of_mem _ List.mem_cons_self)).1)
    exact Or.inr (Or.inr (Or.inr (Or.inl ⟨this.1, this.2, w.1, w.2⟩)))
  · obtain ⟨z2, e2, r⟩ := gW_int (show gW _ _ from q) (Nat.le_of_ble_eq_true rfl)
    cases e2
    have := gR0 r
    have w := gR0 (show gR (0, 1, 1, 0, 0, 0) (M' 5 1) from (p _ (List.mem_cons_of_mem _ List.mem_cons_self)).1)
    exact Or.inr (Or.inr (Or.inr (Or.inr (Or.inl ⟨this.1, this.2, w.1, w.2⟩))))
  · obtain ⟨z2, e2, r⟩ := gW_int (show gW _ _ from q) (Nat.le_of_ble_eq_true rfl)
    cases e2
    have := gR0 r
    have w := gR0 (show gR (0, 10, 10, 0, 0, 0) (M' 5 1) from (p _ (List.mem_cons_of_mem _ List.mem_cons_self)).1)
    exact Or.inr (Or.inr (Or.inr (Or.inr (Or.inr (Or.inl ⟨this.1, this.2, w.1, w.2⟩)))))
  · obtain ⟨z2, e2, r⟩ := gW_int (show gW _ _ from q) (Nat.le_of_ble_eq_true rfl)
    cases e2
    have := gR0 r
    have w := gR0 (show gR (0, 2, 2, 0, 0, 0) (M' 5 1) from (p _ (List.mem_cons_of_mem _ List.mem_cons_self)).1)
    exact Or.inr (Or.inr (Or.inr (Or.inr (Or.inr (Or.inr (Or.inl ⟨this.1, this.2, w.1, w.2⟩))))))
  · obtain ⟨z2, e2, r⟩ := gW_int (show gW _ _ from q) (Nat.le_of_ble_eq_true rfl)
    cases e2
    have := gR0 r
    have w := gR0 (show gR (0, 3, 3, 0, 0, 0) (M' 5 1) from (p _ (List.mem_cons_of_mem _ List.mem_cons_self)).1)
    exact Or.inr (Or.inr (Or.inr (Or.inr (Or.inr (Or.inr (Or.inr (Or.inl ⟨this.1, this.2, w.1, w.2⟩)))))))
  · obtain ⟨z2, e2, r⟩ := gW_int (show gW _ _ from q) (Nat.le_of_ble_eq_true rfl)
    cases e2
    have := gR0 r
    have w := gR0 (show gR (0, 4, 4, 0, 0, 0) (M' 5 1) from (p _ (List.mem_cons_of_mem _ List.mem_cons_self)).1)
    exact Or.inr (Or.inr (Or.inr (Or.inr (Or.inr (Or.inr (Or.inr (Or.inr (Or.inl ⟨this.1, this.2, w.1, w.2⟩))))))))
  · obtain ⟨z2, e2, r⟩ := gW_int (show gW _ _ from q) (Nat.le_of_ble_eq_true rfl)
    cases e2
    have := gR0 r
    have w := gR0 (show gR (0, 5, 5, 0, 0, 0) (M' 5 1) from (p _ (List.mem_cons_of_mem _ List.mem_cons_self)).1)
    exact Or.inr (Or.inr (Or.inr (Or.inr (Or.inr (Or.inr (Or.inr (Or.inr (Or.inr (Or.inl ⟨this.1, this.2, w.1, w.2⟩)))))))))
  · obtain ⟨z2, e2, r⟩ := gW_int (show gW _ _ from q) (Nat.le_of_ble_eq_true rfl)
    cases e2
    have := gR0 r
    have w := gR0 (show gR (0, 6, 6, 0, 0, 0) (M' 5 1) from (p _ (List.mem_cons_of_mem _ List.mem_cons_self)).1)
    exact Or.inr (Or.inr (Or.inr (Or.inr (Or.inr (Or.inr (Or.inr (Or.inr (Or.inr (Or.inr (Or.inl ⟨this.1, this.2, w.1, w.2⟩))))))))))
  · obtain ⟨z2, e2, r⟩ := gW_int (show gW _ _ from q) (Nat.le_of_ble_eq_true rfl)
    cases e2
    have := gR0 r
    have w := gR0 (show gR (0, 7, 7, 0, 0, 0) (M' 5 1) from (p _ (List.mem_cons_of_mem _ List.mem_cons_self)).1)
    exact Or.inr (Or.inr (Or.inr (Or.inr (Or.inr (Or.inr (Or.inr (Or.inr (Or.inr (Or.inr (Or.inr (Or.inl ⟨this.1, this.2, w.1, w.2⟩)))))))))))
  · obtain ⟨z2, e2, r⟩ := gW_int (show gW _ _ from q) (Nat.le_of_ble_eq_true rfl)
    cases e2
    have := gR0 r
    have w := gR0 (show gR (0, 8, 8, 0, 0, 0) (M' 5 1) from (p _ (List.mem_cons_of_mem _ List.mem_cons_self)).1)
    exact Or.inr (Or.inr (Or.inr (Or.inr (Or.inr (Or.inr (Or.inr (Or.inr (Or.inr (Or.inr (Or.inr (Or.inr (Or.inl ⟨this.1, this.2, w.1, w.2⟩))))))))))))
  · obtain ⟨z2, e2, r⟩ := gW_int (show gW _ _ from q) (Nat.le_of_ble_eq_true rfl)
    cases e2
    have := gR0 r
    have w := gR0 (show gR (0, 9, 9, 0, 0, 0) (M' 5 1) from (p _ (List.mem_cons_of_mem _ List.mem_cons_self)).1)
    exact Or.inr (Or.inr (Or.inr (Or.inr (Or.inr (Or.inr (Or.inr (Or.inr (Or.inr (Or.inr (Or.inr (Or.inr (Or.inr ⟨this.1, this.2, w.1, w.2⟩))))))))))))
theorem nu_X_queue_5 {d : Nat} (hd : 7 ≤ d) {M : pM} (hM : gM gAll M) (p0 : 5 ≤ M 5 1 ∧ M 5 1 ≤ 5) : ∃ z M', xF d 40 [.inr 2] M = rI z M' ∧ ((-2 ≤ z ∧ z ≤ -2 ∧ 5 ≤ M' 5 1 ∧ M' 5 1 ≤ 5) ∨ (-4 ≤ z ∧ z ≤ -4 ∧ 5 ≤ M' 5 1 ∧ M' 5 1 ≤ 5) ∨ (-5 ≤ z ∧ z ≤ -5 ∧ 5 ≤ M' 5 1 ∧ M' 5 1 ≤ 5) ∨ (0 ≤ z ∧ z ≤ 0 ∧ 0 ≤ M' 5 1 ∧ M' 5 1 ≤ 0) ∨ (1 ≤ z ∧ z ≤ 1 ∧ 1 ≤ M' 5 1 ∧ M' 5 1 ≤ 1) ∨ (10 ≤ z ∧ z ≤ 10 ∧ 10 ≤ M' 5 1 ∧ M' 5 1 ≤ 10) ∨ (2 ≤ z ∧ z ≤ 2 ∧ 2 ≤ M' 5 1 ∧ M' 5 1 ≤ 2) ∨ (3 ≤ z ∧ z ≤ 3 ∧ 3 ≤ M' 5 1 ∧ M' 5 1 ≤ 3) ∨ (4 ≤ z ∧ z ≤ 4 ∧ 4 ≤ M' 5 1 ∧ M' 5 1 ≤ 4) ∨ (5 ≤ z ∧ z ≤ 5 ∧ 5 ≤ M' 5 1 ∧ M' 5 1 ≤ 5) ∨ (6 ≤ z ∧ z ≤ 6 ∧ 6 ≤ M' 5 1 ∧ M' 5 1 ≤ 6) ∨ (7 ≤ z ∧ z ≤ 7 ∧ 7 ≤ M' 5 1 ∧ M' 5 1 ≤ 7) ∨ (8 ≤ z ∧ z ≤ 8 ∧ 8 ≤ M' 5 1 ∧ M' 5 1 ≤ 8) ∨ (9 ≤ z ∧ z ≤ 9 ∧ 9 ≤ M' 5 1 ∧ M' 5 1 ≤ 9)) := by
  have c0 : cOK gAll (xF d) 40 K_719 := (ct_of (d := d) ct_ok (show K_719 ∈ CT.getD 40 [] from (show CT.getD 40 [] = [K_714, K_715, K_716, K_717, K_718, K_719, K_720, K_721, K_722, K_723, K_724, K_725, K_445] from rfl) ▸ by simp) hd)
  obtain ⟨z, M', e, -, -, alt, ha, q, p⟩ := cOK_I c0 (A := [.inr 2]) (show aF2 gW [aRef 2] [.inr 2] from ⟨gW_o, trivial⟩) hM (show gP0 [(5, 1, (0, 5, 5, 0, 0, 0))] M from fun e he => by
    simp only [List.mem_cons, List.not_mem_nil, or_false] at he
    rcases he with rfl
    · exact gR_i p0.1 p0.2) rfl
  refine ⟨z, M', e, ?_⟩
  have ha : alt ∈ [(some (0, -2, -2, 0, 0, 0), [], [(0, 14, (0, 1, 10, 0, 0, 0)), (5, 1, (0, 5, 5, 0, 0, 0)), (7, 10, (0, 1, 10, 0, 0, 0))]), (some (0, -4, -4, 0, 0, 0), [], [(5, 1, (0, 5, 5, 0, 0, 0))]), (some (0, -5, -5, 0, 0, 0), [], [(0, 14, (0, 1, 10, 0, 0, 0)), (5, 1, (0, 5, 5, 0, 0, 0)), (7, 10, (0, 1, 10, 0, 0, 0))]), (some (0, 0, 0, 0, 0, 0), [], [(0, 14, (0, 1, 10, 0, 0, 0)), (5, 1, (0, 0, 0, 0, 0, 0)), (7, 9, (0, 1, 6, 0, 0, 0)), (7, 10, (0, 1, 10, 0, 0, 0)), (48, 3, (0, 0, 0, 0, 0, 0))]), (some (0, 1, 1, 0, 0, 0), [], [(0, 14, (0, 1, 10, 0, 0, 0)), (5, 1, (0, 1, 1, 0, 0, 0)), (6, 0, (0, -2147483648, 2147483647, 0, 0, 0)), (7, 9, (0, 1, 6, 0, 0, 0)), (7, 10, (0, 1, 10, 0, 0, 0)), (48, 3, (0, 1, 1, 0, 0, 0))]), (some (0, 10, 10, 0, 0, 0), [], [(0, 14, (0, 1, 10, 0, 0, 0)), (5, 1, (0, 10, 10, 0, 0, 0)), (6, 9, (0, -2147483648, 2147483647, 0, 0, 0)), (7, 9, (0, 1, 6, 0, 0, 0)), (7, 10, (0, 1, 10, 0, 0, 0)), (48, 3, (0, 10, 10, 0, 0, 0))]), (some (0, 2, 2, 0, 0, 0), [], [(0, 14, (0, 1, 10, 0, 0, 0)), (5, 1, (0, 2, 2, 0, 0, 0)), (6, 1, (0, -2147483648, 2147483647, 0, 0, 0)), (7, 9, (0, 1, 6, 0, 0, 0)), (7, 10, (0, 1, 10, 0, 0, 0)), (48, 3, (0, 2, 2, 0, 0, 0))]), (some (0, 3, 3, 0, 0, 0), [], [(0, 14, (0, 1, 10, 0, 0, 0)), (5, 1, (0, 3, 3, 0, 0, 0)), (6, 2, (0, -2147483648, 2147483647, 0, 0, 0)), (7, 9, (0, 1, 6, 0, 0, 0)), (7, 10, (0, 1, 10, 0, 0, 0)), (48, 3, (0, 3, 3, 0, 0, 0))]), (some (0, 4, 4, 0, 0, 0), [], [(0, 14, (0, 1, 10, 0, 0, 0)), (5, 1, (0, 4, 4, 0, 0, 0)), (6, 3, (0, -2147483648, 2147483647, 0, 0, 0)), (7, 9, (0, 1, 6, 0, 0, 0)), (7, 10, (0, 1, 10, 0, 0, 0)), (48, 3, (0, 4, 4, 0, 0, 0))]), (some (0, 5, 5, 0, 0, 0), [], [(0, 14, (0, 1, 10, 0, 0, 0)), (5, 1, (0, 5, 5, 0, 0, 0)), (6, 4, (0, -2147483648, 2147483647, 0, 0, 0)), (7, 9, (0, 1, 6, 0, 0, 0)), (7, 10, (0, 1, 10, 0, 0, 0)), (48, 3, (0, 5, 5, 0, 0, 0))]), (some (0, 6, 6, 0, 0, 0), [], [(0, 14, (0, 1, 10, 0, 0, 0)), (5, 1, (0, 6, 6, 0, 0, 0)), (6, 5, (0, -2147483648, 2147483647, 0, 0, 0)), (7, 9, (0, 1, 6, 0, 0, 0)), (7, 10, (0, 1, 10, 0, 0, 0)), (48, 3, (0, 6, 6, 0, 0, 0))]), (some (0, 7, 7, 0, 0, 0), [], [(0, 14, (0, 1, 10, 0, 0, 0)), (5, 1, (0, 7, 7, 0, 0, 0)), (6, 6, (0, -2147483648, 2147483647, 0, 0, 0)), (7, 9, (0, 1, 6, 0, 0, 0)), (7, 10, (0, 1, 10, 0, 0, 0)), (48, 3, (0, 7, 7, 0, 0, 0))]), (some (0, 8, 8, 0, 0, 0), [], [(0, 14, (0, 1, 10, 0, 0, 0)), (5, 1, (0, 8, 8, 0, 0, 0)), (6, 7, (0, -2147483648, 2147483647, 0, 0, 0)), (7, 9, (0, 1, 6, 0, 0, 0)), (7, 10, (0, 1, 10, 0, 0, 0)), (48, 3, (0, 8, 8, 0, 0, 0))]), (some (0, 9, 9, 0, 0, 0), [], [(0, 14, (0, 1, 10, 0, 0, 0)), (5, 1, (0, 9, 9, 0, 0, 0)), (6, 8, (0, -2147483648, 2147483647, 0, 0, 0)), (7, 9, (0, 1, 6, 0, 0, 0)), (7, 10, (0, 1, 10, 0, 0, 0)), (48, 3, (0, 9, 9, 0, 0, 0))])] := ha
  simp only [List.mem_cons, List.not_mem_nil, or_false] at ha
  rcases ha with rfl | rfl | rfl | rfl | rfl | rfl | rfl | rfl | rfl | rfl | rfl | rfl | rfl | rfl
  · obtain ⟨z2, e2, r⟩ := gW_int (show gW _ _ from q) (Nat.le_of_ble_eq_true rfl)
    cases e2
    have := gR0 r
    have w := gR0 (show gR (0, 5, 5, 0, 0, 0) (M' 5 1) from (p _ (List.mem_cons_of_mem _ List.mem_cons_self)).1)
    exact Or.inl ⟨this.1, this.2, w.1, w.2⟩
  · obtain ⟨z2, e2, r⟩ := gW_int (show gW _ _ from q) (Nat.le_of_ble_eq_true rfl)
    cases e2
    have := gR0 r
    have w := gR0 (show gR (0, 5, 5, 0, 0, 0) (M' 5 1) from (p _ List.mem_cons_self).1)
    exact Or.inr (Or.inl ⟨this.1, this.2, w.1, w.2⟩)
  · obtain ⟨z2, e2, r⟩ := gW_int (show gW _ _ from q) (Nat.le_of_ble_eq_true rfl)
    cases e2
    have := gR0 r
    have w := gR0 (show gR (0, 5, 5, 0, 0, 0) (M' 5 1) from (p _ (List.mem_cons_of_mem _ List.mem_cons_self)).1)
    exact Or.inr (Or.inr (Or.inl ⟨this.1, this.2, w.1, w.2⟩))
  · obtain ⟨z2, e2, r⟩ := gW_int (show gW _ _ from q) (Nat.le_of_ble_eq_true rfl)
    cases e2
    have := gR0 r
    have w := gR0 (show gR (0, 0, 0, 0, 0, 0) (M' 5 1) from (p _ (List.mem_cons_of_mem _ List.mem_cons_self)).1)
    exact Or.inr (Or.inr (Or.inr (Or.inl ⟨this.1, this.2, w.1, w.2⟩)))
  · obtain ⟨z2, e2, r⟩ := gW_int (show gW _ _ from q) (Nat.le_of_ble_eq_true rfl)
    cases e2
    have := gR0 r
    have w := gR0 (show gR (0, 1, 1, 0, 0, 0) (M' 5 1) from (p _ (List.mem_cons_of_mem _ List.mem_cons_self)).1)
    exact Or.inr (Or.inr (Or.inr (Or.inr (Or.inl ⟨this.1, this.2, w.1, w.2⟩))))
  · obtain ⟨z2, e2, r⟩ := gW_int (show gW _ _ from q) (Nat.le_of_ble_eq_true rfl)
    cases e2
    have := gR0 r
    have w := gR0 (show gR (0, 10, 10, 0, 0, 0) (M' 5 1) from (p _ (List.mem_cons_of_mem _ List.mem_cons_self)).1)
    exact Or.inr (Or.inr (Or.inr (Or.inr (Or.inr (Or.inl ⟨this.1, this.2, w.1, w.2⟩)))))
  · obtain ⟨z2, e2, r⟩ := gW_int (show gW _ _ from q) (Nat.le_of_ble_eq_true rfl)
    cases e2
    have := gR0 r
    have w := gR0 (show gR (0, 2, 2, 0, 0, 0) (M' 5 1) from (p _ (List.mem_cons_of_mem _ List.mem_cons_self)).1)
    exact Or.inr (Or.inr (Or.inr (Or.inr (Or.inr (Or.inr (Or.inl ⟨this.1, this.2, w.1, w.2⟩))))))
  · obtain ⟨z2, e2, r⟩ := gW_int (show gW _ _ from q) (Nat.le_of_ble_eq_true rfl)
    cases e2
    have := gR0 r
    have w := gR0 (show gR (0, 3, 3, 0, 0, 0) (M' 5 1) from (p _ (List.mem_cons_of_mem _ List.mem_cons_self)).1)
    exact Or.inr (Or.inr (Or.inr (Or.inr (Or.inr (Or.inr (Or.inr (Or.inl ⟨this.1, this.2, w.1, w.2⟩)))))))
  · obtain ⟨z2, e2, r⟩ := gW_int (show gW _ _ from q) (Nat.le_of_ble_eq_true rfl)
    cases e2
    have := gR0 r
    have w := gR0 (show gR (0, 4, 4, 0, 0, 0) (M' 5 1) from (p _ (List.mem_cons_of_mem _ List.mem_cons_self)).1)
    exact Or.inr (Or.inr (Or.inr (Or.inr (Or.inr (Or.inr (Or.inr (Or.inr (Or.inl ⟨this.1, this.2, w.1, w.2⟩))))))))
  · obtain ⟨z2, e2, r⟩ := gW_int (show gW _ _ from q) (Nat.le_of_ble_eq_true rfl)
    cases e2
    have := gR0 r
    have w := gR0 (show gR (0, 5, 5, 0, 0, 0) (M' 5 1) from (p _ (List.mem_cons_of_mem _ List.mem_cons_self)).1)
    exact Or.inr (Or.inr (Or.inr (Or.inr (Or.inr (Or.inr (Or.inr (Or.inr (Or.inr (Or.inl ⟨this.1, this.2, w.1, w.2⟩)))))))))
  · obtain ⟨z2, e2, r⟩ := gW_int (show gW _ _ from q) (Nat.le_of_ble_eq_true rfl)
    cases e2
    have := gR0 r
    have w := gR0 (show gR (0, 6, 6, 0, 0, 0) (M' 5 1) from (p _ (List.mem_cons_of_mem _ List.mem_cons_self)).1)
    exact Or.inr (Or.inr (Or.inr (Or.inr (Or.inr (Or.inr (Or.inr (Or.inr (Or.inr (Or.inr (Or.inl ⟨this.1, this.2, w.1, w.2⟩))))))))))
  · obtain ⟨z2, e2, r⟩ := gW_int (show gW _ _ from q) (Nat.le_of_ble_eq_true rfl)
    cases e2
    have := gR0 r
    have w := gR0 (show gR (0, 7, 7, 0, 0, 0) (M' 5 1) from (p _ (List.mem_cons_of_mem _ List.mem_cons_self)).1)
    exact Or.inr (Or.inr (Or.inr (Or.inr (Or.inr (Or.inr (Or.inr (Or.inr (Or.inr (Or.inr (Or.inr (Or.inl ⟨this.1, this.2, w.1, w.2⟩)))))))))))
  · obtain ⟨z2, e2, r⟩ := gW_int (show gW _ _ from q) (Nat.le_of_ble_eq_true rfl)
    cases e2
    have := gR0 r
    have w := gR0 (show gR (0, 8, 8, 0, 0, 0) (M' 5 1) from (p _ (List.mem_cons_of_mem _ List.mem_cons_self)).1)
    exact Or.inr (Or.inr (Or.inr (Or.inr (Or.inr (Or.inr (Or.inr (Or.inr (Or.inr (Or.inr (Or.inr (Or.inr (Or.inl ⟨this.1, this.2, w.1, w.2⟩))))))))))))
  · obtain ⟨z2, e2, r⟩ := gW_int (show gW _ _ from q) (Nat.le_of_ble_eq_true rfl)
    cases e2
    have := gR0 r
    have w := gR0 (show gR (0, 9, 9, 0, 0, 0) (M' 5 1) from (p _ (List.mem_cons_of_mem _ List.mem_cons_self)).1)
    exact Or.inr (Or.inr (Or.inr (Or.inr (Or.inr (Or.inr (Or.inr (Or.inr (Or.inr (Or.inr (Or.inr (Or.inr (Or.inr ⟨this.1, this.2, w.1, w.2⟩))))))))))))
theorem nu_X_queue_6 {d : Nat} (hd : 7 ≤ d) {M : pM} (hM : gM gAll M) (p0 : 6 ≤ M 5 1 ∧ M 5 1 ≤ 6) : ∃ z M', xF d 40 [.inr 2] M = rI z M' ∧ ((-2 ≤ z ∧ z ≤ -2 ∧ 6 ≤ M' 5 1 ∧ M' 5 1 ≤ 6) ∨ (-4 ≤ z ∧ z ≤ -4 ∧ 6 ≤ M' 5 1 ∧ M' 5 1 ≤ 6) ∨ (-5 ≤ z ∧ z ≤ -5 ∧ 6 ≤ M' 5 1 ∧ M' 5 1 ≤ 6) ∨ (0 ≤ z ∧ z ≤ 0 ∧ 0 ≤ M' 5 1 ∧ M' 5 1 ≤ 0) ∨ (1 ≤ z ∧ z ≤ 1 ∧ 1 ≤ M' 5 1 ∧ M' 5 1 ≤ 1) ∨ (10 ≤ z ∧ z ≤ 10 ∧ 10 ≤ M' 5 1 ∧ M' 5 1 ≤ 10) ∨ (2 ≤ z ∧ z ≤ 2 ∧ 2 ≤ M' 5 1 ∧ M' 5 1 ≤ 2) ∨ (3 ≤ z ∧ z ≤ 3 ∧ 3 ≤ M' 5 1 ∧ M' 5 1 ≤ 3) ∨ (4 ≤ z ∧ z ≤ 4 ∧ 4 ≤ M' 5 1 ∧ M' 5 1 ≤ 4) ∨ (5 ≤ z ∧ z ≤ 5 ∧ 5 ≤ M' 5 1 ∧ M' 5 1 ≤ 5) ∨ (6 ≤ z ∧ z ≤ 6 ∧ 6 ≤ M' 5 1 ∧ M' 5 1 ≤ 6) ∨ (7 ≤ z ∧ z ≤ 7 ∧ 7 ≤ M' 5 1 ∧ M' 5 1 ≤ 7) ∨ (8 ≤ z ∧ z ≤ 8 ∧ 8 ≤ M' 5 1 ∧ M' 5 1 ≤ 8) ∨ (9 ≤ z ∧ z ≤ 9 ∧ 9 ≤ M' 5 1 ∧ M' 5 1 ≤ 9)) := by
  have c0 : cOK gAll (xF d) 40 K_720 := (ct_of (d := d) ct_ok (show K_720 ∈ CT.getD 40 [] from (show CT.getD 40 [] = [K_714, K_715, K_716, K_717, K_718, K_719, K_720, K_721, K_722, K_723, K_724, K_725, K_445] from rfl) ▸ by simp) hd)
  obtain ⟨z, M', e, -, -, alt, ha, q, p⟩ := cOK_I c0 (A := [.inr 2]) (show aF2 gW [aRef 2] [.inr 2] from ⟨gW_o, trivial⟩) hM (show gP0 [(5, 1, (0, 6, 6, 0, 0, 0))] M from fun e he => by
    simp only [List.mem_cons, List.not_mem_nil, or_false] at he
    rcases he with rfl
    · exact gR_i p0.1 p0.2) rfl
  refine ⟨z, M', e, ?_⟩
  have ha : alt ∈ [(some (0, -2, -2, 0, 0, 0), [], [(0, 14, (0, 1, 10, 0, 0, 0)), (5, 1, (0, 6, 6, 0, 0, 0)), (7, 10, (0, 1, 10, 0, 0, 0))]), (some (0, -4, -4, 0, 0, 0), [], [(5, 1, (0, 6, 6, 0, 0, 0))]), (some (0, -5, -5, 0, 0, 0), [], [(0, 14, (0, 1, 10, 0, 0, 0)), (5, 1, (0, 6, 6, 0, 0, 0)), (7, 10, (0, 1, 10, 0, 0, 0))]), (some (0, 0, 0, 0, 0, 0), [], [(0, 14, (0, 1, 10, 0, 0, 0)), (5, 1, (0, 0, 0, 0, 0, 0)), (7, 9, (0, 1, 6, 0, 0, 0)), (7, 10, (0, 1, 10, 0, 0, 0)), (48, 3, (0, 0, 0, 0, 0, 0))]), (some (0, 1, 1, 0, 0, 0), [], [(0, 14, (0, 1, 10, 0, 0, 0)), (5, 1, (0, 1, 1, 0, 0, 0)), (6, 0, (0, -2147483648, 2147483647, 0, 0, 0)), (7, 9, (0, 1, 6, 0, 0, 0)), (7, 10, (0, 1, 10, 0, 0, 0)), (48, 3, (0, 1, 1, 0, 0, 0))]), (some (0, 10, 10, 0, 0, 0), [], [(0, 14, (0, 1, 10, 0, 0, 0)), (5, 1, (0, 10, 10, 0, 0, 0)), (6, 9, (0, -2147483648, 2147483647, 0, 0, 0)), (7, 9, (0, 1, 6, 0, 0, 0)), (7, 10, (0, 1, 10, 0, 0, 0)), (48, 3, (0, 10, 10, 0, 0, 0))]), (some (0, 2, 2, 0, 0, 0), [], [(0, 14, (0, 1, 10, 0, 0, 0)), (5, 1, (0, 2, 2, 0, 0, 0)), (6, 1, (0, -2147483648, 2147483647, 0, 0, 0)), (7, 9, (0, 1, 6, 0, 0, 0)), (7, 10, (0, 1, 10, 0, 0, 0)), (48, 3, (0, 2, 2, 0, 0, 0))]), (some (0, 3, 3, 0, 0, 0), [], [(0, 14, (0, 1, 10, 0, 0, 0)), (5, 1, (0, 3, 3, 0, 0, 0)), (6, 2, (0, -2147483648, 2147483647, 0, 0, 0)), (7, 9, (0, 1, 6, 0, 0, 0)), (7, 10, (0, 1, 10, 0, 0, 0)), (48, 3, (0, 3, 3, 0, 0, 0))]), (some (0, 4, 4, 0, 0, 0), [], [(0, 14, (0, 1, 10, 0, 0, 0)), (5, 1, (0, 4, 4, 0, 0, 0)), (6, 3, (0, -2147483648, 2147483647, 0, 0, 0)), (7, 9, (0, 1, 6, 0, 0, 0)), (7, 10, (0, 1, 10, 0, 0, 0)), (48, 3, (0, 4, 4, 0, 0, 0))]), (some (0, 5, 5, 0, 0, 0), [], [(0, 14, (0, 1, 10, 0, 0, 0)), (5, 1, (0, 5, 5, 0, 0, 0)), (6, 4, (0, -2147483648, 2147483647, 0, 0, 0)), (7, 9, (0, 1, 6, 0, 0, 0)), (7, 10, (0, 1, 10, 0, 0, 0)), (48, 3, (0, 5, 5, 0, 0, 0))]), (some (0, 6, 6, 0, 0, 0), [], [(0, 14, (0, 1, 10, 0, 0, 0)), (5, 1, (0, 6, 6, 0, 0, 0)), (6, 5, (0, -2147483648, 2147483647, 0, 0, 0)), (7, 9, (0, 1, 6, 0, 0, 0)), (7, 10, (0, 1, 10, 0, 0, 0)), (48, 3, (0, 6, 6, 0, 0, 0))]), (some (0, 7, 7, 0, 0, 0), [], [(0, 14, (0, 1, 10, 0, 0, 0)), (5, 1, (0, 7, 7, 0, 0, 0)), (6, 6, (0, -2147483648, 2147483647, 0, 0, 0)), (7, 9, (0, 1, 6, 0, 0, 0)), (7, 10, (0, 1, 10, 0, 0, 0)), (48, 3, (0, 7, 7, 0, 0, 0))]), (some (0, 8, 8, 0, 0, 0), [], [(0, 14, (0, 1, 10, 0, 0, 0)), (5, 1, (0, 8, 8, 0, 0, 0)), (6, 7, (0, -2147483648, 2147483647, 0, 0, 0)), (7, 9, (0, 1, 6, 0, 0, 0)), (7, 10, (0, 1, 10, 0, 0, 0)), (48, 3, (0, 8, 8, 0, 0, 0))]), (some (0, 9, 9, 0, 0, 0), [], [(0, 14, (0, 1, 10, 0, 0, 0)), (5, 1, (0, 9, 9, 0, 0, 0)), (6, 8, (0, -2147483648, 2147483647, 0, 0, 0)), (7, 9, (0, 1, 6, 0, 0, 0)), (7, 10, (0, 1, 10, 0, 0, 0)), (48, 3, (0, 9, 9, 0, 0, 0))])] := ha
  simp only [List.mem_cons, List.not_mem_nil, or_false] at ha
  rcases ha with rfl | rfl | rfl | rfl | rfl | rfl | rfl | rfl | rfl | rfl | rfl | rfl | rfl | rfl
  · obtain ⟨z2, e2, r⟩ := gW_int (show gW _ _ from q) (Nat.le_of_ble_eq_true rfl)
    cases e2
    have := gR0 r
    have w := gR0 (show gR (0, 6, 6, 0, 0, 0) (M' 5 1) from (p _ (List.mem_cons_of_mem _ List.mem_cons_self)).1)
    exact Or.inl ⟨this.1, this.2, w.1, w.2⟩
  · obtain ⟨z2, e2, r⟩ := gW_int (show gW _ _ from q) (Nat.le_of_ble_eq_true rfl)
    cases e2
    have := gR0 r
    have w := gR0 (show gR (0, 6, 6, 0, 0, 0) (M' 5 1) from (p _ List.mem_cons_self).1)
    exact Or.inr (Or.inl ⟨this.1, this.2, w.1, w.2⟩)
  · obtain ⟨z2, e2, r⟩ := gW_int (show gW _ _ from q) (Nat.le_of_ble_eq_true rfl)
    cases e2
    have := gR0 r
    have w := gR0 (show gR (0, 6, 6, 0, 0, 0) (M' 5 1) from (p _ (List.mem_cons_of_mem _ List.mem_cons_self)).1)
    exact Or.inr (Or.inr (Or.inl ⟨this.1, this.2, w.1, w.2⟩))
  · obtain ⟨z2, e2, r⟩ := gW_int (show gW _ _ from q) (Nat.le_of_ble_eq_true rfl)
    cases e2
    have := gR0 r
    have w := gR0 (show gR (0, 0, 0, 0, 0, 0) (M' 5 1) from (p _ (List.mem_cons_of_mem _ List.mem_cons_self)).1)
    exact Or.inr (Or.inr (Or.inr (Or.inl ⟨this.1, this.2, w.1, w.2⟩)))
  · obtain ⟨z2, e2, r⟩ := gW_int (show gW _ _ from q) (Nat.le_of_ble_eq_true rfl)
    cases e2
    have := gR0 r
    have w := gR0 (show gR (0, 1, 1, 0, 0, 0) (M' 5 1) from (p _ (List.mem_cons_of_mem _ List.mem_cons_self)).1)
    exact Or.inr (Or.inr (Or.inr (Or.inr (Or.inl ⟨this.1, this.2, w.1, w.2⟩))))
  · obtain ⟨z2, e2, r⟩ := gW_int (show gW _ _ from q) (Nat.le_of_ble_eq_true rfl)
    cases e2
    have := gR0 r
    have w := gR0 (show gR (0, 10, 10, 0, 0, 0) (M' 5 1) from (p _ (List.mem_cons_of_mem _ List.mem_cons_self)).1)
    exact Or.inr (Or.inr (Or.inr (Or.inr (Or.inr (Or.inl ⟨this.1, this.2, w.1, w.2⟩)))))
  · obtain ⟨z2, e2, r⟩ := gW_int (show gW _ _ from q) (Nat.le_of_ble_eq_true rfl)
    cases e2
    have := gR0 r
    have w := gR0 (show gR (0, 2, 2, 0, 0, 0) (M' 5 1) from (p _ (List.mem_cons_of_mem _ List.mem_cons_self)).1)
    exact Or.inr (Or.inr (Or.inr (Or.inr (Or.inr (Or.inr (Or.inl ⟨this.1, this.2, w.1, w.2⟩))))))
  · obtain ⟨z2, e2, r⟩ := gW_int (show gW _ _ from q) (Nat.le_of_ble_eq_true rfl)
    cases e2
    have := gR0 r
    have w := gR0 (show gR (0, 3, 3, 0, 0, 0) (M' 5 1) from (p _ (List.mem_cons_of_mem _ List.mem_cons_self)).1)
    exact Or.inr (Or.inr (Or.inr (Or.inr (Or.inr (Or.inr (Or.inr (Or.inl ⟨this.1, this.2, w.1, w.2⟩)))))))
  · obtain ⟨z2, e2, r⟩ := gW_int (show gW _ _ from q) (Nat.le_of_ble_eq_true rfl)
    cases e2
    have := gR0 r
    have w := gR0 (show gR (0, 4, 4, 0, 0, 0) (M' 5 1) from (p _ (List.mem_cons_of_mem _ List.mem_cons_self)).1)
    exact Or.inr (Or.inr (Or.inr (Or.inr (Or.inr (Or.inr (Or.inr (Or.inr (Or.inl ⟨this.1, this.2, w.1, w.2⟩))))))))
  · obtain ⟨z2, e2, r⟩ := gW_int (show gW _ _ from q) (Nat.le_of_ble_eq_true rfl)
    cases e2
    have := gR0 r
    have w := gR0 (show gR (0, 5, 5, 0, 0, 0) (M' 5 1) from (p _ (List.mem_cons_of_mem _ List.mem_cons_self)).1)
    exact Or.inr (Or.inr (Or.inr (Or.inr (Or.inr (Or.inr (Or.inr (Or.inr (Or.inr (Or.inl ⟨this.1, this.2, w.1, w.2⟩)))))))))
  · obtain ⟨z2, e2, r⟩ := gW_int (show gW _ _ from q) (Nat.le_of_ble_eq_true rfl)
    cases e2
    have := gR0 r
    have w := gR0 (show gR (0, 6, 6, 0, 0, 0) (M' 5 1) from (p _ (List.mem_cons_of_mem _ List.mem_cons_self)).1)
    exact Or.inr (Or.inr (Or.inr (Or.inr (Or.inr (Or.inr (Or.inr (Or.inr (Or.inr (Or.inr (Or.inl ⟨this.1, this.2, w.1, w.2⟩))))))))))
  · obtain ⟨z2, e2, r⟩ := gW_int (show gW _ _ from q) (Nat.le_of_ble_eq_true rfl)
    cases e2
    have := gR0 r
    have w := gR0 (show gR (0, 7, 7, 0, 0, 0) (M' 5 1) from (p _ (List.mem_cons_of_mem _ List.mem_cons_self)).1)
    exact Or.inr (Or.inr (Or.inr (Or.inr (Or.inr (Or.inr (Or.inr (Or.inr (Or.inr (Or.inr (Or.inr (Or.inl ⟨this.1, this.2, w.1, w.2⟩)))))))))))
  · obtain ⟨z2, e2, r⟩ := gW_int (show gW _ _ from q) (Nat.le_of_ble_eq_true rfl)
    cases e2
    have := gR0 r
    have w := gR0 (show gR (0, 8, 8, 0, 0, 0) (M' 5 1) from (p _ (List.mem_cons_of_mem _ List.mem_cons_self)).1)
    exact Or.inr (Or.inr (Or.inr (Or.inr (Or.inr (Or.inr (Or.inr (Or.inr (Or.inr (Or.inr (Or.inr (Or.inr (Or.inl ⟨this.1, this.2, w.1, w.2⟩))))))))))))
  · obtain ⟨z2, e2, r⟩ := gW_int (show gW _ _ from q) (Nat.le_of_ble_eq_true rfl)
    cases e2
    have := gR0 r
    have w := gR0 (show gR (0, 9, 9, 0, 0, 0) (M' 5 1) from (p _ (List.mem_cons_of_mem _ List.mem_cons_self)).1)
    exact Or.inr (Or.inr (Or.inr (Or.inr (Or.inr (Or.inr (Or.inr (Or.inr (Or.inr (Or.inr (Or.inr (Or.inr (Or.inr ⟨this.1, this.2, w.1, w.2⟩))))))))))))
theorem nu_X_queue_7 {d : Nat} (hd : 7 ≤ d) {M : pM} (hM : gM gAll M) (p0 : 7 ≤ M 5 1 ∧ M 5 1 ≤ 7) : ∃ z M', xF d 40 [.inr 2] M = rI z M' ∧ ((-2 ≤ z ∧ z ≤ -2 ∧ 7 ≤ M' 5 1 ∧ M' 5 1 ≤ 7) ∨ (-4 ≤ z ∧ z ≤ -4 ∧ 7 ≤ M' 5 1 ∧ M' 5 1 ≤ 7) ∨ (-5 ≤ z ∧ z ≤ -5 ∧ 7 ≤ M' 5 1 ∧ M' 5 1 ≤ 7) ∨ (0 ≤ z ∧ z ≤ 0 ∧ 0 ≤ M' 5 1 ∧ M' 5 1 ≤ 0) ∨ (1 ≤ z ∧ z ≤ 1 ∧ 1 ≤ M' 5 1 ∧ M' 5 1 ≤ 1) ∨ (10 ≤ z ∧ z ≤ 10 ∧ 10 ≤ M' 5 1 ∧ M' 5 1 ≤ 10) ∨ (2 ≤ z ∧ z ≤ 2 ∧ 2 ≤ M' 5 1 ∧ M' 5 1 ≤ 2) ∨ (3 ≤ z ∧ z ≤ 3 ∧ 3 ≤ M' 5 1 ∧ M' 5 1 ≤ 3) ∨ (4 ≤ z ∧ z ≤ 4 ∧ 4 ≤ M' 5 1 ∧ M' 5 1 ≤ 4) ∨ (5 ≤ z ∧ z ≤ 5 ∧ 5 ≤ M' 5 1 ∧ M' 5 1 ≤ 5) ∨ (6 ≤ z ∧ z ≤ 6 ∧ 6 ≤ M' 5 1 ∧ M' 5 1 ≤ 6) ∨ (7 ≤ z ∧ z ≤ 7 ∧ 7 ≤ M' 5 1 ∧ M' 5 1 ≤ 7) ∨ (8 ≤ z ∧ z ≤ 8 ∧ 8 ≤ M' 5 1 ∧ M' 5 1 ≤ 8) ∨ (9 ≤ z ∧ z ≤ 9 ∧ 9 ≤ M' 5 1 ∧ M' 5 1 ≤ 9)) := by
  have c0 : cOK gAll (xF d) 40 K_721 := (ct_of (d := d) ct_ok (show K_721 ∈ CT.getD 40 [] from (show CT.getD 40 [] = [K_714, K_715, K_716, K_717, K_718, K_719, K_720, K_721, K_722, K_723, K_724, K_725, K_445] from rfl) ▸ by simp) hd)
  obtain ⟨z, M', e, -, -, alt, ha, q, p⟩ := cOK_I c0 (A := [.inr 2]) (show aF2 gW [aRef 2] [.inr 2] from ⟨gW_o, trivial⟩) hM (show gP0 [(5, 1, (0, 7, 7, 0, 0, 0))] M from fun e he => by
    simp only [List.mem_cons, List.not_mem_nil, or_false] at he
    rcases he with rfl
    · exact gR_i p0.1 p0.2) rfl
  refine ⟨z, M', e, ?_⟩
  have ha : alt ∈ [(some (0, -2, -2, 0, 0, 0), [], [(0, 14, (0, 1, 10, 0, 0, 0)), (5, 1, (0, 7, 7, 0, 0, 0)), (7, 10, (0, 1, 10, 0, 0, 0))]), (some (0, -4, -4, 0, 0, 0), [], [(5, 1, (0, 7, 7, 0, 0, 0))]), (some (0, -5, -5, 0, 0, 0), [], [(0, 14, (0, 1, 10, 0, 0, 0)), (5, 1, (0, 7, 7, 0, 0, 0)), (7, 10, (0, 1, 10, 0, 0, 0))]), (some (0, 0, 0, 0, 0, 0), [], [(0, 14, (0, 1, 10, 0, 0, 0)), (5, 1, (0, 0, 0, 0, 0, 0)), (7, 9, (0, 1, 6, 0, 0, 0)), (7, 10, (0, 1, 10, 0, 0, 0)), (48, 3, (0, 0, 0, 0, 0, 0))]), (some (0, 1, 1, 0, 0, 0), [], [(0, 14, (0, 1, 10, 0, 0, 0)), (5, 1, (0, 1, 1, 0, 0, 0)), (6, 0, (0, -2147483648, 2147483647, 0, 0, 0)), (7, 9, (0, 1, 6, 0, 0, 0)), (7, 10, (0, 1, 10, 0, 0, 0)), (48, 3, (0, 1, 1, 0, 0, 0))]), (some (0, 10, 10, 0, 0, 0), [], [(0, 14, (0, 1, 10, 0, 0, 0)), (5, 1, (0, 10, 10, 0, 0, 0)), (6, 9, (0, -2147483648, 2147483647, 0, 0, 0)), (7, 9, (0, 1, 6, 0, 0, 0)), (7, 10, (0, 1, 10, 0, 0, 0)), (48, 3, (0, 10, 10, 0, 0, 0))]), (some (0, 2, 2, 0, 0, 0), [], [(0, 14, (0, 1, 10, 0, 0, 0)), (5, 1, (0, 2, 2, 0, 0, 0)), (6, 1, (0, -2147483648, 2147483647, 0, 0, 0)), (7, 9, (0, 1, 6, 0, 0, 0)), (7, 10, (0, 1, 10, 0, 0, 0)), (48, 3, (0, 2, 2, 0, 0, 0))]), (some (0, 3, 3, 0, 0, 0), [], [(0, 14, (0, 1, 10, 0, 0, 0)), (5, 1, (0, 3, 3, 0, 0, 0)), (6, 2, (0, -2147483648, 2147483647, 0, 0, 0)), (7, 9, (0, 1, 6, 0, 0, 0)), (7, 10, (0, 1, 10, 0, 0, 0)), (48, 3, (0, 3, 3, 0, 0, 0))]), (some (0, 4, 4, 0, 0, 0), [], [(0, 14, (0, 1, 10, 0, 0, 0)), (5, 1, (0, 4, 4, 0, 0, 0)), (6, 3, (0, -2147483648, 2147483647, 0, 0, 0)), (7, 9, (0, 1, 6, 0, 0, 0)), (7, 10, (0, 1, 10, 0, 0, 0)), (48, 3, (0, 4, 4, 0, 0, 0))]), (some (0, 5, 5, 0, 0, 0), [], [(0, 14, (0, 1, 10, 0, 0, 0)), (5, 1, (0, 5, 5, 0, 0, 0)), (6, 4, (0, -2147483648, 2147483647, 0, 0, 0)), (7, 9, (0, 1, 6, 0, 0, 0)), (7, 10, (0, 1, 10, 0, 0, 0)), (48, 3, (0, 5, 5, 0, 0, 0))]), (some (0, 6, 6, 0, 0, 0), [], [(0, 14, (0, 1, 10, 0, 0, 0)), (5, 1, (0, 6, 6, 0, 0, 0)), (6, 5, (0, -2147483648, 2147483647, 0, 0, 0)), (7, 9, (0, 1, 6, 0, 0, 0)), (7, 10, (0, 1, 10, 0, 0, 0)), (48, 3, (0, 6, 6, 0, 0, 0))]), (some (0, 7, 7, 0, 0, 0), [], [(0, 14, (0, 1, 10, 0, 0, 0)), (5, 1, (0, 7, 7, 0, 0, 0)), (6, 6, (0, -2147483648, 2147483647, 0, 0, 0)), (7, 9, (0, 1, 6, 0, 0, 0)), (7, 10, (0, 1, 10, 0, 0, 0)), (48, 3, (0, 7, 7, 0, 0, 0))]), (some (0, 8, 8, 0, 0, 0), [], [(0, 14, (0, 1, 10, 0, 0, 0)), (5, 1, (0, 8, 8, 0, 0, 0)), (6, 7, (0, -2147483648, 2147483647, 0, 0, 0)), (7, 9, (0, 1, 6, 0, 0, 0)), (7, 10, (0, 1, 10, 0, 0, 0)), (48, 3, (0, 8, 8, 0, 0, 0))]), (some (0, 9, 9, 0, 0, 0), [], [(0, 14, (0, 1, 10, 0, 0, 0)), (5, 1, (0, 9, 9, 0, 0, 0)), (6, 8, (0, -2147483648, 2147483647, 0, 0, 0)), (7, 9, (0, 1, 6, 0, 0, 0)), (7, 10, (0, 1, 10, 0, 0, 0)), (48, 3, (0, 9, 9, 0, 0, 0))])] := ha
  simp only [List.mem_cons, List.not_mem_nil, or_false] at ha
  rcases ha with rfl | rfl | rfl | rfl | rfl | rfl | rfl | rfl | rfl | rfl | rfl | rfl | rfl | rfl
  · obtain ⟨z2, e2, r⟩ := gW_int (show gW _ _ from q) (Nat.le_of_ble_eq_true rfl)
    cases e2
    have := gR0 r
    have w := gR0 (show gR (0, 7, 7, 0, 0, 0) (M' 5 1) from (p _ (List.mem_cons_of_mem _ List.mem_cons_self)).1)
    exact Or.inl ⟨this.1, this.2, w.1, w.2⟩
  · obtain ⟨z2, e2, r⟩ := gW_int (show gW _ _ from q) (Nat.le_of_ble_eq_true rfl)
    cases e2
    have := gR0 r
    have w := gR0 (show gR (0, 7, 7, 0, 0, 0) (M' 5 1) from (p _ List.mem_cons_self).1)
    exact Or.inr (Or.inl ⟨this.1, this.2, w.1, w.2⟩)
  · obtain ⟨z2, e2, r⟩ := gW_int (show gW _ _ from q) (Nat.le_of_ble_eq_true rfl)
    cases e2
    have := gR0 r
    have w := gR0 (show gR (0, 7, 7, 0, 0, 0) (M' 5 1) from (p _ (List.mem_cons_of_mem _ List.mem_cons_self)).1)
    exact Or.inr (Or.inr (Or.inl ⟨this.1, this.2, w.1, w.2⟩))
  · obtain ⟨z2, e2, r⟩ := gW_int (show gW _ _ from q) (Nat.le_of_ble_eq_true rfl)
    cases e2
    have := gR0 r
    have w := gR0 (show gR (0, 0, 0, 0, 0, 0) (M' 5 1) from (p _ (List.mem_cons_of_mem _ List.mem_cons_self)).1)
    exact Or.inr (Or.inr (Or.inr (Or.inl ⟨this.1, this.2, w.1, w.2⟩)))
  · obtain ⟨z2, e2, r⟩ := gW_int (show gW _ _ from q) (Nat.le_of_ble_eq_true rfl)
    cases e2
    have := gR0 r
    have w := gR0 (show gR (0, 1, 1, 0, 0, 0) (M' 5 1) from (p _ (List.mem_cons_of_mem _ List.mem_cons_self)).1)
    exact Or.inr (Or.inr (Or.inr (Or.inr (Or.inl ⟨this.1, this.2, w.1, w.2⟩))))
  · obtain ⟨z2, e2, r⟩ := gW_int (show gW _ _ from q) (Nat.le_of_ble_eq_true rfl)
    cases e2
    have := gR0 r
    have w := gR0 (show gR (0, 10, 10, 0, 0, 0) (M' 5 1) from (p _ (List.mem_cons_of_mem _ List.mem_cons_self)).1)
    exact Or.inr (Or.inr (Or.inr (Or.inr (Or.inr (Or.inl ⟨this.1, this.2, w.1, w.2⟩)))))
  · obtain ⟨z2, e2, r⟩ := gW_int (show gW _ _ from q) (Nat.le_of_ble_eq_true rfl)
    cases e2
    have := gR0 r
    have w := gR0 (show gR (0, 2, 2, 0, 0, 0) (M' 5 1) from (p _ (List.mem_cons_of_mem _ List.mem_cons_self)).1)
    exact Or.inr (Or.inr (Or.inr (Or.inr (Or.inr (Or.inr (Or.inl ⟨this.1, this.2, w.1, w.2⟩))))))
  · obtain ⟨z2, e2, r⟩ := gW_int (show gW _ _ from q) (Nat.le_of_ble_eq_true rfl)
    cases e2
    have := gR0 r
    have w := gR0 (show gR (0, 3, 3, 0, 0, 0) (M' 5 1) from (p _ (List.mem_cons_of_mem _ List.mem_cons_self)).1)
    exact Or.inr (Or.inr (Or.inr (Or.inr (Or.inr (Or.inr (Or.inr (Or.inl ⟨this.1, this.2, w.1, w.2⟩)))))))
  · obtain ⟨z2, e2, r⟩ := gW_int (show gW _ _ from q) (Nat.le_of_ble_eq_true rfl)
    cases e2
    have := gR0 r
    have w := gR0 (show gR (0, 4, 4, 0, 0, 0) (M' 5 1) from (p _ (List.mem_cons_of_mem _ List.mem_cons_self)).1)
    exact Or.inr (Or.inr (Or.inr (Or.inr (Or.inr (Or.inr (Or.inr (Or.inr (Or.inl ⟨this.1, this.2, w.1, w.2⟩))))))))
  · obtain ⟨z2, e2, r⟩ := gW_int (show gW _ _ from q) (Nat.le_of_ble_eq_true rfl)
    cases e2
    have := gR0 r
    have w := gR0 (show gR (0, 5, 5, 0, 0, 0) (M' 5 1) from (p _ (List.mem_cons_of_mem _ List.mem_cons_self)).1)
    exact Or.inr (Or.inr (Or.inr (Or.inr (Or.inr (Or.inr (Or.inr (Or.inr (Or.inr (Or.inl ⟨this.1, this.2, w.1, w.2⟩)))))))))
  · obtain ⟨z2, e2, r⟩ := gW_int (show gW _ _ from q) (Nat.le_of_ble_eq_true rfl)
    cases e2
    have := gR0 r
    have w := gR0 (show gR (0, 6, 6, 0, 0, 0) (M' 5 1) from (p _ (List.mem_cons_of_mem _ List.mem_cons_self)).1)
    exact Or.inr (Or.inr (Or.inr (Or.inr (Or.inr (Or.inr (Or.inr (Or.inr (Or.inr (Or.inr (Or.inl ⟨this.1, this.2, w.1, w.2⟩))))))))))
  · obtain ⟨z2, e2, r⟩ := gW_int (show gW _ _ from q) (Nat.le_of_ble_eq_true rfl)
    cases e2
    have := gR0 r
    have w := gR0 (show gR (0, 7, 7, 0, 0, 0) (M' 5 1) from (p _ (List.mem_cons_of_mem _ List.mem_cons_self)).1)
    exact Or.inr (Or.inr (Or.inr (Or.inr (Or.inr (Or.inr (Or.inr (Or.inr (Or.inr (Or.inr (Or.inr (Or.inl ⟨this.1, this.2, w.1, w.2⟩)))))))))))
  · obtain ⟨z2, e2, r⟩ := gW_int (show gW _ _ from q) (Nat.le_of_ble_eq_true rfl)
    cases e2
    have := gR0 r
    have w := gR0 (show gR (0, 8, 8, 0, 0, 0) (M' 5 1) from (p _ (List.mem_cons_of_mem _ List.mem_cons_self)).1)
    exact Or.inr (Or.inr (Or.inr (Or.inr (Or.inr (Or.inr (Or.inr (Or.inr (Or.inr (Or.inr (Or.inr (Or.inr (Or.inl ⟨this.1, this.2, w.1, w.2⟩))))))))))))
  · obtain ⟨z2, e2, r⟩ := gW_int (show gW _ _ from q) (Nat.le_of_ble_eq_true rfl)
    cases e2
    have := gR0 r
    have w := gR0 (show gR (0, 9, 9, 0, 0, 0) (M' 5 1) from (p _ (List.mem_cons_of_mem _ List.mem_cons_self)).1)
    exact Or.inr (Or.inr (Or.inr (Or.inr (Or.inr (Or.inr (Or.inr (Or.inr (Or.inr (Or.inr (Or.inr (Or.inr (Or.inr ⟨this.1, this.2, w.1, w.2⟩))))))))))))
theorem nu_X_queue_8 {d : Nat} (hd : 7 ≤ d) {M : pM} (hM : gM gAll M) (p0 : 8 ≤ M 5 1 ∧ M 5 1 ≤ 8) : ∃ z M', xF d 40 [.inr 2] M = rI z M' ∧ ((-2 ≤ z ∧ z ≤ -2 ∧ 8 ≤ M' 5 1 ∧ M' 5 1 ≤ 8) ∨ (-4 ≤ z ∧ z ≤ -4 ∧ 8 ≤ M' 5 1 ∧ M' 5 1 ≤ 8) ∨ (-5 ≤ z ∧ z ≤ -5 ∧ 8 ≤ M' 5 1 ∧ M' 5 1 ≤ 8) ∨ (0 ≤ z ∧ z ≤ 0 ∧ 0 ≤ M' 5 1 ∧ M' 5 1 ≤ 0) ∨ (1 ≤ z ∧ z ≤ 1 ∧ 1 ≤ M' 5 1 ∧ M' 5 1 ≤ 1) ∨ (10 ≤ z ∧ z ≤ 10 ∧ 10 ≤ M' 5 1 ∧ M' 5 1 ≤ 10) ∨ (2 ≤ z ∧ z ≤ 2 ∧ 2 ≤ M' 5 1 ∧ M' 5 1 ≤ 2) ∨ (3 ≤ z ∧ z ≤ 3 ∧ 3 ≤ M' 5 1 ∧ M' 5 1 ≤ 3) ∨ (4 ≤ z ∧ z ≤ 4 ∧ 4 ≤ M' 5 1 ∧ M' 5 1 ≤ 4) ∨ (5 ≤ z ∧ z ≤ 5 ∧ 5 ≤ M' 5 1 ∧ M' 5 1 ≤ 5) ∨ (6 ≤ z ∧ z ≤ 6 ∧ 6 ≤ M' 5 1 ∧ M' 5 1 ≤ 6) ∨ (7 ≤ z ∧ z ≤ 7 ∧ 7 ≤ M' 5 1 ∧ M' 5 1 ≤ 7) ∨ (8 ≤ z ∧ z ≤ 8 ∧ 8 ≤ M' 5 1 ∧ M' 5 1 ≤ 8) ∨ (9 ≤ z ∧ z ≤ 9 ∧ 9 ≤ M' 5 1 ∧ M' 5 1 ≤ 9)) := by
  have c0 : cOK gAll (xF d) 40 K_722 := (ct_of (d := d) ct_ok (show K_722 ∈ CT.getD 40 [] from (show CT.getD 40 [] = [K_714, K_715, K_716, K_717, K_718, K_719, K_720, K_721, K_722, K_723, K_724, K_725, K_445] from rfl) ▸ by simp) hd)
  obtain ⟨z, M', e, -, -, alt, ha, q, p⟩ := cOK_I c0 (A := [.inr 2]) (show aF2 gW [aRef 2] [.inr 2] from ⟨gW_o, trivial⟩) hM (show gP0 [(5, 1, (0, 8, 8, 0, 0, 0))] M from fun e he => by
    simp only [List.mem_cons, List.not_mem_nil, or_false] at he
    rcases he with rfl
    · exact gR_i p0.1 p0.2) rfl
  refine ⟨z, M', e, ?_⟩
  have ha : alt ∈ [(some (0, -2, -2, 0, 0, 0), [], [(0, 14, (0, 1, 10, 0, 0, 0)), (5, 1, (0, 8, 8, 0, 0, 0)), (7, 10, (0, 1, 10, 0, 0, 0))]), (some (0, -4, -4, 0, 0, 0), [], [(5, 1, (0, 8, 8, 0, 0, 0))]), (some (0, -5, -5, 0, 0, 0), [], [(0, 14, (0, 1, 10, 0, 0, 0)), (5, 1, (0, 8, 8, 0, 0, 0)), (7, 10, (0, 1, 10, 0, 0, 0))]), (some (0, 0, 0, 0, 0, 0), [], [(0, 14, (0, 1, 10, 0, 0, 0)), (5, 1, (0, 0, 0, 0, 0, 0)), (7, 9, (0, 1, 6, 0, 0, 0)), (7, 10, (0, 1, 10, 0, 0, 0)), (48, 3, (0, 0, 0, 0, 0, 0))]), (some (0, 1, 1, 0, 0, 0), [], [(0, 14, (0, 1, 10, 0, 0, 0)), (5, 1, (0, 1, 1, 0, 0, 0)), (6, 0, (0, -2147483648, 2147483647, 0, 0, 0)), (7, 9, (0, 1, 6, 0, 0, 0)), (7, 10, (0, 1, 10, 0, 0, 0)), (48, 3, (0, 1, 1, 0, 0, 0))]), (some (0, 10, 10, 0, 0, 0), [], [(0, 14, (0, 1, 10, 0, 0, 0)), (5, 1, (0, 10, 10, 0, 0, 0)), (6, 9, (0, -2147483648, 2147483647, 0, 0, 0)), (7, 9, (0, 1, 6, 0, 0, 0)), (7, 10, (0, 1, 10, 0, 0, 0)), (48, 3, (0, 10, 10, 0, 0, 0))]), (some (0, 2, 2, 0, 0, 0), [], [(0, 14, (0, 1, 10, 0, 0, 0)), (5, 1, (0, 2, 2, 0, 0, 0)), (6, 1, (0, -2147483648, 2147483647, 0, 0, 0)), (7, 9, (0, 1, 6, 0, 0, 0)), (7, 10, (0, 1, 10, 0, 0, 0)), (48, 3, (0, 2, 2, 0, 0, 0))]), (some (0, 3, 3, 0, 0, 0), [], [(0, 14, (0, 1, 10, 0, 0, 0)), (5, 1, (0, 3, 3, 0, 0, 0)), (6, 2, (0, -2147483648, 2147483647, 0, 0, 0)), (7, 9, (0, 1, 6, 0, 0, 0)), (7, 10, (0, 1, 10, 0, 0, 0)), (48, 3, (0, 3, 3, 0, 0, 0))]), (some (0, 4, 4, 0, 0, 0), [], [(0, 14, (0, 1, 10, 0, 0, 0)), (5, 1, (0, 4, 4, 0, 0, 0)), (6, 3, (0, -2147483648, 2147483647, 0, 0, 0)), (7, 9, (0, 1, 6, 0, 0, 0)), (7, 10, (0, 1, 10, 0, 0, 0)), (48, 3, (0, 4, 4, 0, 0, 0))]), (some (0, 5, 5, 0, 0, 0), [], [(0, 14, (0, 1, 10, 0, 0, 0)), (5, 1, (0, 5, 5, 0, 0, 0)), (6, 4, (0, -2147483648, 2147483647, 0, 0, 0)), (7, 9, (0, 1, 6, 0, 0, 0)), (7, 10, (0, 1, 10, 0, 0, 0)), (48, 3, (0, 5, 5, 0, 0, 0))]), (some (0, 6, 6, 0, 0, 0), [], [(0, 14, (0, 1, 10, 0, 0, 0)), (5, 1, (0, 6, 6, 0, 0, 0)), (6, 5, (0, -2147483648, 2147483647, 0, 0, 0)), (7, 9, (0, 1, 6, 0, 0, 0)), (7, 10, (0, 1, 10, 0, 0, 0)), (48, 3, (0, 6, 6, 0, 0, 0))]), (some (0, 7, 7, 0, 0, 0), [], [(0, 14, (0, 1, 10, 0, 0, 0)), (5, 1, (0, 7, 7, 0, 0, 0)), (6, 6, (0, -2147483648, 2147483647, 0, 0, 0)), (7, 9, (0, 1, 6, 0, 0, 0)), (7, 10, (0, 1, 10, 0, 0, 0)), (48, 3, (0, 7, 7, 0, 0, 0))]), (some (0, 8, 8, 0, 0, 0), [], [(0, 14, (0, 1, 10, 0, 0, 0)), (5, 1, (0, 8, 8, 0, 0, 0)), (6, 7, (0, -2147483648, 2147483647, 0, 0, 0)), (7, 9, (0, 1, 6, 0, 0, 0)), (7, 10, (0, 1, 10, 0, 0, 0)), (48, 3, (0, 8, 8, 0, 0, 0))]), (some (0, 9, 9, 0, 0, 0), [], [(0, 14, (0, 1, 10, 0, 0, 0)), (5, 1, (0, 9, 9, 0, 0, 0)), (6, 8, (0, -2147483648, 2147483647, 0, 0, 0)), (7, 9, (0, 1, 6, 0, 0, 0)), (7, 10, (0, 1, 10, 0, 0, 0)), (48, 3, (0, 9, 9, 0, 0, 0))])] := ha
  simp only [List.mem_cons, List.not_mem_nil, or_false] at ha
  rcases ha with rfl | rfl | rfl | rfl | rfl | rfl | rfl | rfl | rfl | rfl | rfl | rfl | rfl | rfl
  · obtain ⟨z2, e2, r⟩ := gW_int (show gW _ _ from q) (Nat.le_of_ble_eq_true rfl)
    cases e2
    have := gR0 r
    have w := gR0 (show gR (0, 8, 8, 0, 0, 0) (M' 5 1) from (p _ (List.mem_cons_of_mem _ List.mem_cons_self)).1)
    exact Or.inl ⟨this.1, this.2, w.1, w.2⟩
  · obtain ⟨z2, e2, r⟩ := gW_int (show gW _ _ from q) (Nat.le_of_ble_eq_true rfl)
    cases e2
    have := gR0 r
    have w := gR0 (show gR (0, 8, 8, 0, 0, 0) (M' 5 1) from (p _ List.mem_cons_self).1)
    exact Or.inr (Or.inl ⟨this.1, this.2, w.1, w.2⟩)
  · obtain ⟨z2, e2, r⟩ := gW_int (show gW _ _ from q) (Nat.le_of_ble_eq_true rfl)
    cases e2
    have := gR0 r
    have w := gR0 (show gR (0, 8, 8, 0, 0, 0) (M' 5 1) from (p _ (List.mem_cons_of_mem _ List.mem_cons_self)).1)
    exact Or.inr (Or.inr (Or.inl ⟨this.1, this.2, w.1, w.2⟩))
  · obtain ⟨z2, e2, r⟩ := gW_int (show gW _ _ from q) (Nat.le_of_ble_eq_true rfl)
    cases e2
    have := gR0 r
    have w := gR0 (show gR (0, 0, 0, 0, 0, 0) (M' 5 1) from (p _ (List.mem_cons_of_mem _ List.mem_cons_self)).1)
    exact Or.inr (Or.inr (Or.inr (Or.inl ⟨this.1, this.2, w.1, w.2⟩)))
  · obtain ⟨z2, e2, r⟩ := gW_int (show gW _ _ from q) (Nat.le_of_ble_eq_true rfl)
    cases e2
    have := gR0 r
    have w := gR0 (show gR (0, 1, 1, 0, 0, 0) (M' 5 1) from (p _ (List.mem_cons_of_mem _ List.mem_cons_self)).1)
    exact Or.inr (Or.inr (Or.inr (Or.inr (Or.inl ⟨this.1, this.2, w.1, w.2⟩))))
  · obtain ⟨z2, e2, r⟩ := gW_int (show gW _ _ from q) (Nat.le_of_ble_eq_true rfl)
    cases e2
    have := gR0 r
    have w := gR0 (show gR (0, 10, 10, 0, 0, 0) (M' 5 1) from (p _ (List.mem_cons_of_mem _ List.mem_cons_self)).1)
    exact Or.inr (Or.inr (Or.inr (Or.inr (Or.inr (Or.inl ⟨this.1, this.2, w.1, w.2⟩)))))
  · obtain ⟨z2, e2, r⟩ := gW_int (show gW _ _ from q) (Nat.le_of_ble_eq_true rfl)
    cases e2
    have := gR0 r
    have w := gR0 (show gR (0, 2, 2, 0, 0, 0) (M' 5 1) from (p _ (List.mem_cons_of_mem _ List.mem_cons_self)).1)
    exact Or.inr (Or.inr (Or.inr (Or.inr (Or.inr (Or.inr (Or.inl ⟨this.1, this.2, w.1, w.2⟩))))))
  · obtain ⟨z2, e2, r⟩ := gW_int (show gW _ _ from q) (Nat.le_of_ble_eq_true rfl)
    cases e2
    have := gR0 r
    have w := gR0 (show gR (0, 3, 3, 0, 0, 0) (M' 5 1) from (p _ (List.mem_cons_of_mem _ List.mem_cons_self)).1)
    exact Or.inr (Or.inr (Or.inr (Or.inr (Or.inr (Or.inr (Or.inr (Or.inl ⟨this.1, this.2, w.1, w.2⟩)))))))
  · obtain ⟨z2, e2, r⟩ := gW_int (show gW _ _ from q) (Nat.le_of_ble_eq_true rfl)
    cases e2
    have := gR0 r
    have w := gR0 (show gR (0, 4, 4, 0, 0, 0) (M' 5 1) from (p _ (List.mem_cons_of_mem _ List.mem_cons_self)).1)
    exact Or.inr (Or.inr (Or.inr (Or.inr (Or.inr (Or.inr (Or.inr (Or.inr (Or.inl ⟨this.1, this.2, w.1, w.2⟩))))))))
  · obtain ⟨z2, e2, r⟩ := gW_int (show gW _ _ from q) (Nat.le_of_ble_eq_true rfl)
    cases e2
    have := gR0 r
    have w := gR0 (show gR (0, 5, 5, 0, 0, 0) (M' 5 1) from (p _ (List.mem_cons_of_mem _ List.mem_cons_self)).1)
    exact Or.inr (Or.inr (Or.inr (Or.inr (Or.inr (Or.inr (Or.inr (Or.inr (Or.inr (Or.inl ⟨this.1, this.2, w.1, w.2⟩)))))))))
  · obtain ⟨z2, e2, r⟩ := gW_int (show gW _ _ from q) (Nat.le_of_ble_eq_true rfl)
    cases e2
    have := gR0 r
    have w := gR0 (show gR (0, 6, 6, 0, 0, 0) (M' 5 1) from (p _ (List.mem_cons_of_mem _ List.mem_cons_self)).1)
    exact Or.inr (Or.inr (Or.inr (Or.inr (Or.inr (Or.inr (Or.inr (Or.inr (Or.inr (Or.inr (Or.inl ⟨this.1, this.2, w.1, w.2⟩))))))))))
  · obtain ⟨z2, e2, r⟩ := gW_int (show gW _ _ from q) (Nat.le_of_ble_eq_true rfl)
    cases e2
    have := gR0 r
    have w := gR0 (show gR (0, 7, 7, 0, 0, 0) (M' 5 1) from (p _ (List.mem_cons_of_mem _ List.mem_cons_self)).1)
    exact Or.inr (Or.inr (Or.inr (Or.inr (Or.inr (Or.inr (Or.inr (Or.inr (Or.inr (Or.inr (Or.inr (Or.inl ⟨this.1, this.2, w.1, w.2⟩)))))))))))
  · obtain ⟨z2, e2, r⟩ := gW_int (show gW _ _ from q) (Nat.le_of_ble_eq_true rfl)
    cases e2
    have := gR0 r
    have w := gR0 (show gR (0, 8, 8, 0, 0, 0) (M' 5 1) from (p _ (List.mem_cons_of_mem _ List.mem_cons_self)).1)
    exact Or.inr (Or.inr (Or.inr (Or.inr (Or.inr (Or.inr (Or.inr (Or.inr (Or.inr (Or.inr (Or.inr (Or.inr (Or.inl ⟨this.1, this.2, w.1, w.2⟩))))))))))))
  · obtain ⟨z2, e2, r⟩ := gW_int (show gW _ _ from q) (Nat.le_of_ble_eq_true rfl)
    cases e2
    have := gR0 r
    have w := gR0 (show gR (0, 9, 9, 0, 0, 0) (M' 5 1) from (p _ (List.mem_cons_of_mem _ List.mem_cons_self)).1)
    exact Or.inr (Or.inr (Or.inr (Or.inr (Or.inr (Or.inr (Or.inr (Or.inr (Or.inr (Or.inr (Or.inr (Or.inr (Or.inr ⟨this.1, this.2, w.1, w.2⟩))))))))))))
theorem nu_X_queue_9 {d : Nat} (hd : 7 ≤ d) {M : pM} (hM : gM gAll M) (p0 : 9 ≤ M 5 1 ∧ M 5 1 ≤ 9) : ∃ z M', xF d 40 [.inr 2] M = rI z M' ∧ ((-2 ≤ z ∧ z ≤ -2 ∧ 9 ≤ M' 5 1 ∧ M' 5 1 ≤ 9) ∨ (-4 ≤ z ∧ z ≤ -4 ∧ 9 ≤ M' 5 1 ∧ M' 5 1 ≤ 9) ∨ (-5 ≤ z ∧ z ≤ -5 ∧ 9 ≤ M' 5 1 ∧ M' 5 1 ≤ 9) ∨ (0 ≤ z ∧ z ≤ 0 ∧ 0 ≤ M' 5 1 ∧ M' 5 1 ≤ 0) ∨ (1 ≤ z ∧ z ≤ 1 ∧ 1 ≤ M' 5 1 ∧ M' 5 1 ≤ 1) ∨ (10 ≤ z ∧ z ≤ 10 ∧ 10 ≤ M' 5 1 ∧ M' 5 1 ≤ 10) ∨ (2 ≤ z ∧ z ≤ 2 ∧ 2 ≤ M' 5 1 ∧ M' 5 1 ≤ 2) ∨ (3 ≤ z ∧ z ≤ 3 ∧ 3 ≤ M' 5 1 ∧ M' 5 1 ≤ 3) ∨ (4 ≤ z ∧ z ≤ 4 ∧ 4 ≤ M' 5 1 ∧ M' 5 1 ≤ 4) ∨ (5 ≤ z ∧ z ≤ 5 ∧ 5 ≤ M' 5 1 ∧ M' 5 1 ≤ 5) ∨ (6 ≤ z ∧ z ≤ 6 ∧ 6 ≤ M' 5 1 ∧ M' 5 1 ≤ 6) ∨ (7 ≤ z ∧ z ≤ 7 ∧ 7 ≤ M' 5 1 ∧ M' 5 1 ≤ 7) ∨ (8 ≤ z ∧ z ≤ 8 ∧ 8 ≤ M' 5 1 ∧ M' 5 1 ≤ 8) ∨ (9 ≤ z ∧ z ≤ 9 ∧ 9 ≤ M' 5 1 ∧ M' 5 1 ≤ 9)) := by
  have c0 : cOK gAll (xF d) 40 K_723 := (ct_of (d := d) ct_ok (show K_723 ∈ CT.getD 40 [] from (show CT.getD 40 [] = [K_714, K_715, K_716, K_717, K_718, K_719, K_720, K_721, K_722, K_723, K_724, K_725, K_445] from rfl) ▸ by simp) hd)
  obtain ⟨z, M', e, -, -, alt, ha, q, p⟩ := cOK_I c0 (A := [.inr 2]) (show aF2 gW [aRef 2] [.inr 2] from ⟨gW_o, trivial⟩) hM (show gP0 [(5, 1, (0, 9, 9, 0, 0, 0))] M from fun e he => by
    simp only [List.mem_cons, List.not_mem_nil, or_false] at he
    rcases he with rfl
    · exact gR_i p0.1 p0.2) rfl
  refine ⟨z, M', e, ?_⟩
  have ha : alt ∈ [(some (0, -2, -2, 0, 0, 0), [], [(0, 14, (0, 1, 10, 0, 0, 0)), (5, 1, (0, 9, 9, 0, 0, 0)), (7, 10, (0, 1, 10, 0, 0, 0))]), (some (0, -4, -4, 0, 0, 0), [], [(5, 1, (0, 9, 9, 0, 0, 0))]), (some (0, -5, -5, 0, 0, 0), [], [(0, 14, (0, 1, 10, 0, 0, 0)), (5, 1, (0, 9, 9, 0, 0, 0)), (7, 10, (0, 1, 10, 0, 0, 0))]), (some (0, 0, 0, 0, 0, 0), [], [(0, 14, (0, 1, 10, 0, 0, 0)), (5, 1, (0, 0, 0, 0, 0, 0)), (7, 9, (0, 1, 6, 0, 0, 0)), (7, 10, (0, 1, 10, 0, 0, 0)), (48, 3, (0, 0, 0, 0, 0, 0))]), (some (0, 1, 1, 0, 0, 0), [], [(0, 14, (0, 1, 10, 0, 0, 0)), (5, 1, (0, 1, 1, 0, 0, 0)), (6, 0, (0, -2147483648, 2147483647, 0, 0, 0)), (7, 9, (0, 1, 6, 0, 0, 0)), (7, 10, (0, 1, 10, 0, 0, 0)), (48, 3, (0, 1, 1, 0, 0, 0))]), (some (0, 10, 10, 0, 0, 0), [], [(0, 14, (0, 1, 10, 0, 0, 0)), (5, 1, (0, 10, 10, 0, 0, 0)), (6, 9, (0, -2147483648, 2147483647, 0, 0, 0)), (7, 9, (0, 1, 6, 0, 0, 0)), (7, 10, (0, 1, 10, 0, 0, 0)), (48, 3, (0, 10, 10, 0, 0, 0))]), (some (0, 2, 2, 0, 0, 0), [], [(0, 14, (0, 1, 10, 0, 0, 0)), (5, 1, (0, 2, 2, 0, 0, 0)), (6, 1, (0, -2147483648, 2147483647, 0, 0, 0)), (7, 9, (0, 1, 6, 0, 0, 0)), (7, 10, (0, 1, 10, 0, 0, 0)), (48, 3, (0, 2, 2, 0, 0, 0))]), (some (0, 3, 3, 0, 0, 0), [], [(0, 14, (0, 1, 10, 0, 0, 0)), (5, 1, (0, 3, 3, 0, 0, 0)), (6, 2, (0, -2147483648, 2147483647, 0, 0, 0)), (7, 9, (0, 1, 6, 0, 0, 0)), (7, 10, (0, 1, 10, 0, 0, 0)), (48, 3, (0, 3, 3, 0, 0, 0))]), (some (0, 4, 4, 0, 0, 0), [], [(0, 14, (0, 1, 10, 0, 0, 0)), (5, 1, (0, 4, 4, 0, 0, 0)), (6, 3, (0, -2147483648, 2147483647, 0, 0, 0)), (7, 9, (0, 1, 6, 0, 0, 0)), (7, 10, (0, 1, 10, 0, 0, 0)), (48, 3, (0, 4, 4, 0, 0, 0))]), (some (0, 5, 5, 0, 0, 0), [], [(0, 14, (0, 1, 10, 0, 0, 0)), (5, 1, (0, 5, 5, 0, 0, 0)), (6, 4, (0, -2147483648, 2147483647, 0, 0, 0)), (7, 9, (0, 1, 6, 0, 0, 0)), (7, 10, (0, 1, 10, 0, 0, 0)), (48, 3, (0, 5, 5, 0, 0, 0))]), (some (0, 6, 6, 0, 0, 0), [], [(0, 14, (0, 1, 10, 0, 0, 0)), (5, 1, (0, 6, 6, 0, 0, 0)), (6, 5, (0, -2147483648, 2147483647, 0, 0, 0)), (7, 9, (0, 1, 6, 0, 0, 0)), (7, 10, (0, 1, 10, 0, 0, 0)), (48, 3, (0, 6, 6, 0, 0, 0))]), (some (0, 7, 7, 0, 0, 0), [], [(0, 14, (0, 1, 10, 0, 0, 0)), (5, 1, (0, 7, 7, 0, 0, 0)), (6, 6, (0, -2147483648, 2147483647, 0, 0, 0)), (7, 9, (0, 1, 6, 0, 0, 0)), (7, 10, (0, 1, 10, 0, 0, 0)), (48, 3, (0, 7, 7, 0, 0, 0))]), (some (0, 8, 8, 0, 0, 0), [], [(0, 14, (0, 1, 10, 0, 0, 0)), (5, 1, (0, 8, 8, 0, 0, 0)), (6, 7, (0, -2147483648, 2147483647, 0, 0, 0)), (7, 9, (0, 1, 6, 0, 0, 0)), (7, 10, (0, 1, 10, 0, 0, 0)), (48, 3, (0, 8, 8, 0, 0, 0))]), (some (0, 9, 9, 0, 0, 0), [], [(0, 14, (0, 1, 10, 0, 0, 0)), (5, 1, (0, 9, 9, 0, 0, 0)), (6, 8, (0, -2147483648, 2147483647, 0, 0, 0)), (7, 9, (0, 1, 6, 0, 0, 0)), (7, 10, (0, 1, 10, 0, 0, 0)), (48, 3, (0, 9, 9, 0, 0, 0))])] := ha
  simp only [List.mem_cons, List.not_mem_nil, or_false] at ha
  rcases ha with rfl | rfl | rfl | rfl | rfl | rfl | rfl | rfl | rfl | rfl | rfl | rfl | rfl | rfl
  · obtain ⟨z2, e2, r⟩ := gW_int (show gW _ _ from q) (Nat.le_of_ble_eq_true rfl)
    cases e2
    have := gR0 r
    have w := gR0 (show gR (0, 9, 9, 0, 0, 0) (M' 5 1) from (p _ (List.mem_cons_of_mem _ List.mem_cons_self)).1)
    exact Or.inl ⟨this.1, this.2, w.1, w.2⟩
  · obtain ⟨z2, e2, r⟩ := gW_int (show gW _ _ from q) (Nat.le_of_ble_eq_true rfl)
    cases e2
    have := gR0 r
    have w := gR0 (show gR (0, 9, 9, 0, 0, 0) (M' 5 1) from (p _ List.mem_cons_self).1)
    exact Or.inr (Or.inl ⟨this.1, this.2, w.1, w.2⟩)
  · obtain ⟨z2, e2, r⟩ := gW_int (show gW _ _ from q) (Nat.le_of_ble_eq_true rfl)
    cases e2
    have := gR0 r
    have w := gR0 (show gR (0, 9, 9, 0, 0, 0) (M' 5 1) from (p _ (List.mem_cons_of_mem _ List.mem_cons_self)).1)
    exact Or.inr (Or.inr (Or.inl ⟨this.1, this.2, w.1, w.2⟩))
  · obtain ⟨z2, e2, r⟩ := gW_int (show gW _ _ from q) (Nat.le_of_ble_eq_true rfl)
    cases e2
    have := gR0 r
    have w := gR0 (show gR (0, 0, 0, 0, 0, 0) (M' 5 1) from (p _ (List.mem_cons_of_mem _ List.mem_cons_self)).1)
    exact Or.inr (Or.inr (Or.inr (Or.inl ⟨this.1, this.2, w.1, w.2⟩)))
  · obtain ⟨z2, e2, r⟩ := gW_int (show gW _ _ from q) (Nat.le_of_ble_eq_true rfl)
    cases e2
    have := gR0 r
    have w := gR0 (show gR (0, 1, 1, 0, 0, 0) (M' 5 1) from (p _ (List.mem_cons_of_mem _ List.mem_cons_self)).1)
    exact Or.inr (Or.inr (Or.inr (Or.inr (Or.inl ⟨this.1, this.2, w.1, w.2⟩))))
  · obtain ⟨z2, e2, r⟩ := gW_int (show gW _ _ from q) (Nat.le_of_ble_eq_true rfl)
    cases e2
    have := gR0 r
    have w := gR0 (show gR (0, 10, 10, 0, 0, 0) (M' 5 1) from (p _ (List.mem_cons_of_mem _ List.mem_cons_self)).1)
    exact Or.inr (Or.inr (Or.inr (Or.inr (Or.inr (Or.inl ⟨this.1, this.2, w.1, w.2⟩)))))
  · obtain ⟨z2, e2, r⟩ := gW_int (show gW _ _ from q) (Nat.le_of_ble_eq_true rfl)
    cases e2
    have := gR0 r
    have w := gR0 (show gR (0, 2, 2, 0, 0, 0) (M' 5 1) from (p _ (List.mem_cons_of_mem _ List.mem_cons_self)).1)
    exact Or.inr (Or.inr (Or.inr (Or.inr (Or.inr (Or.inr (Or.inl ⟨this.1, this.2, w.1, w.2⟩))))))
  · obtain ⟨z2, e2, r⟩ := gW_int (show gW _ _ from q) (Nat.le_of_ble_eq_true rfl)
    cases e2
    have := gR0 r
    have w := gR0 (show gR (0, 3, 3, 0, 0, 0) (M' 5 1) from (p _ (List.mem_cons_of_mem _ List.mem_cons_self)).1)
    exact Or.inr (Or.inr (Or.inr (Or.inr (Or.inr (Or.inr (Or.inr (Or.inl ⟨this.1, this.2, w.1, w.2⟩)))))))
  · obtain ⟨z2, e2, r⟩ := gW_int (show gW _ _ from q) (Nat.le_of_ble_eq_true rfl)
    cases e2
    have := gR0 r
    have w := gR0 (show gR (0, 4, 4, 0, 0, 0) (M' 5 1) from (p _ (List.mem_cons_of_mem _ List.mem_cons_self)).1)
    exact Or.inr (Or.inr (Or.inr (Or.inr (Or.inr (Or.inr (Or.inr (Or.inr (Or.inl ⟨this.1, this.2, w.1, w.2⟩))))))))
  · obtain ⟨z2, e2, r⟩ := gW_int (show gW _ _ from q) (Nat.le_of_ble_eq_true rfl)
    cases e2
    have := gR0 r
    have w := gR0 (show gR (0, 5, 5, 0, 0, 0) (M' 5 1) from (p _ (List.mem_cons_of_mem _ List.mem_cons_self)).1)
    exact Or.inr (Or.inr (Or.inr (Or.inr (Or.inr (Or.inr (Or.inr (Or.inr (Or.inr (Or.inl ⟨this.1, this.2, w.1, w.2⟩)))))))))
  · obtain ⟨z2, e2, r⟩ := gW_int (show gW _ _ from q) (Nat.le_of_ble_eq_true rfl)
    cases e2
    have := gR0 r
    have w := gR0 (show gR (0, 6, 6, 0, 0, 0) (M' 5 1) from (p _ (List.mem_cons_of_mem _ List.mem_cons_self)).1)
    exact Or.inr (Or.inr (Or.inr (Or.inr (Or.inr (Or.inr (Or.inr (Or.inr (Or.inr (Or.inr (Or.inl ⟨this.1, this.2, w.1, w.2⟩))))))))))
  · obtain ⟨z2, e2, r⟩ := gW_int (show gW _ _ from q) (Nat.le_of_ble_eq_true rfl)
    cases e2
    have := gR0 r
    have w := gR0 (show gR (0, 7, 7, 0, 0, 0) (M' 5 1) from (p _ (List.mem_cons_of_mem _ List.mem_cons_self)).1)
    exact Or.inr (Or.inr (Or.inr (Or.inr (Or.inr (Or.inr (Or.inr (Or.inr (Or.inr (Or.inr (Or.inr (Or.inl ⟨this.1, this.2, w.1, w.2⟩)))))))))))
  · obtain ⟨z2, e2, r⟩ := gW_int (show gW _ _ from q) (Nat.le_of_ble_eq_true rfl)
    cases e2
    have := gR0 r
    have w := gR0 (show gR (0, 8, 8, 0, 0, 0) (M' 5 1) from (p _ (List.mem_cons_of_mem _ List.mem_cons_self)).1)
    exact Or.inr (Or.inr (Or.inr (Or.inr (Or.inr (Or.inr (Or.inr (Or.inr (Or.inr (Or.inr (Or.inr (Or.inr (Or.inl ⟨this.1, this.2, w.1, w.2⟩))))))))))))
  · obtain ⟨z2, e2, r⟩ := gW_int (show gW _ _ from q) (Nat.le_of_ble_eq_true rfl)
    cases e2
    have := gR0 r
    have w := gR0 (show gR (0, 9, 9, 0, 0, 0) (M' 5 1) from (p _ (List.mem_cons_of_mem _ List.mem_cons_self)).1)
    exact Or.inr (Or.inr (Or.inr (Or.inr (Or.inr (Or.inr (Or.inr (Or.inr (Or.inr (Or.inr (Or.inr (Or.inr (Or.inr ⟨this.1, this.2, w.1, w.2⟩))))))))))))
theorem nu_X_queue_10 {d : Nat} (hd : 7 ≤ d) {M : pM} (hM : gM gAll M) (p0 : 10 ≤ M 5 1 ∧ M 5 1 ≤ 10) : ∃ z M', xF d 40 [.inr 2] M = rI z M' ∧ ((-2 ≤ z ∧ z ≤ -2 ∧ 10 ≤ M' 5 1 ∧ M' 5 1 ≤ 10) ∨ (-4 ≤ z ∧ z ≤ -4 ∧ 10 ≤ M' 5 1 ∧ M' 5 1 ≤ 10) ∨ (-5 ≤ z ∧ z ≤ -5 ∧ 10 ≤ M' 5 1 ∧ M' 5 1 ≤ 10) ∨ (0 ≤ z ∧ z ≤ 0 ∧ 0 ≤ M' 5 1 ∧ M' 5 1 ≤ 0) ∨ (1 ≤ z ∧ z ≤ 1 ∧ 1 ≤ M' 5 1 ∧ M' 5 1 ≤ 1) ∨ (10 ≤ z ∧ z ≤ 10 ∧ 10 ≤ M' 5 1 ∧ M' 5 1 ≤ 10) ∨ (2 ≤ z ∧ z ≤ 2 ∧ 2 ≤ M' 5 1 ∧ M' 5 1 ≤ 2) ∨ (3 ≤ z ∧ z ≤ 3 ∧ 3 ≤ M' 5 1 ∧ M' 5 1 ≤ 3) ∨ (4 ≤ z ∧ z ≤ 4 ∧ 4 ≤ M' 5 1 ∧ M' 5 1 ≤ 4) ∨ (5 ≤ z ∧ z ≤ 5 ∧ 5 ≤ M' 5 1 ∧ M' 5 1 ≤ 5) ∨ (6 ≤ z ∧ z ≤ 6 ∧ 6 ≤ M' 5 1 ∧ M' 5 1 ≤ 6) ∨ (7 ≤ z ∧ z ≤ 7 ∧ 7 ≤ M' 5 1 ∧ M' 5 1 ≤ 7) ∨ (8 ≤ z ∧ z ≤ 8 ∧ 8 ≤ M' 5 1 ∧ M' 5 1 ≤ 8) ∨ (9 ≤ z ∧ z ≤ 9 ∧ 9 ≤ M' 5 1 ∧ M' 5 1 ≤ 9)) := by
  have c0 : cOK gAll (xF d) 40 K_724 := (ct_of (d := d) ct_ok (show K_724 ∈ CT.getD 40 [] from (show CT.getD 40 [] = [K_714, K_715, K_716, K_717, K_718, K_719, K_720, K_721, K_722, K_723, K_724, K_725, K_445] from rfl) ▸ by simp) hd)
  obtain ⟨z, M', e, -, -, alt, ha, q, p⟩ := cOK_I c0 (A := [.inr 2]) (show aF2 gW [aRef 2] [.inr 2] from ⟨gW_o, trivial⟩) hM (show gP0 [(5, 1, (0, 10, 10, 0, 0, 0))] M from fun e he => by
    simp only [List.mem_cons, List.not_mem_nil, or_false] at he
    rcases he with rfl
    · exact gR_i p0.1 p0.2) rfl
  refine ⟨z, M', e, ?_⟩
  have ha : alt ∈ [(some (0, -2, -2, 0, 0, 0), [], [(0, 14, (0, 1, 10, 0, 0, 0)), (5, 1, (0, 10, 10, 0, 0, 0)), (7, 10, (0, 1, 10, 0, 0, 0))]), (some (0, -4, -4, 0, 0, 0), [], [(5, 1, (0, 10, 10, 0, 0, 0))]), (some (0, -5, -5, 0, 0, 0), [], [(0, 14, (0, 1, 10, 0, 0, 0)), (5, 1, (0, 10, 10, 0, 0, 0)), (7, 10, (0, 1, 10, 0, 0, 0))]), (some (0, 0, 0, 0, 0, 0), [], [(0, 14, (0, 1, 10, 0, 0, 0)), (5, 1, (0, 0, 0, 0, 0, 0)), (7, 9, (0, 1, 6, 0, 0, 0)), (7, 10, (0, 1, 10, 0, 0, 0)), (48, 3, (0, 0, 0, 0, 0, 0))]), (some (0, 1, 1, 0, 0, 0), [], [(0, 14, (0, 1, 10, 0, 0, 0)), (5, 1, (0, 1, 1, 0, 0, 0)), (6, 0, (0, -2147483648, 2147483647, 0, 0, 0)), (7, 9, (0, 1, 6, 0, 0, 0)), (7, 10, (0, 1, 10, 0, 0, 0)), (48, 3, (0, 1, 1, 0, 0, 0))]), (some (0, 10, 10, 0, 0, 0), [], [(0, 14, (0, 1, 10, 0, 0, 0)), (5, 1, (0, 10, 10, 0, 0, 0)), (6, 9, (0, -2147483648, 2147483647, 0, 0, 0)), (7, 9, (0, 1, 6, 0, 0, 0)), (7, 10, (0, 1, 10, 0, 0, 0)), (48, 3, (0, 10, 10, 0, 0, 0))]), (some (0, 2, 2, 0, 0, 0), [], [(0, 14, (0, 1, 10, 0, 0, 0)), (5, 1, (0, 2, 2, 0, 0, 0)), (6, 1, (0, -2147483648, 2147483647, 0, 0, 0)), (7, 9, (0, 1, 6, 0, 0, 0)), (7, 10, (0, 1, 10, 0, 0, 0)), (48, 3, (0, 2, 2, 0, 0, 0))]), (some (0, 3, 3, 0, 0, 0), [], [(0, 14, (0, 1, 10, 0, 0, 0)), (5, 1, (0, 3, 3, 0, 0, 0)), (6, 2, (0, -2147483648, 2147483647, 0, 0, 0)), (7, 9, (0, 1, 6, 0, 0, 0)), (7, 10, (0, 1, 10, 0, 0, 0)), (48, 3, (0, 3, 3, 0, 0, 0))]), (some (0, 4, 4, 0, 0, 0), [], [(0, 14, (0, 1, 10, 0, 0, 0)), (5, 1, (0, 4, 4, 0, 0, 0)), (6, 3, (0, -2147483648, 2147483647, 0, 0, 0)), (7, 9, (0, 1, 6, 0, 0, 0)), (7, 10, (0, 1, 10, 0, 0, 0)), (48, 3, (0, 4, 4, 0, 0, 0))]), (some (0, 5, 5, 0, 0, 0), [], [(0, 14, (0, 1, 10, 0, 0, 0)), (5, 1, (0, 5, 5, 0, 0, 0)), (6, 4, (0, -2147483648, 2147483647, 0, 0, 0)), (7, 9, (0, 1, 6, 0, 0, 0)), (7, 10, (0, 1, 10, 0, 0, 0)), (48, 3, (0, 5, 5, 0, 0, 0))]), (some (0, 6, 6, 0, 0, 0), [], [(0, 14, (0, 1, 10, 0, 0, 0)), (5, 1, (0, 6, 6, 0, 0, 0)), (6, 5, (0, -2147483648, 2147483647, 0, 0, 0)), (7, 9, (0, 1, 6, 0, 0, 0)), (7, 10, (0, 1, 10, 0, 0, 0)), (48, 3, (0, 6, 6, 0, 0, 0))]), (some (0, 7, 7, 0, 0, 0), [], [(0, 14, (0, 1, 10, 0, 0, 0)), (5, 1, (0, 7, 7, 0, 0, 0)), (6, 6, (0, -2147483648, 2147483647, 0, 0, 0)), (7, 9, (0, 1, 6, 0, 0, 0)), (7, 10, (0, 1, 10, 0, 0, 0)), (48, 3, (0, 7, 7, 0, 0, 0))]), (some (0, 8, 8, 0, 0, 0), [], [(0, 14, (0, 1, 10, 0, 0, 0)), (5, 1, (0, 8, 8, 0, 0, 0)), (6, 7, (0, -2147483648, 2147483647, 0, 0, 0)), (7, 9, (0, 1, 6, 0, 0, 0)), (7, 10, (0, 1, 10, 0, 0, 0)), (48, 3, (0, 8, 8, 0, 0, 0))]), (some (0, 9, 9, 0, 0, 0), [], [(0, 14, (0, 1, 10, 0, 0, 0)), (5, 1, (0, 9, 9, 0, 0, 0)), (6, 8, (0, -2147483648, 2147483647, 0, 0, 0)), (7, 9, (0, 1, 6, 0, 0, 0)), (7, 10, (0, 1, 10, 0, 0, 0)), (48, 3, (0, 9, 9, 0, 0, 0))])] := ha
  simp only [List.mem_cons, List.not_mem_nil, or_false] at ha
  rcases ha with rfl | rfl | rfl | rfl | rfl | rfl | rfl | rfl | rfl | rfl | rfl | rfl | rfl | rfl
  · obtain ⟨z2, e2, r⟩ := gW_int (show gW _ _ from q) (Nat.le_of_ble_eq_true rfl)
    cases e2
    have := gR0 r
    have w := gR0 (show gR (0, 10, 10, 0, 0, 0) (M' 5 1) from (p _ (List.mem_cons_of_mem _ List.mem_cons_self)).1)
    exact Or.inl ⟨this.1, this.2, w.1, w.2⟩
  · obtain ⟨z2, e2, r⟩ := gW_int (show gW _ _ from q) (Nat.le_of_ble_eq_true rfl)
    cases e2
    have := gR0 r
    have w := gR0 (show gR (0, 10, 10, 0, 0, 0) (M' 5 1) from (p _ List.mem_cons_self).1)
    exact Or.inr (Or.inl ⟨this.1, this.2, w.1, w.2⟩)
  · obtain ⟨z2, e2, r⟩ := gW_int (show gW _ _ from q) (Nat.le_of_ble_eq_true rfl)
    cases e2
    have := gR0 r
    have w := gR0 (show gR (0, 10, 10, 0, 0, 0) (M' 5 1) from (p _ (List.mem_cons_of_mem _ List.mem_cons_self)).1)
    exact Or.inr (Or.inr (Or.inl ⟨this.1, this.2, w.1, w.2⟩))
  · obtain ⟨z2, e2, r⟩ := gW_int (show gW _ _ from q) (Nat.le_of_ble_eq_true rfl)
    cases e2
    have := gR0 r
    have w := gR0 (show gR (0, 0, 0, 0, 0, 0) (M' 5 1) from (p _ (List.mem_cons_of_mem _ List.mem_cons_self)).1)
    exact Or.inr (Or.inr (Or.inr (Or.inl ⟨this.1, this.2, w.1, w.2⟩)))
  · obtain ⟨z2, e2, r⟩ := gW_int (show gW _ _ from q) (Nat.le_of_ble_eq_true rfl)
    cases e2
    have := gR0 r
    have w := gR0 (show gR (0, 1, 1, 0, 0, 0) (M' 5 1) from (p _ (List.mem_cons_of_mem _ List.mem_cons_self)).1)
    exact Or.inr (Or.inr (Or.inr (Or.inr (Or.inl ⟨this.1, this.2, w.1, w.2⟩))))
  · obtain ⟨z2, e2, r⟩ := gW_int (show gW _ _ from q) (Nat.le_of_ble_eq_true rfl)
    cases e2
    have := gR0 r
    have w := gR0 (show gR (0, 10, 10, 0, 0, 0) (M' 5 1) from (p _ (List.mem_cons_of_mem _ List.mem_cons_self)).1)
    exact Or.inr (Or.inr (Or.inr (Or.inr (Or.inr (Or.inl ⟨this.1, this.2, w.1, w.2⟩)))))
  · obtain ⟨z2, e2, r⟩ := gW_int (show gW _ _ from q) (Nat.le_of_ble_eq_true rfl)
    cases e2
    have := gR0 r
    have w := gR0 (show gR (0, 2, 2, 0, 0, 0) (M' 5 1) from (p _ (List.mem_cons_of_mem _ List.mem_cons_self)).1)
    exact Or.inr (Or.inr (Or.inr (Or.inr (Or.inr (Or.inr (Or.inl ⟨this.1, this.2, w.1, w.2⟩))))))
  · obtain ⟨z2, e2, r⟩ := gW_int (show gW _ _ from q) (Nat.le_of_ble_eq_true rfl)
    cases e2
    have := gR0 r
    have w := gR0 (show gR (0, 3, 3, 0, 0, 0) (M' 5 1) from (p _ (List.mem_cons_of_mem _ List.mem_cons_self)).1)
    exact Or.inr (Or.inr (Or.inr (Or.inr (Or.inr (Or.inr (Or.inr (Or.inl ⟨this.1, this.2, w.1, w.2⟩)))))))
  · obtain ⟨z2, e2, r⟩ := gW_int (show gW _ _ from q) (Nat.le_of_ble_eq_true rfl)
    cases e2
    have := gR0 r
    have w := gR0 (show gR (0, 4, 4, 0, 0, 0) (M' 5 1) from (p _ (List.mem_cons_of_mem _ List.mem_cons_self)).1)
    exact Or.inr (Or.inr (Or.inr (Or.inr (Or.inr (Or.inr (Or.inr (Or.inr (Or.inl ⟨this.1, this.2, w.1, w.2⟩))))))))
  · obtain ⟨z2, e2, r⟩ := gW_int (show gW _ _ from q) (Nat.le_of_ble_eq_true rfl)
    cases e2
    have := gR0 r
    have w := gR0 (show gR (0, 5, 5, 0, 0, 0) (M' 5 1) from (p _ (List.mem_cons_of_mem _ List.mem_cons_self)).1)
    exact Or.inr (Or.inr (Or.inr (Or.inr (Or.inr (Or.inr (Or.inr (Or.inr (Or.inr (Or.inl ⟨this.1, this.2, w.1, w.2⟩)))))))))
  · obtain ⟨z2, e2, r⟩ := gW_int (show gW _ _ from q) (Nat.le_of_ble_eq_true rfl)
    cases e2
    have := gR0 r
    have w := gR0 (show gR (0, 6, 6, 0, 0, 0) (M' 5 1) from (p _ (List.mem_cons_of_mem _ List.mem_cons_self)).1)
    exact Or.inr (Or.inr (Or.inr (Or.inr (Or.inr (Or.inr (Or.inr (Or.inr (Or.inr (Or.inr (Or.inl ⟨this.1, this.2, w.1, w.2⟩))))))))))
  · obtain ⟨z2, e2, r⟩ := gW_int (show gW _ _ from q) (Nat.le_of_ble_eq_true rfl)
    cases e2
    have := gR0 r
    have w := gR0 (show gR (0, 7, 7, 0, 0, 0) (M' 5 1) from (p _ (List.mem_cons_of_mem _ List.mem_cons_self)).1)
    exact Or.inr (Or.inr (Or.inr (Or.inr (Or.inr (Or.inr (Or.inr (Or.inr (Or.inr (Or.inr (Or.inr (Or.inl ⟨this.1, this.2, w.1, w.2⟩)))))))))))
  · obtain ⟨z2, e2, r⟩ := gW_int (show gW _ _ from q) (Nat.le_of_ble_eq_true rfl)
    cases e2
    have := gR0 r
    have w := gR0 (show gR (0, 8, 8, 0, 0, 0) (M' 5 1) from (p _ (List.mem_cons_of_mem _ List.mem_cons_self)).1)
    exact Or.inr (Or.inr (Or.inr (Or.inr (Or.inr (Or.inr (Or.inr (Or.inr (Or.inr (Or.inr (Or.inr (Or.inr (Or.inl ⟨this.1, this.2, w.1, w.2⟩))))))))))))
  · obtain ⟨z2, e2, r⟩ := gW_int (show gW _ _ from q) (Nat.le_of_ble_eq_true rfl)
    cases e2
    have := gR0 r
    have w := gR0 (show gR (0, 9, 9, 0, 0, 0) (M' 5 1) from (p _ (List.mem_cons_of_mem _ List.mem_cons_self)).1)
    exact Or.inr (Or.inr (Or.inr (Or.inr (Or.inr (Or.inr (Or.inr (Or.inr (Or.inr (Or.inr (Or.inr (Or.inr (Or.inr ⟨this.1, this.2, w.1, w.2⟩))))))))))))
theorem nu_X_queue_11 {d : Nat} (hd : 7 ≤ d) {M : pM} (hM : gM gAll M) (p0 : 11 ≤ M 5 1 ∧ M 5 1 ≤ 11) : ∃ z M', xF d 40 [.inr 2] M = rI z M' ∧ ((-2 ≤ z ∧ z ≤ -2 ∧ 11 ≤ M' 5 1 ∧ M' 5 1 ≤ 11) ∨ (-4 ≤ z ∧ z ≤ -4 ∧ 11 ≤ M' 5 1 ∧ M' 5 1 ≤ 11) ∨ (-5 ≤ z ∧ z ≤ -5 ∧ 11 ≤ M' 5 1 ∧ M' 5 1 ≤ 11) ∨ (0 ≤ z ∧ z ≤ 0 ∧ 0 ≤ M' 5 1 ∧ M' 5 1 ≤ 0) ∨ (1 ≤ z ∧ z ≤ 1 ∧ 1 ≤ M' 5 1 ∧ M' 5 1 ≤ 1) ∨ (10 ≤ z ∧ z ≤ 10 ∧ 10 ≤ M' 5 1 ∧ M' 5 1 ≤ 10) ∨ (2 ≤ z ∧ z ≤ 2 ∧ 2 ≤ M' 5 1 ∧ M' 5 1 ≤ 2) ∨ (3 ≤ z ∧ z ≤ 3 ∧ 3 ≤ M' 5 1 ∧ M' 5 1 ≤ 3) ∨ (4 ≤ z ∧ z ≤ 4 ∧ 4 ≤ M' 5 1 ∧ M' 5 1 ≤ 4) ∨ (5 ≤ z ∧ z ≤ 5 ∧ 5 ≤ M' 5 1 ∧ M' 5 1 ≤ 5) ∨ (6 ≤ z ∧ z ≤ 6 ∧ 6 ≤ M' 5 1 ∧ M' 5 1 ≤ 6) ∨ (7 ≤ z ∧ z ≤ 7 ∧ 7 ≤ M' 5 1 ∧ M' 5 1 ≤ 7) ∨ (8 ≤ z ∧ z ≤ 8 ∧ 8 ≤ M' 5 1 ∧ M' 5 1 ≤ 8) ∨ (9 ≤ z ∧ z ≤ 9 ∧ 9 ≤ M' 5 1 ∧ M' 5 1 ≤ 9)) := by
  have c0 : cOK gAll (xF d) 40 K_725 := (ct_of (d := d) ct_ok (show K_725 ∈ CT.getD 40 [] from (show CT.getD 40 [] = [K_714, K_715, K_716, K_717, K_718, K_719, K_720, K_721, K_722, K_723, K_724, K_725, K_445] from rfl) ▸ by simp) hd)
  obtain ⟨z, M', e, -, -, alt, ha, q, p⟩ := cOK_I c0 (A := [.inr 2]) (show aF2 gW [aRef 2] [.inr 2] from ⟨gW_o, trivial⟩) hM (show gP0 [(5, 1, (0, 11, 11, 0, 0, 0))] M from fun e he => by
    simp only [List.mem_cons, List.not_mem_nil, or_false] at he
    rcases he with rfl
    · exact gR_i p0.1 p0.2) rfl
  refine ⟨z, M', e, ?_⟩
  have ha : alt ∈ [(some (0, -2, -2, 0, 0, 0), [], [(0, 14, (0, 1, 10, 0, 0, 0)), (5, 1, (0, 11, 11, 0, 0, 0)), (7, 10, (0, 1, 10, 0, 0, 0))]), (some (0, -4, -4, 0, 0, 0), [], [(5, 1, (0, 11, 11, 0, 0, 0))]), (some (0, -5, -5, 0, 0, 0), [], [(0, 14, (0, 1, 10, 0, 0, 0)), (5, 1, (0, 11, 11, 0, 0, 0)), (7, 10, (0, 1, 10, 0, 0, 0))]), (some (0, 0, 0, 0, 0, 0), [], [(0, 14, (0, 1, 10, 0, 0, 0)), (5, 1, (0, 0, 0, 0, 0, 0)), (7, 9, (0, 1, 6, 0, 0, 0)), (7, 10, (0, 1, 10, 0, 0, 0)), (48, 3, (0, 0, 0, 0, 0, 0))]), (some (0, 1, 1, 0, 0, 0), [], [(0, 14, (0, 1, 10, 0, 0, 0)), (5, 1, (0, 1, 1, 0, 0, 0)), (6, 0, (0, -2147483648, 2147483647, 0, 0, 0)), (7, 9, (0, 1, 6, 0, 0, 0)), (7, 10, (0, 1, 10, 0, 0, 0)), (48, 3, (0, 1, 1, 0, 0, 0))]), (some (0, 10, 10, 0, 0, 0), [], [(0, 14, (0, 1, 10, 0, 0, 0)), (5, 1, (0, 10, 10, 0, 0, 0)), (6, 9, (0, -2147483648, 2147483647, 0, 0, 0)), (7, 9, (0, 1, 6, 0, 0, 0)), (7, 10, (0, 1, 10, 0, 0, 0)), (48, 3, (0, 10, 10, 0, 0, 0))]), (some (0, 2, 2, 0, 0, 0), [], [(0, 14, (0, 1, 10, 0, 0, 0)), (5, 1, (0, 2, 2, 0, 0, 0)), (6, 1, (0, -2147483648, 2147483647, 0, 0, 0)), (7, 9, (0, 1, 6, 0, 0, 0)), (7, 10, (0, 1, 10, 0, 0, 0)), (48, 3, (0, 2, 2, 0, 0, 0))]), (some (0, 3, 3, 0, 0, 0), [], [(0, 14, (0, 1, 10, 0, 0, 0)), (5, 1, (0, 3, 3, 0, 0, 0)), (6, 2, (0, -2147483648, 2147483647, 0, 0, 0)), (7, 9, (0, 1, 6, 0, 0, 0)), (7, 10, (0, 1, 10, 0, 0, 0)), (48, 3, (0, 3, 3, 0, 0, 0))]), (some (0, 4, 4, 0, 0, 0), [], [(0, 14, (0, 1, 10, 0, 0, 0)), (5, 1, (0, 4, 4, 0, 0, 0)), (6, 3, (0, -2147483648, 2147483647, 0, 0, 0)), (7, 9, (0, 1, 6, 0, 0, 0)), (7, 10, (0, 1, 10, 0, 0, 0)), (48, 3, (0, 4, 4, 0, 0, 0))]), (some (0, 5, 5, 0, 0, 0), [], [(0, 14, (0, 1, 10, 0, 0, 0)), (5, 1, (0, 5, 5, 0, 0, 0)), (6, 4, (0, -2147483648, 2147483647, 0, 0, 0)), (7, 9, (0, 1, 6, 0, 0, 0)), (7, 10, (0, 1, 10, 0, 0, 0)), (48, 3, (0, 5, 5, 0, 0, 0))]), (some (0, 6, 6, 0, 0, 0), [], [(0, 14, (0, 1, 10, 0, 0, 0)), (5, 1, (0, 6, 6, 0, 0, 0)), (6, 5, (0, -2147483648, 2147483647, 0, 0, 0)), (7, 9, (0, 1, 6, 0, 0, 0)), (7, 10, (0, 1, 10, 0, 0, 0)), (48, 3, (0, 6, 6, 0, 0, 0))]), (some (0, 7, 7, 0, 0, 0), [], [(0, 14, (0, 1, 10, 0, 0, 0)), (5, 1, (0, 7, 7, 0, 0, 0)), (6, 6, (0, -2147483648, 2147483647, 0, 0, 0)), (7, 9, (0, 1, 6, 0, 0, 0)), (7, 10, (0, 1, 10, 0, 0, 0)), (48, 3, (0, 7, 7, 0, 0, 0))]), (some (0, 8, 8, 0, 0, 0), [], [(0, 14, (0, 1, 10, 0, 0, 0)), (5, 1, (0, 8, 8, 0, 0, 0)), (6, 7, (0, -2147483648, 2147483647, 0, 0, 0)), (7, 9, (0, 1, 6, 0, 0, 0)), (7, 10, (0, 1, 10, 0, 0, 0)), (48, 3, (0, 8, 8, 0, 0, 0))]), (some (0, 9, 9, 0, 0, 0), [], [(0, 14, (0, 1, 10, 0, 0, 0)), (5, 1, (0, 9, 9, 0, 0, 0)), (6, 8, (0, -2147483648, 2147483647, 0, 0, 0)), (7, 9, (0, 1, 6, 0, 0, 0)), (7, 10, (0, 1, 10, 0, 0, 0)), (48, 3, (0, 9, 9, 0, 0, 0))])] := ha
  simp only [List.mem_cons, List.not_mem_nil, or_false] at ha
  rcases ha with rfl | rfl | rfl | rfl | rfl | rfl | rfl | rfl | rfl | rfl | rfl | rfl | rfl | rfl
  · obtain ⟨z2, e2, r⟩ := gW_int (show gW _ _ from q) (Nat.le_of_ble_eq_true rfl)
    cases e2
    have := gR0 r
    have w := gR0 (show gR (0, 11, 11, 0, 0, 0) (M' 5 1) from (p _ (List.mem_cons_of_mem _ List.mem_cons_self)).1)
    exact Or.inl ⟨this.1, this.2, w.1, w.2⟩
  · obtain ⟨z2, e2, r⟩ := gW_int (show gW _ _ from q) (Nat.le_of_ble_eq_true rfl)
    cases e2
    have := gR0 r
    have w := gR0 (show gR (0, 11, 11, 0, 0, 0) (M' 5 1) from (p _ List.mem_cons_self).1)
    exact Or.inr (Or.inl ⟨this.1, this.2, w.1, w.2⟩)
  · obtain ⟨z2, e2, r⟩ := gW_int (show gW _ _ from q) (Nat.le_of_ble_eq_true rfl)
    cases e2
    have := gR0 r
    have w := gR0 (show gR (0, 11, 11, 0, 0, 0) (M' 5 1) from (p _ (List.mem_cons_of_mem _ List.mem_cons_self)).1)
    exact Or.inr (Or.inr (Or.inl ⟨this.1, this.2, w.1, w.2⟩))
  · obtain ⟨z2, e2, r⟩ := gW_int (show gW _ _ from q) (Nat.le_of_ble_eq_true rfl)
    cases e2
    have := gR0 r
    have w := gR0 (show gR (0, 0, 0, 0, 0, 0) (M' 5 1) from (p _ (List.mem_cons_of_mem _ List.mem_cons_self)).1)
    exact Or.inr (Or.inr (Or.inr (Or.inl ⟨this.1, this.2, w.1, w.2⟩)))
  · obtain ⟨z2, e2, r⟩ := gW_int (show gW _ _ from q) (Nat.le_of_ble_eq_true rfl)
    cases e2
    have := gR0 r
    have w := gR0 (show gR (0, 1, 1, 0, 0, 0) (M' 5 1) from (p _ (List.mem_cons_of_mem _ List.mem_cons_self)).1)
    exact Or.inr (Or.inr (Or.inr (Or.inr (Or.inl ⟨this.1, this.2, w.1, w.2⟩))))
  · obtain ⟨z2, e2, r⟩ := gW_int (show gW _ _ from q) (Nat.le_of_ble_eq_true rfl)
    cases e2
    have := gR0 r
    have w := gR0 (show gR (0, 10, 10, 0, 0, 0) (M' 5 1) from (p _ (List.mem_cons_of_mem _ List.mem_cons_self)).1)
    exact Or.inr (Or.inr (Or.inr (Or.inr (Or.inr (Or.inl ⟨this.1, this.2, w.1, w.2⟩)))))
  · obtain ⟨z2, e2, r⟩ := gW_int (show gW _ _ from q) (Nat.le_of_ble_eq_true rfl)
    cases e2
    have := gR0 r
    have w := gR0 (show gR (0, 2, 2, 0, 0, 0) (M' 5 1) from (p _ (List.mem_cons_of_mem _ List.mem_cons_self)).1)
    exact Or.inr (Or.inr (Or.inr (Or.inr (Or.inr (Or.inr (Or.inl ⟨this.1, this.2, w.1, w.2⟩))))))
  · obtain ⟨z2, e2, r⟩ := gW_int (show gW _ _ from q) (Nat.le_of_ble_eq_true rfl)
    cases e2
    have := gR0 r
    have w := gR0 (show gR (0, 3, 3, 0, 0, 0) (M' 5 1) from (p _ (List.mem_cons_of_mem _ List.mem_cons_self)).1)
    exact Or.inr (Or.inr (Or.inr (Or.inr (Or.inr (Or.inr (Or.inr (Or.inl ⟨this.1, this.2, w.1, w.2⟩)))))))
  · obtain ⟨z2, e2, r⟩ := gW_int (show gW _ _ from q) (Nat.le_of_ble_eq_true rfl)
    cases e2
    have := gR0 r
    have w := gR0 (show gR (0, 4, 4, 0, 0, 0) (M' 5 1) from (p _ (List.mem_cons_of_mem _ List.mem_cons_self)).1)
    exact Or.inr (Or.inr (Or.inr (Or.inr (Or.inr (Or.inr (Or.inr (Or.inr (Or.inl ⟨this.1, this.2, w.1, w.2⟩))))))))
  · obtain ⟨z2, e2, r⟩ := gW_int (show gW _ _ from q) (Nat.le_of_ble_eq_true rfl)
    cases e2
    have := gR0 r
    have w := gR0 (show gR (0, 5, 5, 0, 0, 0) (M' 5 1) from (p _ (List.mem_cons_of_mem _ List.mem_cons_self)).1)
    exact Or.inr (Or.inr (Or.inr (Or.inr (Or.inr (Or.inr (Or.inr (Or.inr (Or.inr (Or.inl ⟨this.1, this.2, w.1, w.2⟩)))))))))
  · obtain ⟨z2, e2, r⟩ := gW_int (show gW _ _ from q) (Nat.le_of_ble_eq_true rfl)
    cases e2
    have := gR0 r
    have w := gR0 (show gR (0, 6, 6, 0, 0, 0) (M' 5 1) from (p _ (List.mem_cons_of_mem _ List.mem_cons_self)).1)
    exact Or.inr (Or.inr (Or.inr (Or.inr (Or.inr (Or.inr (Or.inr (Or.inr (Or.inr (Or.inr (Or.inl ⟨this.1, this.2, w.1, w.2⟩))))))))))
  · obtain ⟨z2, e2, r⟩ := gW_int (show gW _ _ from q) (Nat.le_of_ble_eq_true rfl)
    cases e2
    have := gR0 r
    have w := gR0 (show gR (0, 7, 7, 0, 0, 0) (M' 5 1) from (p _ (List.mem_cons_of_mem _ List.mem_cons_self)).1)
    exact Or.inr (Or.inr (Or.inr (Or.inr (Or.inr (Or.inr (Or.inr (Or.inr (Or.inr (Or.inr (Or.inr (Or.inl ⟨this.1, this.2, w.1, w.2⟩)))))))))))
  · obtain ⟨z2, e2, r⟩ := gW_int (show gW _ _ from q) (Nat.le_of_ble_eq_true rfl)
    cases e2
    have := gR0 r
    have w := gR0 (show gR (0, 8, 8, 0, 0, 0) (M' 5 1) from (p _ (List.mem_cons_of_mem _ List.mem_cons_self)).1)
    exact Or.inr (Or.inr (Or.inr (Or.inr (Or.inr (Or.inr (Or.inr (Or.inr (Or.inr (Or.inr (Or.inr (Or.inr (Or.inl ⟨this.1, this.2, w.1, w.2⟩))))))))))))
  · obtain ⟨z2, e2, r⟩ := gW_int (show gW _ _ from q) (Nat.le_of_ble_eq_true rfl)
    cases e2
    have := gR0 r
    have w := gR0 (show gR (0, 9, 9, 0, 0, 0) (M' 5 1) from (p _ (List.mem_cons_of_mem _ List.mem_cons_self)).1)
    exact Or.inr (Or.inr (Or.inr (Or.inr (Or.inr (Or.inr (Or.inr (Or.inr (Or.inr (Or.inr (Or.inr (Or.inr (Or.inr ⟨this.1, this.2, w.1, w.2⟩))))))))))))
theorem nu_X_queue {d : Nat} (hd : 7 ≤ d) {M M' : pM} {v : Int} (hM : gM gAll M) {n : Nat} (hn : n ≤ 11) (hc : M 5 1 = (n : Int)) (e : xF d 40 [.inr 2] M = rI v M') : (-2 ≤ v ∧ v ≤ -2 ∧ M' 5 1 = (n : Int)) ∨ (-4 ≤ v ∧ v ≤ -4 ∧ M' 5 1 = (n : Int)) ∨ (-5 ≤ v ∧ v ≤ -5 ∧ M' 5 1 = (n : Int)) ∨ (0 ≤ v ∧ v ≤ 0 ∧ M' 5 1 = 0) ∨ (1 ≤ v ∧ v ≤ 1 ∧ M' 5 1 = 1) ∨ (10 ≤ v ∧ v ≤ 10 ∧ M' 5 1 = 10) ∨ (2 ≤ v ∧ v ≤ 2 ∧ M' 5 1 = 2) ∨ (3 ≤ v ∧ v ≤ 3 ∧ M' 5 1 = 3) ∨ (4 ≤ v ∧ v ≤ 4 ∧ M' 5 1 = 4) ∨ (5 ≤ v ∧ v ≤ 5 ∧ M' 5 1 = 5) ∨ (6 ≤ v ∧ v ≤ 6 ∧ M' 5 1 = 6) ∨ (7 ≤ v ∧ v ≤ 7 ∧ M' 5 1 = 7) ∨ (8 ≤ v ∧ v ≤ 8 ∧ M' 5 1 = 8) ∨ (9 ≤ v ∧ v ≤ 9 ∧ M' 5 1 = 9) := by
  rcases (show n = 0 ∨ n = 1 ∨ n = 2 ∨ n = 3 ∨ n = 4 ∨ n = 5 ∨ n = 6 ∨ n = 7 ∨ n = 8 ∨ n = 9 ∨ n = 10 ∨ n = 11 by omega) with rfl | rfl | rfl | rfl | rfl | rfl | rfl | rfl | rfl | rfl | rfl | rfl
  · obtain ⟨z, M2, e2, r⟩ := nu_X_queue_0 (d := d) (by omega) hM (by omega)
    obtain ⟨y1, y2⟩ := rI_inj (e.symm.trans e2)
    rw [y1, y2]
    rcases r with r | r | r | r | r | r | r | r | r | r | r | r | r | r
    · exact Or.inl (by omega)
    · exact Or.inr (Or.inl (by omega))
    · exact Or.inr (Or.inr (Or.inl (by omega)))
    · exact Or.inr (Or.inr (Or.inr (Or.inl (by omega))))
    · exact Or.inr (Or.inr (Or.inr (Or.inr (Or.inl (by omega)))))
    · exact Or.inr (Or.inr (Or.inr (Or.inr (Or.inr (Or.inl (by omega))))))
    · exact Or.inr (Or.inr (Or.inr (Or.inr (Or.inr (Or.inr (Or.inl (by omega)))))))
    · exact Or.inr (Or.inr (Or.inr (Or.inr (Or.inr (Or.inr (Or.inr (Or.inl (by omega))))))))
    · exact Or.inr (Or.inr (Or.inr (Or.inr (Or.inr (Or.inr (Or.inr (Or.inr (Or.inl (by omega)))))))))
    · exact Or.inr (Or.inr (Or.inr (Or.inr (Or.inr (Or.inr (Or.inr (Or.inr (Or.inr (Or.inl (by omega))))))))))
    · exact Or.inr (Or.inr (Or.inr (Or.inr (Or.inr (Or.inr (Or.inr (Or.inr (Or.inr (Or.inr (Or.inl (by omega)))))))))))
    · exact Or.inr (Or.inr (Or.inr (Or.inr (Or.inr (Or.inr (Or.inr (Or.inr (Or.inr (Or.inr (Or.inr (Or.inl (by omega))))))))))))
    · exact Or.inr (Or.inr (Or.inr (Or.inr (Or.inr (Or.inr (Or.inr (Or.inr (Or.inr (Or.inr (Or.inr (Or.inr (Or.inl (by omega)))))))))))))
    · exact Or.inr (Or.inr (Or.inr (Or.inr (Or.inr (Or.inr (Or.inr (Or.inr (Or.inr (Or.inr (Or.inr (Or.inr (Or.inr ((by omega))))))))))))))
  · obtain ⟨z, M2, e2, r⟩ := nu_X_queue_1 (d := d) (by omega) hM (by omega)
    obtain ⟨y1, y2⟩ := rI_inj (e.symm.trans e2)
    rw [y1, y2]
    rcases r with r | r | r | r | r | r | r | r | r | r | r | r | r | r
    · exact Or.inl (by omega)
    · exact Or.inr (Or.inl (by omega))
    · exact Or.inr (Or.inr (Or.inl (by omega)))
    · exact Or.inr (Or.inr (Or.inr (Or.inl (by omega))))
    · exact Or.inr (Or.inr (Or.inr (Or.inr (Or.inl (by omega)))))
    · exact Or.inr (Or.inr (Or.inr (Or.inr (Or.inr (Or.inl (by omega))))))
    · exact Or.inr (Or.inr (Or.inr (Or.inr (Or.inr (Or.inr (Or.inl (by omega)))))))
    · exact Or.inr (Or.inr (Or.inr (Or.inr (Or.inr (Or.inr (Or.inr (Or.inl (by omega))))))))
    · exact Or.inr (Or.inr (Or.inr (Or.inr (Or.inr (Or.inr (Or.inr (Or.inr (Or.inl (by omega)))))))))
    · exact Or.inr (Or.inr (Or.inr (Or.inr (Or.inr (Or.inr (Or.inr (Or.inr (Or.inr (Or.inl (by omega))))))))))
    · exact Or.inr (Or.inr (Or.inr (Or.inr (Or.inr (Or.inr (Or.inr (Or.inr (Or.inr (Or.inr (Or.inl (by omega)))))))))))
    · exact Or.inr (Or.inr (Or.inr (Or.inr (Or.inr (Or.inr (Or.inr (Or.inr (Or.inr (Or.inr (Or.inr (Or.inl (by omega))))))))))))
    · exact Or.inr (Or.inr (Or.inr (Or.inr (Or.inr (Or.inr (Or.inr (Or.inr (Or.inr (Or.inr (Or.inr (Or.inr (Or.inl (by omega)))))))))))))
    · exact Or.inr (Or.inr (Or.inr (Or.inr (Or.inr (Or.inr (Or.inr (Or.inr (Or.inr (Or.inr (Or.inr (Or.inr (Or.inr ((by omega))))))))))))))
  · obtain ⟨z, M2, e2, r⟩ := nu_X_queue_2 (d := d) (by omega) hM (by omega)
    obtain ⟨y1, y2⟩ := rI_inj (e.symm.trans e2)
    rw [y1, y2]
    rcases r with r | r | r | r | r | r | r | r | r | r | r | r | r | r
    · exact Or.inl (by omega)
    · exact Or.inr (Or.inl (by omega))
    · exact Or.inr (Or.inr (Or.inl (by omega)))
    · exact Or.inr (Or.inr (Or.inr (Or.inl (by omega))))
    · exact Or.inr (Or.inr (Or.inr (Or.inr (Or.inl (by omega)))))
    · exact Or.inr (Or.inr (Or.inr (Or.inr (Or.inr (Or.inl (by omega))))))
    · exact Or.inr (Or.inr (Or.inr (Or.inr (Or.inr (Or.inr (Or.inl (by omega)))))))
    · exact Or.inr (Or.inr (Or.inr (Or.inr (Or.inr (Or.inr (Or.inr (Or.inl (by omega))))))))
    · exact Or.inr (Or.inr (Or.inr (Or.inr (Or.inr (Or.inr (Or.inr (Or.inr (Or.inl (by omega)))))))))
    · exact Or.inr (Or.inr (Or.inr (Or.inr (Or.inr (Or.inr (Or.inr (Or.inr (Or.inr (Or.inl (by omega))))))))))
    · exact Or.inr (Or.inr (Or.inr (Or.inr (Or.inr (Or.inr (Or.inr (Or.inr (Or.inr (Or.inr (Or.inl (by omega)))))))))))
    · exact Or.inr (Or.inr (Or.inr (Or.inr (Or.inr (Or.inr (Or.inr (Or.inr (Or.inr (Or.inr (Or.inr (Or.inl (by omega))))))))))))
    · exact Or.inr (Or.inr (Or.inr (Or.inr (Or.inr (Or.inr (Or.inr (Or.inr (Or.inr (Or.inr (Or.inr (Or.inr (Or.inl (by omega)))))))))))))
    · exact Or.inr (Or.inr (Or.inr (Or.inr (Or.inr (Or.inr (Or.inr (Or.inr (Or.inr (Or.inr (Or.inr (Or.inr (Or.inr ((by omega))))))))))))))
  · obtain ⟨z, M2, e2, r⟩ := nu_X_queue_3 (d := d) (by omega) hM (by omega)
    obtain ⟨y1, y2⟩ := rI_inj (e.symm.trans e2)
    rw [y1, y2]
    rcases r with r | r | r | r | r | r | r | r | r | r | r | r | r | r
    · exact Or.inl (by omega)
    · exact Or.inr (Or.inl (by omega))
    · exact Or.inr (Or.inr (Or.inl (by omega)))
    · exact Or.inr (Or.inr (Or.inr (Or.inl (by omega))))
    · exact Or.inr (Or.inr (Or.inr (Or.inr (Or.inl (by omega)))))
    · exact Or.inr (Or.inr (Or.inr (Or.inr (Or.inr (Or.inl (by omega))))))
    · exact Or.inr (Or.inr (Or.inr (Or.inr (Or.inr (Or.inr (Or.inl (by omega)))))))
    · exact Or.inr (Or.inr (Or.inr (Or.inr (Or.inr (Or.inr (Or.inr (Or.inl (by omega))))))))
    · exact Or.inr (Or.inr (Or.inr (Or.inr (Or.inr (Or.inr (Or.inr (Or.inr (Or.inl (by omega)))))))))
    · exact Or.inr (Or.inr (Or.inr (Or.inr (Or.inr (Or.inr (Or.inr (Or.inr (Or.inr (Or.inl (by omega))))))))))
    · exact Or.inr (Or.inr (Or.inr (Or.inr (Or.inr (Or.inr (Or.inr (Or.inr (Or.inr (Or.inr (Or.inl (by omega)))))))))))
    · exact Or.inr (Or.inr (Or.inr (Or.inr (Or.inr (Or.inr (Or.inr (Or.inr (Or.inr (Or.inr (Or.inr (Or.inl (by omega))))))))))))
    · exact Or.inr (Or.inr (Or.inr (Or.inr (Or.inr (Or.inr (Or.inr (Or.inr (Or.inr (Or.inr (Or.inr (Or.inr (Or.inl (by omega)))))))))))))
    · exact Or.inr (Or.inr (Or.inr (Or.inr (Or.inr (Or.inr (Or.inr (Or.inr (Or.inr (Or.inr (Or.inr (Or.inr (Or.inr ((by omega))))))))))))))
  · obtain ⟨z, M2, e2, r⟩ := nu_X_queue_4 (d := d) (by omega) hM (by omega)
    obtain ⟨y1, y2⟩ := rI_inj (e.symm.trans e2)
    rw [y1, y2]
    rcases r with r | r | r | r | r | r | r | r | r | r | r | r | r | r
    · exact Or.inl (by omega)
    · exact Or.inr (Or.inl (by omega))
    · exact Or.inr (Or.inr (Or.inl (by omega)))
    · exact Or.inr (Or.inr (Or.inr (Or.inl (by omega))))
    · exact Or.inr (Or.inr (Or.inr (Or.inr (Or.inl (by omega)))))
    · exact Or.inr (Or.inr (Or.inr (Or.inr (Or.inr (Or.inl (by omega))))))
    · exact Or.inr (Or.inr (Or.inr (Or.inr (Or.inr (Or.inr (Or.inl (by omega)))))))
    · exact Or.inr (Or.inr (Or.inr (Or.inr (Or.inr (Or.inr (Or.inr (Or.inl (by omega))))))))
    · exact Or.inr (Or.inr (Or.inr (Or.inr (Or.inr (Or.inr (Or.inr (Or.inr (Or.inl (by omega)))))))))
    · exact Or.inr (Or.inr (Or.inr (Or.inr (Or.inr (Or.inr (Or.inr (Or.inr (Or.inr (Or.inl (by omega))))))))))
    · exact Or.inr (Or.inr (Or.inr (Or.inr (Or.inr (Or.inr (Or.inr (Or.inr (Or.inr (Or.inr (Or.inl (by omega)))))))))))
    · exact Or.inr (Or.inr (Or.inr (Or.inr (Or.inr (Or.inr (Or.inr (Or.inr (Or.inr (Or.inr (Or.inr (Or.inl (by omega))))))))))))
    · exact Or.inr (Or.inr (Or.inr (Or.inr (Or.inr (Or.inr (Or.inr (Or.inr (Or.inr (Or.inr (Or.inr (Or.inr (Or.inl (by omega)))))))))))))
    · exact Or.inr (Or.inr (Or.inr (Or.inr (Or.inr (Or.inr (Or.inr (Or.inr (Or.inr (Or.inr (Or.inr (Or.inr (Or.inr ((by omega))))))))))))))
  · obtain ⟨z, M2, e2, r⟩ := nu_X_queue_5 (d := d) (by omega) hM (by omega)
    obtain ⟨y1, y2⟩ := rI_inj (e.symm.trans e2)
    rw [y1, y2]
    rcases r with r | r | r | r | r | r | r | r | r | r | r | r | r | r
    · exact Or.inl (by omega)
    · exact Or.inr (Or.inl (by omega))
    · exact Or.inr (Or.inr (Or.inl (by omega)))
    · exact Or.inr (Or.inr (Or.inr (Or.inl (by omega))))
    · exact Or.inr (Or.inr (Or.inr (Or.inr (Or.inl (by omega)))))
    · exact Or.inr (Or.inr (Or.inr (Or.inr (Or.inr (Or.inl (by omega))))))
    · exact Or.inr (Or.inr (Or.inr (Or.inr (Or.inr (Or.inr (Or.inl (by omega)))))))
    · exact Or.inr (Or.inr (Or.inr (Or.inr (Or.inr (Or.inr (Or.inr (Or.inl (by omega))))))))
    · exact Or.inr (Or.inr (Or.inr (Or.inr (Or.inr (Or.inr (Or.inr (Or.inr (Or.inl (by omega)))))))))
    · exact Or.inr (Or.inr (Or.inr (Or.inr (Or.inr (Or.inr (Or.inr (Or.inr (Or.inr (Or.inl (by omega))))))))))
    · exact Or.inr (Or.inr (Or.inr (Or.inr (Or.inr (Or.inr (Or.inr (Or.inr (Or.inr (Or.inr (Or.inl (by omega)))))))))))
    · exact Or.inr (Or.inr (Or.inr (Or.inr (Or.inr (Or.inr (Or.inr (Or.inr (Or.inr (Or.inr (Or.inr (Or.inl (by omega))))))))))))
    · exact Or.inr (Or.inr (Or.inr (Or.inr (Or.inr (Or.inr (Or.inr (Or.inr (Or.inr (Or.inr (Or.inr (Or.inr (Or.inl (by omega)))))))))))))
    · exact Or.inr (Or.inr (Or.inr (Or.inr (Or.inr (Or.inr (Or.inr (Or.inr (Or.inr (Or.inr (Or.inr (Or.inr (Or.inr ((by omega))))))))))))))
  · obtain ⟨z, M2, e2, r⟩ := nu_X_queue_6 (d := d) (by omega) hM (by omega)
    obtain ⟨y1, y2⟩ := rI_inj (e.symm.trans e2)
    rw [y1, y2]
    rcases r with r | r | r | r | r | r | r | r | r | r | r | r | r | r
    · exact Or.inl (by omega)
    · exact Or.inr (Or.inl (by omega))
    · exact Or.inr (Or.inr (Or.inl (by omega)))
    · exact Or.inr (Or.inr (Or.inr (Or.inl (by omega))))
    · exact Or.inr (Or.inr (Or.inr (Or.inr (Or.inl (by omega)))))
    · exact Or.inr (Or.inr (Or.inr (Or.inr (Or.inr (Or.inl (by omega))))))
    · exact Or.inr (Or.inr (Or.inr (Or.inr (Or.inr (Or.inr (Or.inl (by omega)))))))
    · exact Or.inr (Or.inr (Or.inr (Or.inr (Or.inr (Or.inr (Or.inr (Or.inl (by omega))))))))
    · exact Or.inr (Or.inr (Or.inr (Or.inr (Or.inr (Or.inr (Or.inr (Or.inr (Or.inl (by omega)))))))))
    · exact Or.inr (Or.inr (Or.inr (Or.inr (Or.inr (Or.inr (Or.inr (Or.inr (Or.inr (Or.inl (by omega))))))))))
    · exact Or.inr (Or.inr (Or.inr (Or.inr (Or.inr (Or.inr (Or.inr (Or.inr (Or.inr (Or.inr (Or.inl (by omega)))))))))))
    · exact Or.inr (Or.inr (Or.inr (Or.inr (Or.inr (Or.inr (Or.inr (Or.inr (Or.inr (Or.inr (Or.inr (Or.inl (by omega))))))))))))
    · exact Or.inr (Or.inr (Or.inr (Or.inr (Or.inr (Or.inr (Or.inr (Or.inr (Or.inr (Or.inr (Or.inr (Or.inr (Or.inl (by omega)))))))))))))
    · exact Or.inr (Or.inr (Or.inr (Or.inr (Or.inr (Or.inr (Or.inr (Or.inr (Or.inr (Or.inr (Or.inr (Or.inr (Or.inr ((by omega))))))))))))))
  · obtain ⟨z, M2, e2, r⟩ := nu_X_queue_7 (d := d) (by omega) hM (by omega)
    obtain ⟨y1, y2⟩ := rI_inj (e.symm.trans e2)
    rw [y1, y2]
    rcases r with r | r | r | r | r | r | r | r | r | r | r | r | r | r
    · exact Or.inl (by omega)
    · exact Or.inr (Or.inl (by omega))
    · exact Or.inr (Or.inr (Or.inl (by omega)))
    · exact Or.inr (Or.inr (Or.inr (Or.inl (by omega))))
    · exact Or.inr (Or.inr (Or.inr (Or.inr (Or.inl (by omega)))))
    · exact Or.inr (Or.inr (Or.inr (Or.inr (Or.inr (Or.inl (by omega))))))
    · exact Or.inr (Or.inr (Or.inr (Or.inr (Or.inr (Or.inr (Or.inl (by omega)))))))
    · exact Or.inr (Or.inr (Or.inr (Or.inr (Or.inr (Or.inr (Or.inr (Or.inl (by omega))))))))
    · exact Or.inr (Or.inr (Or.inr (Or.inr (Or.inr (Or.inr (Or.inr (Or.inr (Or.inl (by omega)))))))))
    · exact Or.inr (Or.inr (Or.inr (Or.inr (Or.inr (Or.inr (Or.inr (Or.inr (Or.inr (Or.inl (by omega))))))))))
    · exact Or.inr (Or.inr (Or.inr (Or.inr (Or.inr (Or.inr (Or.inr (Or.inr (Or.inr (Or.inr (Or.inl (by omega)))))))))))
    · exact Or.inr (Or.inr (Or.inr (Or.inr (Or.inr (Or.inr (Or.inr (Or.inr (Or.inr (Or.inr (Or.inr (Or.inl (by omega))))))))))))
    · exact Or.inr (Or.inr (Or.inr (Or.inr (Or.inr (Or.inr (Or.inr (Or.inr (Or.inr (Or.inr (Or.inr (Or.inr (Or.inl (by omega)))))))))))))
    · exact Or.inr (Or.inr (Or.inr (Or.inr (Or.inr (Or.inr (Or.inr (Or.inr (Or.inr (Or.inr (Or.inr (Or.inr (Or.inr ((by omega))))))))))))))
  · obtain ⟨z, M2, e2, r⟩ := nu_X_queue_8 (d := d) (by omega) hM (by omega)
    obtain ⟨y1, y2⟩ := rI_inj (e.symm.trans e2)
    rw [y1, y2]
    rcases r with r | r | r | r | r | r | r | r | r | r | r | r | r | r
    · exact Or.inl (by omega)
    · exact Or.inr (Or.inl (by omega))
    · exact Or.inr (Or.inr (Or.inl (by omega)))
    · exact Or.inr (Or.inr (Or.inr (Or.inl (by omega))))
    · exact Or.inr (Or.inr (Or.inr (Or.inr (Or.inl (by omega)))))
    · exact Or.inr (Or.inr (Or.inr (Or.inr (Or.inr (Or.inl (by omega))))))
    · exact Or.inr (Or.inr (Or.inr (Or.inr (Or.inr (Or.inr (Or.inl (by omega)))))))
    · exact Or.inr (Or.inr (Or.inr (Or.inr (Or.inr (Or.inr (Or.inr (Or.inl (by omega))))))))
    · exact Or.inr (Or.inr (Or.inr (Or.inr (Or.inr (Or.inr (Or.inr (Or.inr (Or.inl (by omega)))))))))
    · exact Or.inr (Or.inr (Or.inr (Or.inr (Or.inr (Or.inr (Or.inr (Or.inr (Or.inr (Or.inl (by omega))))))))))
    · exact Or.inr (Or.inr (Or.inr (Or.inr (Or.inr (Or.inr (Or.inr (Or.inr (Or.inr (Or.inr (Or.inl (by omega)))))))))))
    · exact Or.inr (Or.inr (Or.inr (Or.inr (Or.inr (Or.inr (Or.inr (Or.inr (Or.inr (Or.inr (Or.inr (Or.inl (by omega))))))))))))
    · exact Or.inr (Or.inr (Or.inr (Or.inr (Or.inr (Or.inr (Or.inr (Or.inr (Or.inr (Or.inr (Or.inr (Or.inr (Or.inl (by omega)))))))))))))
    · exact Or.inr (Or.inr (Or.inr (Or.inr (Or.inr (Or.inr (Or.inr (Or.inr (Or.inr (Or.inr (Or.inr (Or.inr (Or.inr ((by omega))))))))))))))
  · obtain ⟨z, M2, e2, r⟩ := nu_X_queue_9 (d := d) (by omega) hM (by omega)
    obtain ⟨y1, y2⟩ := rI_inj (e.symm.trans e2)
    rw [y1, y2]
    rcases r with r | r | r | r | r | r | r | r | r | r | r | r | r | r
    · exact Or.inl (by omega)
    · exact Or.inr (Or.inl (by omega))
    · exact Or.inr (Or.inr (Or.inl (by omega)))
    · exact Or.inr (Or.inr (Or.inr (Or.inl (by omega))))
    · exact Or.inr (Or.inr (Or.inr (Or.inr (Or.inl (by omega)))))
    · exact Or.inr (Or.inr (Or.inr (Or.inr (Or.inr (Or.inl (by omega))))))
    · exact Or.inr (Or.inr (Or.inr (Or.inr (Or.inr (Or.inr (Or.inl (by omega)))))))
    · exact Or.inr (Or.inr (Or.inr (Or.inr (Or.inr (Or.inr (Or.inr (Or.inl (by omega))))))))
    · exact Or.inr (Or.inr (Or.inr (Or.inr (Or.inr (Or.inr (Or.inr (Or.inr (Or.inl (by omega)))))))))
    · exact Or.inr (Or.inr (Or.inr (Or.inr (Or.inr (Or.inr (Or.inr (Or.inr (Or.inr (Or.inl (by omega))))))))))
    · exact Or.inr (Or.inr (Or.inr (Or.inr (Or.inr (Or.inr (Or.inr (Or.inr (Or.inr (Or.inr (Or.inl (by omega)))))))))))
    · exact Or.inr (Or.inr (Or.inr (Or.inr (Or.inr (Or.inr (Or.inr (Or.inr (Or.inr (Or.inr (Or.inr (Or.inl (by omega))))))))))))
    · exact Or.inr (Or.inr (Or.inr (Or.inr (Or.inr (Or.inr (Or.inr (Or.inr (Or.inr (Or.inr (Or.inr (Or.inr (Or.inl (by omega)))))))))))))
    · exact Or.inr (Or.inr (Or.inr (Or.inr (Or.inr (Or.inr (Or.inr (Or.inr (Or.inr (Or.inr (Or.inr (Or.inr (Or.inr ((by omega))))))))))))))
  · obtain ⟨z, M2, e2, r⟩ := nu_X_queue_10 (d := d) (by omega) hM (by omega)
    obtain ⟨y1, y2⟩ := rI_inj (e.symm.trans e2)
    rw [y1, y2]
    rcases r with r | r | r | r | r | r | r | r | r | r | r | r | r | r
    · exact Or.inl (by omega)
    · exact Or.inr (Or.inl (by omega))
    · exact Or.inr (Or.inr (Or.inl (by omega)))
    · exact Or.inr (Or.inr (Or.inr (Or.inl (by omega))))
    · exact Or.inr (Or.inr (Or.inr (Or.inr (Or.inl (by omega)))))
    · exact Or.inr (Or.inr (Or.inr (Or.inr (Or.inr (Or.inl (by omega))))))
    · exact Or.inr (Or.inr (Or.inr (Or.inr (Or.inr (Or.inr (Or.inl (by omega)))))))
    · exact Or.inr (Or.inr (Or.inr (Or.inr (Or.inr (Or.inr (Or.inr (Or.inl (by omega))))))))
    · exact Or.inr (Or.inr (Or.inr (Or.inr (Or.inr (Or.inr (Or.inr (Or.inr (Or.inl (by omega)))))))))
    · exact Or.inr (Or.inr (Or.inr (Or.inr (Or.inr (Or.inr (Or.inr (Or.inr (Or.inr (Or.inl (by omega))))))))))
    · exact Or.inr (Or.inr (Or.inr (Or.inr (Or.inr (Or.inr (Or.inr (Or.inr (Or.inr (Or.inr (Or.inl (by omega)))))))))))
    · exact Or.inr (Or.inr (Or.inr (Or.inr (Or.inr (Or.inr (Or.inr (Or.inr (Or.inr (Or.inr (Or.inr (Or.inl (by omega))))))))))))
    · exact Or.inr (Or.inr (Or.inr (Or.inr (Or.inr (Or.inr (Or.inr (Or.inr (Or.inr (Or.inr (Or.inr (Or.inr (Or.inl (by omega)))))))))))))
    · exact Or.inr (Or.inr (Or.inr (Or.inr (Or.inr (Or.inr (Or.inr (Or.inr (Or.inr (Or.inr (Or.inr (Or.inr (Or.inr ((by omega))))))))))))))
  · obtain ⟨z, M2, e2, r⟩ := nu_X_queue_11 (d := d) (by omega) hM (by omega)
    obtain ⟨y1, y2⟩ := rI_inj (e.symm.trans e2)
    rw [y1, y2]
    rcases r with r | r | r | r | r | r | r | r | r | r | r | r | r | r
    · exact Or.inl (by omega)
    · exact Or.inr (Or.inl (by omega))
    · exact Or.inr (Or.inr (Or.inl (by omega)))
    · exact Or.inr (Or.inr (Or.inr (Or.inl (by omega))))
    · exact Or.inr (Or.inr (Or.inr (Or.inr (Or.inl (by omega)))))
    · exact Or.inr (Or.inr (Or.inr (Or.inr (Or.inr (Or.inl (by omega))))))
    · exact Or.inr (Or.inr (Or.inr (Or.inr (Or.inr (Or.inr (Or.inl (by omega)))))))
    · exact Or.inr (Or.inr (Or.inr (Or.inr (Or.inr (Or.inr (Or.inr (Or.inl (by omega))))))))
    · exact Or.inr (Or.inr (Or.inr (Or.inr (Or.inr (Or.inr (Or.inr (Or.inr (Or.inl (by omega)))))))))
    · exact Or.inr (Or.inr (Or.inr (Or.inr (Or.inr (Or.inr (Or.inr (Or.inr (Or.inr (Or.inl (by omega))))))))))
    · exact Or.inr (Or.inr (Or.inr (Or.inr (Or.inr (Or.inr (Or.inr (Or.inr (Or.inr (Or.inr (Or.inl (by omega)))))))))))
    · exact Or.inr (Or.inr (Or.inr (Or.inr (Or.inr (Or.inr (Or.inr (Or.inr (Or.inr (Or.inr (Or.inr (Or.inl (by omega))))))))))))
    · exact Or.inr (Or.inr (Or.inr (Or.inr (Or.inr (Or.inr (Or.inr (Or.inr (Or.inr (Or.inr (Or.inr (Or.inr (Or.inl (by omega)))))))))))))
    · exact Or.inr (Or.inr (Or.inr (Or.inr (Or.inr (Or.inr (Or.inr (Or.inr (Or.inr (Or.inr (Or.inr (Or.inr (Or.inr ((by omega))))))))))))))
theorem nu_X_evenings_0 {d : Nat} (hd : 8 ≤ d) {M : pM} (hM : gM gAll M) (p0 : 0 ≤ M 5 1 ∧ M 5 1 ≤ 0) : ∃ z M', xF d 41 [.inr 2] M = rI z M' ∧ ((-2 ≤ z ∧ z ≤ -2 ∧ 0 ≤ M' 5 1 ∧ M' 5 1 ≤ 0) ∨ (-3 ≤ z ∧ z ≤ -3 ∧ 0 ≤ M' 5 1 ∧ M' 5 1 ≤ 0) ∨ (-4 ≤ z ∧ z ≤ -4 ∧ 0 ≤ M' 5 1 ∧ M' 5 1 ≤ 0) ∨ (0 ≤ z ∧ z ≤ 0 ∧ 1 ≤ M' 5 1 ∧ M' 5 1 ≤ 1) ∨ (1 ≤ z ∧ z ≤ 300 ∧ 2 ≤ M' 5 1 ∧ M' 5 1 ≤ 11)) := by
  have c0 : cOK gAll (xF d) 41 K_727 := (ct_of (d := d) ct_ok (show K_727 ∈ CT.getD 41 [] from (show CT.getD 41 [] = [K_816, K_727, K_729, K_731, K_733, K_735, K_737, K_739, K_741, K_743, K_745, K_747, K_749, K_817, K_818, K_819, K_820, K_821, K_822, K_823, K_824, K_825, K_826, K_460] from rfl) ▸ by simp) hd)
  obtain ⟨z, M', e, -, -, alt, ha, q, p⟩ := cOK_I c0 (A := [.inr 2]) (show aF2 gW [aRef 2] [.inr 2] from ⟨gW_o, trivial⟩) hM (show gP0 [(5, 1, (0, 0, 0, 0, 0, 0))] M from fun e he => by
    simp only [List.mem_cons, List.not_mem_nil, or_false] at he
    rcases he with rfl
    · exact gR_i p0.1 p0.2) rfl
  refine ⟨z, M', e, ?_⟩
  have ha : alt ∈ [(some (0, -2, -2, 0, 0, 0), [], [(0, 14, (0, 1, 10, 0, 0, 0)), (5, 1, (0, 0, 0, 0, 0, 0)), (7, 10, (0, 1, 10, 0, 0, 0))]), (some (0, -3, -3, 0, 0, 0), [], [(0, 14, (0, 1, 10, 0, 0, 0)), (5, 1, (0, 0, 0, 0, 0, 0)), (7, 10, (0, 1, 10, 0, 0, 0))]), (some (0, -4, -4, 0, 0, 0), [], [(5, 1, (0, 0, 0, 0, 0, 0))]), (some (0, 0, 0, 0, 0, 0), [], [(0, 14, (0, 1, 10, 0, 0, 0)), (5, 1, (0, 1, 1, 0, 0, 0)), (6, 0, (0, -2147483648, 2147483647, 0, 0, 0)), (7, 10, (0, 1, 10, 0, 0, 0))]), (some (0, 1, 300, 0, 0, 0), [], [(0, 14, (0, 1, 10, 0, 0, 0)), (5, 1, (0, 2, 11, 0, 0, 0)), (7, 10, (0, 1, 10, 0, 0, 0)), (52, 5, (0, 1, 300, 0, 0, 0)), (52, 7, (0, 0, 299, 0, 0, 0)), (52, 9, (0, 0, 299, 0, 0, 0))])] := ha
  simp only [List.mem_cons, List.not_mem_nil, or_false] at ha
  rcases ha with rfl | rfl | rfl | rfl | rfl
  · obtain ⟨z2, e2, r⟩ := gW_int (show gW _ _ from q) (Nat.le_of_ble_eq_true rfl)
    cases e2
    have := gR0 r
    have w := gR0 (show gR (0, 0, 0, 0, 0, 0) (M' 5 1) from (p _ (List.mem_cons_of_mem _ List.mem_cons_self)).1)
    exact Or.inl ⟨this.1, this.2, w.1, w.2⟩
  · obtain ⟨z2, e2, r⟩ := gW_int (show gW _ _ from q) (Nat.le_of_ble_eq_true rfl)
    cases e2
    have := gR0 r
    have w := gR0 (show gR (0, 0, 0, 0, 0, 0) (M' 5 1) from (p _ (List.mem_cons_of_mem _ List.mem_cons_self)).1)
    exact Or.inr (Or.inl ⟨this.1, this.2, w.1, w.2⟩)
  · obtain ⟨z2, e2, r⟩ := gW_int (show gW _ _ from q) (Nat.le_of_ble_eq_true rfl)
    cases e2
    have := gR0 r
    have w := gR0 (show gR (0, 0, 0, 0, 0, 0) (M' 5 1) from (p _ List.mem_cons_self).1)
    exact Or.inr (Or.inr (Or.inl ⟨this.1, this.2, w.1, w.2⟩))
  · obtain ⟨z2, e2, r⟩ := gW_int (show gW _ _ from q) (Nat.le_of_ble_eq_true rfl)
    cases e2
    have := gR0 r
    have w := gR0 (show gR (0, 1, 1, 0, 0, 0) (M' 5 1) from (p _ (List.mem_cons_of_mem _ List.mem_cons_self)).1)
    exact Or.inr (Or.inr (Or.inr (Or.inl ⟨this.1, this.2, w.1, w.2⟩)))
  · obtain ⟨z2, e2, r⟩ := gW_int (show gW _ _ from q) (Nat.le_of_ble_eq_true rfl)
    cases e2
    have := gR0 r
    have w := gR0 (show gR (0, 2, 11, 0, 0, 0) (M' 5 1) from (p _ (List.mem_cons_of_mem _ List.mem_cons_self)).1)
    exact Or.inr (Or.inr (Or.inr (Or.inr ⟨this.1, this.2, w.1, w.2⟩)))
theorem nu_X_evenings_1 {d : Nat} (hd : 8 ≤ d) {M : pM} (hM : gM gAll M) (p0 : 1 ≤ M 5 1 ∧ M 5 1 ≤ 1) : ∃ z M', xF d 41 [.inr 2] M = rI z M' ∧ ((-2 ≤ z ∧ z ≤ -2 ∧ 1 ≤ M' 5 1 ∧ M' 5 1 ≤ 1) ∨ (-3 ≤ z ∧ z ≤ -3 ∧ 1 ≤ M' 5 1 ∧ M' 5 1 ≤ 1) ∨ (-4 ≤ z ∧ z ≤ -4 ∧ 1 ≤ M' 5 1 ∧ M' 5 1 ≤ 1) ∨ (0 ≤ z ∧ z ≤ 0 ∧ 1 ≤ M' 5 1 ∧ M' 5 1 ≤ 1) ∨ (1 ≤ z ∧ z ≤ 300 ∧ 2 ≤ M' 5 1 ∧ M' 5 1 ≤ 11)) := by
  have c0 : cOK gAll (xF d) 41 K_729 := (ct_of (d := d) ct_ok (show K_729 ∈ CT.getD 41 [] from (show CT.getD 41 [] = [K_816, K_727, K_729, K_731, K_733, K_735, K_737, K_739, K_741, K_743, K_745, K_747, K_749, K_817, K_818, K_819, K_820, K_821, K_822, K_823, K_824, K_825, K_826, K_460] from rfl) ▸ by simp) hd)
  obtain ⟨z, M', e, -, -, alt, ha, q, p⟩ := cOK_I c0 (A := [.inr 2]) (show aF2 gW [aRef 2] [.inr 2] from ⟨gW_o, trivial⟩) hM (show gP0 [(5, 1, (0, 1, 1, 0, 0, 0))] M from fun e he => by
    simp only [List.mem_cons, List.not_mem_nil, or_false] at he
    rcases he with rfl
    · exact gR_i p0.1 p0.2) rfl
  refine ⟨z, M', e, ?_⟩
  have ha : alt ∈ [(some (0, -2, -2, 0, 0, 0), [], [(0, 14, (0, 1, 10, 0, 0, 0)), (5, 1, (0, 1, 1, 0, 0, 0)), (7, 10, (0, 1, 10, 0, 0, 0))]), (some (0, -3, -3, 0, 0, 0), [], [(0, 14, (0, 1, 10, 0, 0, 0)), (5, 1, (0, 1, 1, 0, 0, 0)), (7, 10, (0, 1, 10, 0, 0, 0))]), (some (0, -4, -4, 0, 0, 0), [], [(5, 1, (0, 1, 1, 0, 0, 0))]), (some (0, 0, 0, 0, 0, 0), [], [(0, 14, (0, 1, 10, 0, 0, 0)), (5, 1, (0, 1, 1, 0, 0, 0)), (6, 0, (0, -2147483648, 2147483647, 0, 0, 0)), (7, 10, (0, 1, 10, 0, 0, 0))]), (some (0, 1, 300, 0, 0, 0), [], [(0, 14, (0, 1, 10, 0, 0, 0)), (5, 1, (0, 2, 11, 0, 0, 0)), (7, 10, (0, 1, 10, 0, 0, 0)), (52, 5, (0, 1, 300, 0, 0, 0)), (52, 7, (0, 0, 299, 0, 0, 0)), (52, 9, (0, 0, 299, 0, 0, 0))])] := ha
  simp only [List.mem_cons, List.not_mem_nil, or_false] at ha
  rcases ha with rfl | rfl | rfl | rfl | rfl
  · obtain ⟨z2, e2, r⟩ := gW_int (show gW _ _ from q) (Nat.le_of_ble_eq_true rfl)
    cases e2
    have := gR0 r
    have w := gR0 (show gR (0, 1, 1, 0, 0, 0) (M' 5 1) from (p _ (List.mem_cons_of_mem _ List.mem_cons_self)).1)
    exact Or.inl ⟨this.1, this.2, w.1, w.2⟩
  · obtain ⟨z2, e2, r⟩ := gW_int (show gW _ _ from q) (Nat.le_of_ble_eq_true rfl)
    cases e2
    have := gR0 r
    have w := gR0 (show gR (0, 1, 1, 0, 0, 0) (M' 5 1) from (p _ (List.mem_cons_of_mem _ List.mem_cons_self)).1)
    exact Or.inr (Or.inl ⟨this.1, this.2, w.1, w.2⟩)
  · obtain ⟨z2, e2, r⟩ := gW_int (show gW _ _ from q) (Nat.le_of_ble_eq_true rfl)
    cases e2
    have := gR0 r
    have w := gR0 (show gR (0, 1, 1, 0, 0, 0) (M' 5 1) from (p _ List.mem_cons_self).1)
    exact Or.inr (Or.inr (Or.inl ⟨this.1, this.2, w.1, w.2⟩))
  · obtain ⟨z2, e2, r⟩ := gW_int (show gW _ _ from q) (Nat.le_of_ble_eq_true rfl)
    cases e2
    have := gR0 r
    have w := gR0 (show gR (0, 1, 1, 0, 0, 0) (M' 5 1) from (p _ (List.mem_cons_of_mem _ List.mem_cons_self)).1)
    exact Or.inr (Or.inr (Or.inr (Or.inl ⟨this.1, this.2, w.1, w.2⟩)))
  · obtain ⟨z2, e2, r⟩ := gW_int (show gW _ _ from q) (Nat.le_of_ble_eq_true rfl)
    cases e2
    have := gR0 r
    have w := gR0 (show gR (0, 2, 11, 0, 0, 0) (M' 5 1) from (p _ (List.mem_cons_of_mem _ List.mem_cons_self)).1)
    exact Or.inr (Or.inr (Or.inr (Or.inr ⟨this.1, this.2, w.1, w.2⟩)))
