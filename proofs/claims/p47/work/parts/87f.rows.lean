/-! more of that (by program) -/
theorem nu_M_sell1 {d : Nat} (hd : 4 ≤ d) {M M' : pM} {v : Int} (hM : gM gAll M) (p0 : 1 ≤ M 60 0 ∧ M 60 0 ≤ 6) (p1 : 0 ≤ M 60 38 ∧ M 60 38 ≤ 0) {n : Nat} (hn : n ≤ 11) (hc : M 60 16 = (n : Int)) (e : xF d 246 [.inr 62] M = rI v M') : (-3 ≤ v ∧ v ≤ -3 ∧ M' 60 16 = (n : Int)) ∨ (0 ≤ v ∧ v ≤ 63 ∧ M' 60 16 = 1) := by
  rcases (show n = 0 ∨ n = 1 ∨ n = 2 ∨ n = 3 ∨ n = 4 ∨ n = 5 ∨ n = 6 ∨ n = 7 ∨ n = 8 ∨ n = 9 ∨ n = 10 ∨ n = 11 by omega) with rfl | rfl | rfl | rfl | rfl | rfl | rfl | rfl | rfl | rfl | rfl | rfl
  · obtain ⟨z, M2, e2, r⟩ := nu_M_sell1_0 (d := d) (by omega) hM p0 (by omega) p1
    obtain ⟨y1, y2⟩ := rI_inj (e.symm.trans e2)
    rw [y1, y2]
    rcases r with r | r
    · exact Or.inl (by omega)
    · exact Or.inr ((by omega))
  · obtain ⟨z, M2, e2, r⟩ := nu_M_sell1_1 (d := d) (by omega) hM p0 (by omega) p1
    obtain ⟨y1, y2⟩ := rI_inj (e.symm.trans e2)
    rw [y1, y2]
    rcases r with r | r
    · exact Or.inl (by omega)
    · exact Or.inr ((by omega))
  · obtain ⟨z, M2, e2, r⟩ := nu_M_sell1_2 (d := d) (by omega) hM p0 (by omega) p1
    obtain ⟨y1, y2⟩ := rI_inj (e.symm.trans e2)
    rw [y1, y2]
    rcases r with r | r
    · exact Or.inl (by omega)
    · exact Or.inr ((by omega))
  · obtain ⟨z, M2, e2, r⟩ := nu_M_sell1_3 (d := d) (by omega) hM p0 (by omega) p1
    obtain ⟨y1, y2⟩ := rI_inj (e.symm.trans e2)
    rw [y1, y2]
    rcases r with r | r
    · exact Or.inl (by omega)
    · exact Or.inr ((by omega))
  · obtain ⟨z, M2, e2, r⟩ := nu_M_sell1_4 (d := d) (by omega) hM p0 (by omega) p1
    obtain ⟨y1, y2⟩ := rI_inj (e.symm.trans e2)
    rw [y1, y2]
    rcases r with r | r
    · exact Or.inl (by omega)
    · exact Or.inr ((by omega))
  · obtain ⟨z, M2, e2, r⟩ := nu_M_sell1_5 (d := d) (by omega) hM p0 (by omega) p1
    obtain ⟨y1, y2⟩ := rI_inj (e.symm.trans e2)
    rw [y1, y2]
    rcases r with r | r
    · exact Or.inl (by omega)
    · exact Or.inr ((by omega))
  · obtain ⟨z, M2, e2, r⟩ := nu_M_sell1_6 (d := d) (by omega) hM p0 (by omega) p1
    obtain ⟨y1, y2⟩ := rI_inj (e.symm.trans e2)
    rw [y1, y2]
    rcases r with r | r
    · exact Or.inl (by omega)
    · exact Or.inr ((by omega))
  · obtain ⟨z, M2, e2, r⟩ := nu_M_sell1_7 (d := d) (by omega) hM p0 (by omega) p1
    obtain ⟨y1, y2⟩ := rI_inj (e.symm.trans e2)
    rw [y1, y2]
    rcases r with r | r
    · exact Or.inl (by omega)
    · exact Or.inr ((by omega))
  · obtain ⟨z, M2, e2, r⟩ := nu_M_sell1_8 (d := d) (by omega) hM p0 (by omega) p1
    obtain ⟨y1, y2⟩ := rI_inj (e.symm.trans e2)
    rw [y1, y2]
    rcases r with r | r
    · exact Or.inl (by omega)
    · exact Or.inr ((by omega))
  · obtain ⟨z, M2, e2, r⟩ := nu_M_sell1_9 (d := d) (by omega) hM p0 (by omega) p1
    obtain ⟨y1, y2⟩ := rI_inj (e.symm.trans e2)
    rw [y1, y2]
    rcases r with r | r
    · exact Or.inl (by omega)
    · exact Or.inr ((by omega))
  · obtain ⟨z, M2, e2, r⟩ := nu_M_sell1_10 (d := d) (by omega) hM p0 (by omega) p1
    obtain ⟨y1, y2⟩ := rI_inj (e.symm.trans e2)
    rw [y1, y2]
    rcases r with r | r
    · exact Or.inl (by omega)
    · exact Or.inr ((by omega))
  · obtain ⟨z, M2, e2, r⟩ := nu_M_sell1_11 (d := d) (by omega) hM p0 (by omega) p1
    obtain ⟨y1, y2⟩ := rI_inj (e.symm.trans e2)
    rw [y1, y2]
    rcases r with r | r
    · exact Or.inl (by omega)
    · exact Or.inr ((by omega))
theorem nu_M_sell0_0 {d : Nat} (hd : 4 ≤ d) {M : pM} (hM : gM gAll M) (p0 : 0 ≤ M 60 0 ∧ M 60 0 ≤ 0) (p1 : 0 ≤ M 60 3 ∧ M 60 3 ≤ 0) (p2 : 0 ≤ M 60 16 ∧ M 60 16 ≤ 0) (p3 : 0 ≤ M 60 38 ∧ M 60 38 ≤ 0) : ∃ z M', xF d 246 [.inr 62] M = rI z M' ∧ ((0 ≤ z ∧ z ≤ 63 ∧ 1 ≤ M' 60 16 ∧ M' 60 16 ≤ 1)) := by
  have c0 : cOK gAll (xF d) 246 K_1002 := (ct_of (d := d) ct_ok (show K_1002 ∈ CT.getD 246 [] from (show CT.getD 246 [] = [K_1002, K_1003, K_1004, K_1005, K_1006, K_1007, K_1008, K_1009, K_1010, K_1011, K_1012, K_1013, K_575, K_990, K_991, K_992, K_993, K_994, K_995, K_996, K_997, K_998, K_999, K_1000, K_1001, K_574] from rfl) ▸ by simp) hd)
  obtain ⟨z, M', e, -, -, alt, ha, q, p⟩ := cOK_I c0 (A := [.inr 62]) (show aF2 gW [aRef 62] [.inr 62] from ⟨gW_o, trivial⟩) hM (show gP0 [(60, 0, (0, 0, 0, 0, 0, 0)), (60, 3, (0, 0, 0, 0, 0, 0)), (60, 16, (0, 0, 0, 0, 0, 0)), (60, 38, (0, 0, 0, 0, 0, 0))] M from fun e he => by
    simp only [List.mem_cons, List.not_mem_nil, or_false] at he
    rcases he with rfl | rfl | rfl | rfl
    · exact gR_i p0.1 p0.2
    · exact gR_i p1.1 p1.2
    · exact gR_i p2.1 p2.2
    · exact gR_i p3.1 p3.2) rfl
  refine ⟨z, M', e, ?_⟩
  have ha : alt ∈ [(some (0, 0, 63, 0, 0, 0), [], [(60, 0, (0, 0, 0, 0, 0, 0)), (60, 3, (0, 0, 0, 0, 0, 0)), (60, 16, (0, 1, 1, 0, 0, 0)), (60, 17, (0, 0, 0, 0, 0, 0)), (60, 30, (0, 0, 0, 0, 0, 0)), (60, 38, (0, 0, 0, 0, 0, 0)), (60, 39, (0, 1, 1, 0, 0, 0)), (69, 0, (0, -2147483648, 2147483647, 0, 0, 0))])] := ha
  simp only [List.mem_cons, List.not_mem_nil, or_false] at ha
  rcases ha with rfl
  · obtain ⟨z2, e2, r⟩ := gW_int (show gW _ _ from q) (Nat.le_of_ble_eq_true rfl)
    cases e2
    have := gR0 r
    have w := gR0 (show gR (0, 1, 1, 0, 0, 0) (M' 60 16) from (p _ (List.mem_cons_of_mem _ (List.mem_cons_of_mem _ List.mem_cons_self))).1)
    exact ⟨this.1, this.2, w.1, w.2⟩
theorem nu_M_sell0_1 {d : Nat} (hd : 4 ≤ d) {M : pM} (hM : gM gAll M) (p0 : 0 ≤ M 60 0 ∧ M 60 0 ≤ 0) (p1 : 0 ≤ M 60 3 ∧ M 60 3 ≤ 0) (p2 : 1 ≤ M 60 16 ∧ M 60 16 ≤ 1) (p3 : 0 ≤ M 60 38 ∧ M 60 38 ≤ 0) : ∃ z M', xF d 246 [.inr 62] M = rI z M' ∧ ((0 ≤ z ∧ z ≤ 63 ∧ 1 ≤ M' 60 16 ∧ M' 60 16 ≤ 1)) := by
  have c0 : cOK gAll (xF d) 246 K_1003 := (ct_of (d := d) ct_ok (show K_1003 ∈ CT.getD 246 [] from (show CT.getD 246 [] = [K_1002, K_1003, K_1004, K_1005, K_1006, K_1007, K_1008, K_1009, K_1010, K_1011, K_1012, K_1013, K_575, K_990, K_991, K_992, K_993, K_994, K_995, K_996, K_997, K_998, K_999, K_1000, K_1001, K_574] from rfl) ▸ by simp) hd)
  obtain ⟨z, M', e, -, -, alt, ha, q, p⟩ := cOK_I c0 (A := [.inr 62]) (show aF2 gW [aRef 62] [.inr 62] from ⟨gW_o, trivial⟩) hM (show gP0 [(60, 0, (0, 0, 0, 0, 0, 0)), (60, 3, (0, 0, 0, 0, 0, 0)), (60, 16, (0, 1, 1, 0, 0, 0)), (60, 38, (0, 0, 0, 0, 0, 0))] M from fun e he => by
    simp only [List.mem_cons, List.not_mem_nil, or_false] at he
    rcases he with rfl | rfl | rfl | rfl
    · exact gR_i p0.1 p0.2
    · exact gR_i p1.1 p1.2
    · exact gR_i p2.1 p2.2
    · exact gR_i p3.1 p3.2) rfl
  refine ⟨z, M', e, ?_⟩
  have ha : alt ∈ [(some (0, 0, 63, 0, 0, 0), [], [(60, 0, (0, 0, 0, 0, 0, 0)), (60, 3, (0, 0, 0, 0, 0, 0)), (60, 16, (0, 1, 1, 0, 0, 0)), (60, 17, (0, 0, 0, 0, 0, 0)), (60, 30, (0, 0, 0, 0, 0, 0)), (60, 38, (0, 0, 0, 0, 0, 0)), (60, 39, (0, 1, 1, 0, 0, 0)), (69, 0, (0, -2147483648, 2147483647, 0, 0, 0))])] := ha
  simp only [List.mem_cons, List.not_mem_nil, or_false] at ha
  rcases ha with rfl
  · obtain ⟨z2, e2, r⟩ := gW_int (show gW _ _ from q) (Nat.le_of_ble_eq_true rfl)
    cases e2
    have := gR0 r
    have w := gR0 (show gR (0, 1, 1, 0, 0, 0) (M' 60 16) from (p _ (List.mem_cons_of_mem _ (List.mem_cons_of_mem _ List.mem_cons_self))).1)
    exact ⟨this.1, this.2, w.1, w.2⟩
theorem nu_M_sell0_2 {d : Nat} (hd : 4 ≤ d) {M : pM} (hM : gM gAll M) (p0 : 0 ≤ M 60 0 ∧ M 60 0 ≤ 0) (p1 : 0 ≤ M 60 3 ∧ M 60 3 ≤ 0) (p2 : 2 ≤ M 60 16 ∧ M 60 16 ≤ 2) (p3 : 0 ≤ M 60 38 ∧ M 60 38 ≤ 0) : ∃ z M', xF d 246 [.inr 62] M = rI z M' ∧ ((0 ≤ z ∧ z ≤ 63 ∧ 1 ≤ M' 60 16 ∧ M' 60 16 ≤ 1)) := by
  have c0 : cOK gAll (xF d) 246 K_1004 := (ct_of (d := d) ct_ok (show K_1004 ∈ CT.getD 246 [] from (show CT.getD 246 [] = [K_1002, K_1003, K_1004, K_1005, K_1006, K_1007, K_1008, K_1009, K_1010, K_1011, K_1012, K_1013, K_575, K_990, K_991, K_992, K_993, K_994, K_995, K_996, K_997, K_998, K_999, K_1000, K_1001, K_574] from rfl) ▸ by simp) hd)
  obtain ⟨z, M', e, -, -, alt, ha, q, p⟩ := cOK_I c0 (A := [.inr 62]) (show aF2 gW [aRef 62] [.inr 62] from ⟨gW_o, trivial⟩) hM (show gP0 [(60, 0, (0, 0, 0, 0, 0, 0)), (60, 3, (0, 0, 0, 0, 0, 0)), (60, 16, (0, 2, 2, 0, 0, 0)), (60, 38, (0, 0, 0, 0, 0, 0))] M from fun e he => by
    simp only [List.mem_cons, List.not_mem_nil, or_false] at he
    rcases he with rfl | rfl | rfl | rfl
    · exact gR_i p0.1 p0.2
    · exact gR_i p1.1 p1.2
    · exact gR_i p2.1 p2.2
    · exact gR_i p3.1 p3.2) rfl
  refine ⟨z, M', e, ?_⟩
  have ha : alt ∈ [(some (0, 0, 63, 0, 0, 0), [], [(60, 0, (0, 0, 0, 0, 0, 0)), (60, 3, (0, 0, 0, 0, 0, 0)), (60, 16, (0, 1, 1, 0, 0, 0)), (60, 17, (0, 0, 0, 0, 0, 0)), (60, 30, (0, 0, 0, 0, 0, 0)), (60, 38, (0, 0, 0, 0, 0, 0)), (60, 39, (0, 1, 1, 0, 0, 0)), (69, 0, (0, -2147483648, 2147483647, 0, 0, 0))])] := ha
  simp only [List.mem_cons, List.not_mem_nil, or_false] at ha
  rcases ha with rfl
  · obtain ⟨z2, e2, r⟩ := gW_int (show gW _ _ from q) (Nat.le_of_ble_eq_true rfl)
    cases e2
    have := gR0 r
    have w := gR0 (show gR (0, 1, 1, 0, 0, 0) (M' 60 16) from (p _ (List.mem_cons_of_mem _ (List.mem_cons_of_mem _ List.mem_cons_self))).1)
    exact ⟨this.1, this.2, w.1, w.2⟩
theorem nu_M_sell0_3 {d : Nat} (hd : 4 ≤ d) {M : pM} (hM : gM gAll M) (p0 : 0 ≤ M 60 0 ∧ M 60 0 ≤ 0) (p1 : 0 ≤ M 60 3 ∧ M 60 3 ≤ 0) (p2 : 3 ≤ M 60 16 ∧ M 60 16 ≤ 3) (p3 : 0 ≤ M 60 38 ∧ M 60 38 ≤ 0) : ∃ z M', xF d 246 [.inr 62] M = rI z M' ∧ ((0 ≤ z ∧ z ≤ 63 ∧ 1 ≤ M' 60 16 ∧ M' 60 16 ≤ 1)) := by
  have c0 : cOK gAll (xF d) 246 K_1005 := (ct_of (d := d) ct_ok (show K_1005 ∈ CT.getD 246 [] from (show CT.getD 246 [] = [K_1002, K_1003, K_1004, K_1005, K_1006, K_1007, K_1008, K_1009, K_1010, K_1011, K_1012, K_1013, K_575, K_990, K_991, K_992, K_993, K_994, K_995, K_996, K_997, K_998, K_999, K_1000, K_1001, K_574] from rfl) ▸ by simp) hd)
  obtain ⟨z, M', e, -, -, alt, ha, q, p⟩ := cOK_I c0 (A := [.inr 62]) (show aF2 gW [aRef 62] [.inr 62] from ⟨gW_o, trivial⟩) hM (show gP0 [(60, 0, (0, 0, 0, 0, 0, 0)), (60, 3, (0, 0, 0, 0, 0, 0)), (60, 16, (0, 3, 3, 0, 0, 0)), (60, 38, (0, 0, 0, 0, 0, 0))] M from fun e he => by
    simp only [List.mem_cons, List.not_mem_nil, or_false] at he
    rcases he with rfl | rfl | rfl | rfl
    · exact gR_i p0.1 p0.2
    · exact gR_i p1.1 p1.2
    · exact gR_i p2.1 p2.2
    · exact gR_i p3.1 p3.2) rfl
  refine ⟨z, M', e, ?_⟩
  have ha : alt ∈ [(some (0, 0, 63, 0, 0, 0), [], [(60, 0, (0, 0, 0, 0, 0, 0)), (60, 3, (0, 0, 0, 0, 0, 0)), (60, 16, (0, 1, 1, 0, 0, 0)), (60, 17, (0, 0, 0, 0, 0, 0)), (60, 30, (0, 0, 0, 0, 0, 0)), (60, 38, (0, 0, 0, 0, 0, 0)), (60, 39, (0, 1, 1, 0, 0, 0)), (69, 0, (0, -2147483648, 2147483647, 0, 0, 0))])] := ha
  simp only [List.mem_cons, List.not_mem_nil, or_false] at ha
  rcases ha with rfl
  · obtain ⟨z2, e2, r⟩ := gW_int (show gW _ _ from q) (Nat.le_of_ble_eq_true rfl)
    cases e2
    have := gR0 r
    have w := gR0 (show gR (0, 1, 1, 0, 0, 0) (M' 60 16) from (p _ (List.mem_cons_of_mem _ (List.mem_cons_of_mem _ List.mem_cons_self))).1)
    exact ⟨this.1, this.2, w.1, w.2⟩
theorem nu_M_sell0_4 {d : Nat} (hd : 4 ≤ d) {M : pM} (hM : gM gAll M) (p0 : 0 ≤ M 60 0 ∧ M 60 0 ≤ 0) (p1 : 0 ≤ M 60 3 ∧ M 60 3 ≤ 0) (p2 : 4 ≤ M 60 16 ∧ M 60 16 ≤ 4) (p3 : 0 ≤ M 60 38 ∧ M 60 38 ≤ 0) : ∃ z M', xF d 246 [.inr 62] M = rI z M' ∧ ((0 ≤ z ∧ z ≤ 63 ∧ 1 ≤ M' 60 16 ∧ M' 60 16 ≤ 1)) := by
  have c0 : cOK gAll (xF d) 246 K_1006 := (ct_of (d := d) ct_ok (show K_1006 ∈ CT.getD 246 [] from (show CT.getD 246 [] = [K_1002, K_1003, K_1004, K_1005, K_1006, K_1007, K_1008, K_1009, K_1010, K_1011, K_1012, K_1013, K_575, K_990, K_991, K_992, K_993, K_994, K_995, K_996, K_997, K_998, K_999, K_1000, K_1001, K_574] from rfl) ▸ by simp) hd)
  obtain ⟨z, M', e, -, -, alt, ha, q, p⟩ := cOK_I c0 (A := [.inr 62]) (show aF2 gW [aRef 62] [.inr 62] from ⟨gW_o, trivial⟩) hM (show gP0 [(60, 0, (0, 0, 0, 0, 0, 0)), (60, 3, (0, 0, 0, 0, 0, 0)), (60, 16, (0, 4, 4, 0, 0, 0)), (60, 38, (0, 0, 0, 0, 0, 0))] M from fun e he => by
    simp only [List.mem_cons, List.not_mem_nil, or_false] at he
    rcases he with rfl | rfl | rfl | rfl
    · exact gR_i p0.1 p0.2
    · exact gR_i p1.1 p1.2
    · exact gR_i p2.1 p2.2
    · exact gR_i p3.1 p3.2) rfl
  refine ⟨z, M', e, ?_⟩
  have ha : alt ∈ [(some (0, 0, 63, 0, 0, 0), [], [(60, 0, (0, 0, 0, 0, 0, 0)), (60, 3, (0, 0, 0, 0, 0, 0)), (60, 16, (0, 1, 1, 0, 0, 0)), (60, 17, (0, 0, 0, 0, 0, 0)), (60, 30, (0, 0, 0, 0, 0, 0)), (60, 38, (0, 0, 0, 0, 0, 0)), (60, 39, (0, 1, 1, 0, 0, 0)), (69, 0, (0, -2147483648, 2147483647, 0, 0, 0))])] := ha
  simp only [List.mem_cons, List.not_mem_nil, or_false] at ha
  rcases ha with rfl
  · obtain ⟨z2, e2, r⟩ := gW_int (show gW _ _ from q) (Nat.le_of_ble_eq_true rfl)
    cases e2
    have := gR0 r
    have w := gR0 (show gR (0, 1, 1, 0, 0, 0) (M' 60 16) from (p _ (List.mem_cons_of_mem _ (List.mem_cons_of_mem _ List.mem_cons_self))).1)
    exact ⟨this.1, this.2, w.1, w.2⟩
theorem nu_M_sell0_5 {d : Nat} (hd : 4 ≤ d) {M : pM} (hM : gM gAll M) (p0 : 0 ≤ M 60 0 ∧ M 60 0 ≤ 0) (p1 : 0 ≤ M 60 3 ∧ M 60 3 ≤ 0) (p2 : 5 ≤ M 60 16 ∧ M 60 16 ≤ 5) (p3 : 0 ≤ M 60 38 ∧ M 60 38 ≤ 0) : ∃ z M', xF d 246 [.inr 62] M = rI z M' ∧ ((0 ≤ z ∧ z ≤ 63 ∧ 1 ≤ M' 60 16 ∧ M' 60 16 ≤ 1)) := by
  have c0 : cOK gAll (xF d) 246 K_1007 := (ct_of (d := d) ct_ok (show K_1007 ∈ CT.getD 246 [] from (show CT.getD 246 [] = [K_1002, K_1003, K_1004, K_1005, K_1006, K_1007, K_1008, K_1009, K_1010, K_1011, K_1012, K_1013, K_575, K_990, K_991, K_992, K_993, K_994, K_995, K_996, K_997, K_998, K_999, K_1000, K_1001, K_574] from rfl) ▸ by simp) hd)
  obtain ⟨z, M', e, -, -, alt, ha, q, p⟩ := cOK_I c0 (A := [.inr 62]) (show aF2 gW [aRef 62] [.inr 62] from ⟨gW_o, trivial⟩) hM (show gP0 [(60, 0, (0, 0, 0, 0, 0, 0)), (60, 3, (0, 0, 0, 0, 0, 0)), (60, 16, (0, 5, 5, 0, 0, 0)), (60, 38, (0, 0, 0, 0, 0, 0))] M from fun e he => by
    simp only [List.mem_cons, List.not_mem_nil, or_false] at he
    rcases he with rfl | rfl | rfl | rfl
    · exact gR_i p0.1 p0.2
    · exact gR_i p1.1 p1.2
    · exact gR_i p2.1 p2.2
    · exact gR_i p3.1 p3.2) rfl
  refine ⟨z, M', e, ?_⟩
  have ha : alt ∈ [(some (0, 0, 63, 0, 0, 0), [], [(60, 0, (0, 0, 0, 0, 0, 0)), (60, 3, (0, 0, 0, 0, 0, 0)), (60, 16, (0, 1, 1, 0, 0, 0)), (60, 17, (0, 0, 0, 0, 0, 0)), (60, 30, (0, 0, 0, 0, 0, 0)), (60, 38, (0, 0, 0, 0, 0, 0)), (60, 39, (0, 1, 1, 0, 0, 0)), (69, 0, (0, -2147483648, 2147483647, 0, 0, 0))])] := ha
  simp only [List.mem_cons, List.not_mem_nil, or_false] at ha
  rcases ha with rfl
  · obtain ⟨z2, e2, r⟩ := gW_int (show gW _ _ from q) (Nat.le_of_ble_eq_true rfl)
    cases e2
    have := gR0 r
    have w := gR0 (show gR (0, 1, 1, 0, 0, 0) (M' 60 16) from (p _ (List.mem_cons_of_mem _ (List.mem_cons_of_mem _ List.mem_cons_self))).1)
    exact ⟨this.1, this.2, w.1, w.2⟩
theorem nu_M_sell0_6 {d : Nat} (hd : 4 ≤ d) {M : pM} (hM : gM gAll M) (p0 : 0 ≤ M 60 0 ∧ M 60 0 ≤ 0) (p1 : 0 ≤ M 60 3 ∧ M 60 3 ≤ 0) (p2 : 6 ≤ M 60 16 ∧ M 60 16 ≤ 6) (p3 : 0 ≤ M 60 38 ∧ M 60 38 ≤ 0) : ∃ z M', xF d 246 [.inr 62] M = rI z M' ∧ ((0 ≤ z ∧ z ≤ 63 ∧ 1 ≤ M' 60 16 ∧ M' 60 16 ≤ 1)) := by
  have c0 : cOK gAll (xF d) 246 K_1008 := (ct_of (d := d) ct_ok (show K_1008 ∈ CT.getD 246 [] from (show CT.getD 246 [] = [K_1002, K_1003, K_1004, K_1005, K_1006, K_1007, K_1008, K_1009, K_1010, K_1011, K_1012, K_1013, K_575, K_990, K_991, K_992, K_993, K_994, K_995, K_996, K_997, K_998, K_999, K_1000, K_1001, K_574] from rfl) ▸ by simp) hd)
  obtain ⟨z, M', e, -, -, alt, ha, q, p⟩ := cOK_I c0 (A := [.inr 62]) (show aF2 gW [aRef 62] [.inr 62] from ⟨gW_o, trivial⟩) hM (show gP0 [(60, 0, (0, 0, 0, 0, 0, 0)), (60, 3, (0, 0, 0, 0, 0, 0)), (60, 16, (0, 6, 6, 0, 0, 0)), (60, 38, (0, 0, 0, 0, 0, 0))] M from fun e he => by
    simp only [List.mem_cons, List.not_mem_nil, or_false] at he
    rcases he with rfl | rfl | rfl | rfl
    · exact gR_i p0.1 p0.2
    · exact gR_i p1.1 p1.2
    · exact gR_i p2.1 p2.2
    · exact gR_i p3.1 p3.2) rfl
  refine ⟨z, M', e, ?_⟩
  have ha : alt ∈ [(some (0, 0, 63, 0, 0, 0), [], [(60, 0, (0, 0, 0, 0, 0, 0)), (60, 3, (0, 0, 0, 0, 0, 0)), (60, 16, (0, 1, 1, 0, 0, 0)), (60, 17, (0, 0, 0, 0, 0, 0)), (60, 30, (0, 0, 0, 0, 0, 0)), (60, 38, (0, 0, 0, 0, 0, 0)), (60, 39, (0, 1, 1, 0, 0, 0)), (69, 0, (0, -2147483648, 2147483647, 0, 0, 0))])] := ha
  simp only [List.mem_cons, List.not_mem_nil, or_false] at ha
  rcases ha with rfl
  · obtain ⟨z2, e2, r⟩ := gW_int (show gW _ _ from q) (Nat.le_of_ble_eq_true rfl)
    cases e2
    have := gR0 r
    have w := gR0 (show gR (0, 1, 1, 0, 0, 0) (M' 60 16) from (p _ (List.mem_cons_of_mem _ (List.mem_cons_of_mem _ List.mem_cons_self))).1)
    exact ⟨this.1, this.2, w.1, w.2⟩
theorem nu_M_sell0_7 {d : Nat} (hd : 4 ≤ d) {M : pM} (hM : gM gAll M) (p0 : 0 ≤ M 60 0 ∧ M 60 0 ≤ 0) (p1 : 0 ≤ M 60 3 ∧ M 60 3 ≤ 0) (p2 : 7 ≤ M 60 16 ∧ M 60 16 ≤ 7) (p3 : 0 ≤ M 60 38 ∧ M 60 38 ≤ 0) : ∃ z M', xF d 246 [.inr 62] M = rI z M' ∧ ((0 ≤ z ∧ z ≤ 63 ∧ 1 ≤ M' 60 16 ∧ M' 60 16 ≤ 1)) := by
  have c0 : cOK gAll (xF d) 246 K_1009 := (ct_of (d := d) ct_ok (show K_1009 ∈ CT.getD 246 [] from (show CT.getD 246 [] = [K_1002, K_1003, K_1004, K_1005, K_1006, K_1007, K_1008, K_1009, K_1010, K_1011, K_1012, K_1013, K_575, K_990, K_991, K_992, K_993, K_994, K_995, K_996, K_997, K_998, K_999, K_1000, K_1001, K_574] from rfl) ▸ by simp) hd)
  obtain ⟨z, M', e, -, -, alt, ha, q, p⟩ := cOK_I c0 (A := [.inr 62]) (show aF2 gW [aRef 62] [.inr 62] from ⟨gW_o, trivial⟩) hM (show gP0 [(60, 0, (0, 0, 0, 0, 0, 0)), (60, 3, (0, 0, 0, 0, 0, 0)), (60, 16, (0, 7, 7, 0, 0, 0)), (60, 38, (0, 0, 0, 0, 0, 0))] M from fun e he => by
    simp only [List.mem_cons, List.not_mem_nil, or_false] at he
    rcases he with rfl | rfl | rfl | rfl
    · exact gR_i p0.1 p0.2
    · exact gR_i p1.1 p1.2
    · exact gR_i p2.1 p2.2
    · exact gR_i p3.1 p3.2) rfl
  refine ⟨z, M', e, ?_⟩
  have ha : alt ∈ [(some (0, 0, 63, 0, 0, 0), [], [(60, 0, (0, 0, 0, 0, 0, 0)), (60, 3, (0, 0, 0, 0, 0, 0)), (60, 16, (0, 1, 1, 0, 0, 0)), (60, 17, (0, 0, 0, 0, 0, 0)), (60, 30, (0, 0, 0, 0, 0, 0)), (60, 38, (0, 0, 0, 0, 0, 0)), (60, 39, (0, 1, 1, 0, 0, 0)), (69, 0, (0, -2147483648, 2147483647, 0, 0, 0))])] := ha
  simp only [List.mem_cons, List.not_mem_nil, or_false] at ha
  rcases ha with rfl
  · obtain ⟨z2, e2, r⟩ := gW_int (show gW _ _ from q) (Nat.le_of_ble_eq_true rfl)
    cases e2
    have := gR0 r
    have w := gR0 (show gR (0, 1, 1, 0, 0, 0) (M' 60 16) from (p _ (List.mem_cons_of_mem _ (List.mem_cons_of_mem _ List.mem_cons_self))).1)
    exact ⟨this.1, this.2, w.1, w.2⟩
theorem nu_M_sell0_8 {d : Nat} (hd : 4 ≤ d) {M : pM} (hM : gM gAll M) (p0 : 0 ≤ M 60 0 ∧ M 60 0 ≤ 0) (p1 : 0 ≤ M 60 3 ∧ M 60 3 ≤ 0) (p2 : 8 ≤ M 60 16 ∧ M 60 16 ≤ 8) (p3 : 0 ≤ M 60 38 ∧ M 60 38 ≤ 0) : ∃ z M', xF d 246 [.inr 62] M = rI z M' ∧ ((0 ≤ z ∧ z ≤ 63 ∧ 1 ≤ M' 60 16 ∧ M' 60 16 ≤ 1)) := by
  have c0 : cOK gAll (xF d) 246 K_1010 := (ct_of (d := d) ct_ok (show K_1010 ∈ CT.getD 246 [] from (show CT.getD 246 [] = [K_1002, K_1003, K_1004, K_1005, K_1006, K_1007, K_1008, K_1009, K_1010, K_1011, K_1012, K_1013, K_575, K_990, K_991, K_992, K_993, K_994, K_995, K_996, K_997, K_998, K_999, K_1000, K_1001, K_574] from rfl) ▸ by simp) hd)
  obtain ⟨z, M', e, -, -, alt, ha, q, p⟩ := cOK_I c0 (A := [.inr 62]) (show aF2 gW [aRef 62] [.inr 62] from ⟨gW_o, trivial⟩) hM (show gP0 [(60, 0, (0, 0, 0, 0, 0, 0)), (60, 3, (0, 0, 0, 0, 0, 0)), (60, 16, (0, 8, 8, 0, 0, 0)), (60, 38, (0, 0, 0, 0, 0, 0))] M from fun e he => by
    simp only [List.mem_cons, List.not_mem_nil, or_false] at he
    rcases he with rfl | rfl | rfl | rfl
    · exact gR_i p0.1 p0.2
    · exact gR_i p1.1 p1.2
    · exact gR_i p2.1 p2.2
    · exact gR_i p3.1 p3.2) rfl
  refine ⟨z, M', e, ?_⟩
  have ha : alt ∈ [(some (0, 0, 63, 0, 0, 0), [], [(60, 0, (0, 0, 0, 0, 0, 0)), (60, 3, (0, 0, 0, 0, 0, 0)), (60, 16, (0, 1, 1, 0, 0, 0)), (60, 17, (0, 0, 0, 0, 0, 0)), (60, 30, (0, 0, 0, 0, 0, 0)), (60, 38, (0, 0, 0, 0, 0, 0)), (60, 39, (0, 1, 1, 0, 0, 0)), (69, 0, (0, -2147483648, 2147483647, 0, 0, 0))])] := ha
  simp only [List.mem_cons, List.not_mem_nil, or_false] at ha
  rcases ha with rfl
  · obtain ⟨z2, e2, r⟩ := gW_int (show gW _ _ from q) (Nat.le_of_ble_eq_true rfl)
    cases e2
    have := gR0 r
    have w := gR0 (show gR (0, 1, 1, 0, 0, 0) (M' 60 16) from (p _ (List.mem_cons_of_mem _ (List.mem_cons_of_mem _ List.mem_cons_self))).1)
    exact ⟨this.1, this.2, w.1, w.2⟩
theorem nu_M_sell0_9 {d : Nat} (hd : 4 ≤ d) {M : pM} (hM : gM gAll M) (p0 : 0 ≤ M 60 0 ∧ M 60 0 ≤ 0) (p1 : 0 ≤ M 60 3 ∧ M 60 3 ≤ 0) (p2 : 9 ≤ M 60 16 ∧ M 60 16 ≤ 9) (p3 : 0 ≤ M 60 38 ∧ M 60 38 ≤ 0) : ∃ z M', xF d 246 [.inr 62] M = rI z M' ∧ ((0 ≤ z ∧ z ≤ 63 ∧ 1 ≤ M' 60 16 ∧ M' 60 16 ≤ 1)) := by
  have c0 : cOK gAll (xF d) 246 K_1011 := (ct_of (d := d) ct_ok (show K_1011 ∈ CT.getD 246 [] from (show CT.getD 246 [] = [K_1002, K_1003, K_1004, K_1005, K_1006, K_1007, K_1008, K_1009, K_1010, K_1011, K_1012, K_1013, K_575, K_990, K_991, K_992, K_993, K_994, K_995, K_996, K_997, K_998, K_999, K_1000, K_1001, K_574] from rfl) ▸ by simp) hd)
  obtain ⟨z, M', e, -, -, alt, ha, q, p⟩ := cOK_I c0 (A := [.inr 62]) (show aF2 gW [aRef 62] [.inr 62] from ⟨gW_o, trivial⟩) hM (show gP0 [(60, 0, (0, 0, 0, 0, 0, 0)), (60, 3, (0, 0, 0, 0, 0, 0)), (60, 16, (0, 9, 9, 0, 0, 0)), (60, 38, (0, 0, 0, 0, 0, 0))] M from fun e he => by
    simp only [List.mem_cons, List.not_mem_nil, or_false] at he
    rcases he with rfl | rfl | rfl | rfl
    · exact gR_i p0.1 p0.2
    · exact gR_i p1.1 p1.2
    · exact gR_i p2.1 p2.2
    · exact gR_i p3.1 p3.2) rfl
  refine ⟨z, M', e, ?_⟩
  have ha : alt ∈ [(some (0, 0, 63, 0, 0, 0), [], [(60, 0, (0, 0, 0, 0, 0, 0)), (60, 3, (0, 0, 0, 0, 0, 0)), (60, 16, (0, 1, 1, 0, 0, 0)), (60, 17, (0, 0, 0, 0, 0, 0)), (60, 30, (0, 0, 0, 0, 0, 0)), (60, 38, (0, 0, 0, 0, 0, 0)), (60, 39, (0, 1, 1, 0, 0, 0)), (69, 0, (0, -2147483648, 2147483647, 0, 0, 0))])] := ha
  simp only [List.mem_cons, List.not_mem_nil, or_false] at ha
  rcases ha with rfl
  · obtain ⟨z2, e2, r⟩ := gW_int (show gW _ _ from q) (Nat.le_of_ble_eq_true rfl)
    cases e2
    have := gR0 r
    have w := gR0 (show gR (0, 1, 1, 0, 0, 0) (M' 60 16) from (p _ (List.mem_cons_of_mem _ (List.mem_cons_of_mem _ List.mem_cons_self))).1)
    exact ⟨this.1, this.2, w.1, w.2⟩
theorem nu_M_sell0_10 {d : Nat} (hd : 4 ≤ d) {M : pM} (hM : gM gAll M) (p0 : 0 ≤ M 60 0 ∧ M 60 0 ≤ 0) (p1 : 0 ≤ M 60 3 ∧ M 60 3 ≤ 0) (p2 : 10 ≤ M 60 16 ∧ M 60 16 ≤ 10) (p3 : 0 ≤ M 60 38 ∧ M 60 38 ≤ 0) : ∃ z M', xF d 246 [.inr 62] M = rI z M' ∧ ((0 ≤ z ∧ z ≤ 63 ∧ 1 ≤ M' 60 16 ∧ M' 60 16 ≤ 1)) := by
  have c0 : cOK gAll (xF d) 246 K_1012 := (ct_of (d := d) ct_ok (show K_1012 ∈ CT.getD 246 [] from (show CT.getD 246 [] = [K_1002, K_1003, K_1004, K_1005, K_1006, K_1007, K_1008, K_1009, K_1010, K_1011, K_1012, K_1013, K_575, K_990, K_991, K_992, K_993, K_994, K_995, K_996, K_997, K_998, K_999, K_1000, K_1001, K_574] from rfl) ▸ by simp) hd)
  obtain ⟨z, M', e, -, -, alt, ha, q, p⟩ := cOK_I c0 (A := [.inr 62]) (show aF2 gW [aRef 62] [.inr 62] from ⟨gW_o, trivial⟩) hM (show gP0 [(60, 0, (0, 0, 0, 0, 0, 0)), (60, 3, (0, 0, 0, 0, 0, 0)), (60, 16, (0, 10, 10, 0, 0, 0)), (60, 38, (0, 0, 0, 0, 0, 0))] M from fun e he => by
    simp only [List.mem_cons, List.not_mem_nil, or_false] at he
    rcases he with rfl | rfl | rfl | rfl
    · exact gR_i p0.1 p0.2
    · exact gR_i p1.1 p1.2
    · exact gR_i p2.1 p2.2
    · exact gR_i p3.1 p3.2) rfl
  refine ⟨z, M', e, ?_⟩
  have ha : alt ∈ [(some (0, 0, 63, 0, 0, 0), [], [(60, 0, (0, 0, 0, 0, 0, 0)), (60, 3, (0, 0, 0, 0, 0, 0)), (60, 16, (0, 1, 1, 0, 0, 0)), (60, 17, (0, 0, 0, 0, 0, 0)), (60, 30, (0, 0, 0, 0, 0, 0)), (60, 38, (0, 0, 0, 0, 0, 0)), (60, 39, (0, 1, 1, 0, 0, 0)), (69, 0, (0, -2147483648, 2147483647, 0, 0, 0))])] := ha
  simp only [List.mem_cons, List.not_mem_nil, or_false] at ha
  rcases ha with rfl
  · obtain ⟨z2, e2, r⟩ := gW_int (show gW _ _ from q) (Nat.le_of_ble_eq_true rfl)
    cases e2
    have := gR0 r
    have w := gR0 (show gR (0, 1, 1, 0, 0, 0) (M' 60 16) from (p _ (List.mem_cons_of_mem _ (List.mem_cons_of_mem _ List.mem_cons_self))).1)
    exact ⟨this.1, this.2, w.1, w.2⟩
theorem nu_M_sell0_11 {d : Nat} (hd : 4 ≤ d) {M : pM} (hM : gM gAll M) (p0 : 0 ≤ M 60 0 ∧ M 60 0 ≤ 0) (p1 : 0 ≤ M 60 3 ∧ M 60 3 ≤ 0) (p2 : 11 ≤ M 60 16 ∧ M 60 16 ≤ 11) (p3 : 0 ≤ M 60 38 ∧ M 60 38 ≤ 0) : ∃ z M', xF d 246 [.inr 62] M = rI z M' ∧ ((0 ≤ z ∧ z ≤ 63 ∧ 1 ≤ M' 60 16 ∧ M' 60 16 ≤ 1)) := by
  have c0 : cOK gAll (xF d) 246 K_1013 := (ct_of (d := d) ct_ok (show K_1013 ∈ CT.getD 246 [] from (show CT.getD 246 [] = [K_1002, K_1003, K_1004, K_1005, K_1006, K_1007, K_1008, K_1009, K_1010, K_1011, K_1012, K_1013, K_575, K_990, K_991, K_992, K_993, K_994, K_995, K_996, K_997, K_998, K_999, K_1000, K_1001, K_574] from rfl) ▸ by simp) hd)
  obtain ⟨z, M', e, -, -, alt, ha, q, p⟩ := cOK_I c0 (A := [.inr 62]) (show aF2 gW [aRef 62] [.inr 62] from ⟨gW_o, trivial⟩) hM (show gP0 [(60, 0, (0, 0, 0, 0, 0, 0)), (60, 3, (0, 0, 0, 0, 0, 0)), (60, 16, (0, 11, 11, 0, 0, 0)), (60, 38, (0, 0, 0, 0, 0, 0))] M from fun e he => by
    simp only [List.mem_cons, List.not_mem_nil, or_false] at he
    rcases he with rfl | rfl | rfl | rfl
    · exact gR_i p0.1 p0.2
    · exact gR_i p1.1 p1.2
    · exact gR_i p2.1 p2.2
    · exact gR_i p3.1 p3.2) rfl
  refine ⟨z, M', e, ?_⟩
  have ha : alt ∈ [(some (0, 0, 63, 0, 0, 0), [], [(60, 0, (0, 0, 0, 0, 0, 0)), (60, 3, (0, 0, 0, 0, 0, 0)), (60, 16, (0, 1, 1, 0, 0, 0)), (60, 17, (0, 0, 0, 0, 0, 0)), (60, 30, (0, 0, 0, 0, 0, 0)), (60, 38, (0, 0, 0, 0, 0, 0)), (60, 39, (0, 1, 1, 0, 0, 0)), (69, 0, (0, -2147483648, 2147483647, 0, 0, 0))])] := ha
  simp only [List.mem_cons, List.not_mem_nil, or_false] at ha
  rcases ha with rfl
  · obtain ⟨z2, e2, r⟩ := gW_int (show gW _ _ from q) (Nat.le_of_ble_eq_true rfl)
    cases e2
    have := gR0 r
    have w := gR0 (show gR (0, 1, 1, 0, 0, 0) (M' 60 16) from (p _ (List.mem_cons_of_mem _ (List.mem_cons_of_mem _ List.mem_cons_self))).1)
    exact ⟨this.1, this.2, w.1, w.2⟩
theorem nu_M_sell0 {d : Nat} (hd : 4 ≤ d) {M M' : pM} {v : Int} (hM : gM gAll M) (p0 : 0 ≤ M 60 0 ∧ M 60 0 ≤ 0) (p1 : 0 ≤ M 60 3 ∧ M 60 3 ≤ 0) (p2 : 0 ≤ M 60 38 ∧ M 60 38 ≤ 0) {n : Nat} (hn : n ≤ 11) (hc : M 60 16 = (n : Int)) (e : xF d 246 [.inr 62] M = rI v M') : (0 ≤ v ∧ v ≤ 63 ∧ M' 60 16 = 1) := by
  rcases (show n = 0 ∨ n = 1 ∨ n = 2 ∨ n = 3 ∨ n = 4 ∨ n = 5 ∨ n = 6 ∨ n = 7 ∨ n = 8 ∨ n = 9 ∨ n = 10 ∨ n = 11 by omega) with rfl | rfl | rfl | rfl | rfl | rfl | rfl | rfl | rfl | rfl | rfl | rfl
  · obtain ⟨z, M2, e2, r⟩ := nu_M_sell0_0 (d := d) (by omega) hM p0 p1 (by omega) p2
    obtain ⟨y1, y2⟩ := rI_inj (e.symm.trans e2)
    rw [y1, y2]
    exact by omega
  · obtain ⟨z, M2, e2, r⟩ := nu_M_sell0_1 (d := d) (by omega) hM p0 p1 (by omega) p2
    obtain ⟨y1, y2⟩ := rI_inj (e.symm.trans e2)
    rw [y1, y2]
    exact by omega
  · obtain ⟨z, M2, e2, r⟩ := nu_M_sell0_2 (d := d) (by omega) hM p0 p1 (by omega) p2
    obtain ⟨y1, y2⟩ := rI_inj (e.symm.trans e2)
    rw [y1, y2]
    exact by omega
  · obtain ⟨z, M2, e2, r⟩ := nu_M_sell0_3 (d := d) (by omega) hM p0 p1 (by omega) p2
    obtain ⟨y1, y2⟩ := rI_inj (e.symm.trans e2)
    rw [y1, y2]
    exact by omega
  · obtain ⟨z, M2, e2, r⟩ := nu_M_sell0_4 (d := d) (by omega) hM p0 p1 (by omega) p2
    obtain ⟨y1, y2⟩ := rI_inj (e.symm.trans e2)
    rw [y1, y2]
    exact by omega
  · obtain ⟨z, M2, e2, r⟩ := nu_M_sell0_5 (d := d) (by omega) hM p0 p1 (by omega) p2
    obtain ⟨y1, y2⟩ := rI_inj (e.symm.trans e2)
    rw [y1, y2]
    exact by omega
  · obtain ⟨z, M2, e2, r⟩ := nu_M_sell0_6 (d := d) (by omega) hM p0 p1 (by omega) p2
    obtain ⟨y1, y2⟩ := rI_inj (e.symm.trans e2)
    rw [y1, y2]
    exact by omega
  · obtain ⟨z, M2, e2, r⟩ := nu_M_sell0_7 (d := d) (by omega) hM p0 p1 (by omega) p2
    obtain ⟨y1, y2⟩ := rI_inj (e.symm.trans e2)
    rw [y1, y2]
    exact by omega
  · obtain ⟨z, M2, e2, r⟩ := nu_M_sell0_8 (d := d) (by omega) hM p0 p1 (by omega) p2
    obtain ⟨y1, y2⟩ := rI_inj (e.symm.trans e2)
    rw [y1, y2]
    exact by omega
  · obtain ⟨z, M2, e2, r⟩ := nu_M_sell0_9 (d := d) (by omega) hM p0 p1 (by omega) p2
    obtain ⟨y1, y2⟩ := rI_inj (e.symm.trans e2)
    rw [y1, y2]
    exact by omega
  · obtain ⟨z, M2, e2, r⟩ := nu_M_sell0_10 (d := d) (by omega) hM p0 p1 (by omega) p2
    obtain ⟨y1, y2⟩ := rI_inj (e.symm.trans e2)
    rw [y1, y2]
    exact by omega
  · obtain ⟨z, M2, e2, r⟩ := nu_M_sell0_11 (d := d) (by omega) hM p0 p1 (by omega) p2
    obtain ⟨y1, y2⟩ := rI_inj (e.symm.trans e2)
    rw [y1, y2]
    exact by omega
theorem nt_M_near1_0 {d : Nat} (hd : 5 ≤ d) {M : pM} (hM : gM gAll M) (p0 : 1 ≤ M 60 0 ∧ M 60 0 ≤ 6) (p1 : 0 ≤ M 60 3 ∧ M 60 3 ≤ 0) : ∃ z M', xF d 238 [.inr 62] M = rI z M' ∧ ((-2 ≤ z ∧ z ≤ -2) ∨ (0 ≤ z ∧ z ≤ 999999 ∧ 0 ≤ M' 60 16 ∧ M' 60 16 ≤ 0)) := by
  have c0 : cOK gAll (xF d) 238 K_1018 := (ct_of (d := d) ct_ok (show K_1018 ∈ CT.getD 238 [] from (show CT.getD 238 [] = [K_919, K_921, K_923, K_925, K_927, K_929, K_931, K_933, K_935, K_937, K_939, K_941, K_551, K_1018, K_895, K_897, K_899, K_901, K_903, K_905, K_907, K_909, K_911, K_913, K_915, K_917, K_1024, K_1030, K_1036, K_1042, K_1048, K_1054, K_1060, K_1066, K_1072, K_1078, K_549] from rfl) ▸ by simp) hd)
  obtain ⟨z, M', e, -, -, alt, ha, q, p⟩ := cOK_I c0 (A := [.inr 62]) (show aF2 gW [aRef 62] [.inr 62] from ⟨gW_o, trivial⟩) hM (show gP0 [(60, 0, (0, 1, 6, 0, 0, 0)), (60, 3, (0, 0, 0, 0, 0, 0))] M from fun e he => by
    simp only [List.mem_cons, List.not_mem_nil, or_false] at he
    rcases he with rfl | rfl
    · exact gR_i p0.1 p0.2
    · exact gR_i p1.1 p1.2) rfl
  refine ⟨z, M', e, ?_⟩
  have ha : alt ∈ [(some (0, -2, -2, 0, 0, 0), [], [(60, 0, (0, 1, 6, 0, 0, 0)), (60, 3, (0, 0, 0, 0, 0, 0)), (60, 17, (0, 0, 0, 0, 0, 0)), (60, 30, (0, 0, 0, 0, 0, 0)), (60, 39, (0, 1, 1, 0, 0, 0)), (60, 40, (0, 0, 1000000, 0, 0, 0))]), (some (0, 0, 999999, 0, 0, 0), [], [(60, 0, (0, 1, 6, 0, 0, 0)), (60, 3, (0, 0, 0, 0, 0, 0)), (60, 16, (0, 0, 0, 0, 0, 0)), (60, 17, (0, 0, 0, 0, 0, 0)), (60, 30, (0, 0, 0, 0, 0, 0)), (60, 39, (0, 1, 1, 0, 0, 0)), (60, 40, (0, 0, 1000000, 0, 0, 0))])] := ha
  simp only [List.mem_cons, List.not_mem_nil, or_false] at ha
  rcases ha with rfl | rfl
  · obtain ⟨z2, e2, r⟩ := gW_int (show gW _ _ from q) (Nat.le_of_ble_eq_true rfl)
    cases e2
    have := gR0 r
    exact Or.inl ⟨this.1, this.2⟩
  · obtain ⟨z2, e2, r⟩ := gW_int (show gW _ _ from q) (Nat.le_of_ble_eq_true rfl)
    cases e2
    have := gR0 r
    have w := gR0 (show gR (0, 0, 0, 0, 0, 0) (M' 60 16) from (p _ (List.mem_cons_of_mem _ (List.mem_cons_of_mem _ List.mem_cons_self))).1)
    exact Or.inr ⟨this.1, this.2, w.1, w.2⟩
theorem nt_M_near1_1 {d : Nat} (hd : 5 ≤ d) {M : pM} (hM : gM gAll M) (p0 : 1 ≤ M 60 0 ∧ M 60 0 ≤ 6) (p1 : 1 ≤ M 60 3 ∧ M 60 3 ≤ 1) : ∃ z M', xF d 238 [.inr 62] M = rI z M' ∧ ((-2 ≤ z ∧ z ≤ -2) ∨ (-3 ≤ z ∧ z ≤ -3) ∨ (0 ≤ z ∧ z ≤ 999999 ∧ 1 ≤ M' 60 16 ∧ M' 60 16 ≤ 1)) := by
  have c0 : cOK gAll (xF d) 238 K_1024 := (ct_of (d := d) ct_ok (show K_1024 ∈ CT.getD 238 [] from (show CT.getD 238 [] = [K_919, K_921, K_923, K_925, K_927, K_929, K_931, K_933, K_935, K_937, K_939, K_941, K_551, K_1018, K_895, K_897, K_899, K_901, K_903, K_905, K_907, K_909, K_911, K_913, K_915, K_917, K_1024, K_1030, K_1036, K_1042, K_1048, K_1054, K_1060, K_1066, K_1072, K_1078, K_549] from rfl) ▸ by simp) hd)
  obtain ⟨z, M', e, -, -, alt, ha, q, p⟩ := cOK_I c0 (A := [.inr 62]) (show aF2 gW [aRef 62] [.inr 62] from ⟨gW_o, trivial⟩) hM (show gP0 [(60, 0, (0, 1, 6, 0, 0, 0)), (60, 3, (0, 1, 1, 0, 0, 0))] M from fun e he => by
    simp only [List.mem_cons, List.not_mem_nil, or_false] at he
    rcases he with rfl | rfl
    · exact gR_i p0.1 p0.2
    · exact gR_i p1.1 p1.2) rfl
  refine ⟨z, M', e, ?_⟩
  have ha : alt ∈ [(some (0, -2, -2, 0, 0, 0), [], [(60, 0, (0, 1, 6, 0, 0, 0)), (60, 3, (0, 1, 1, 0, 0, 0)), (60, 17, (0, 0, 0, 0, 0, 0)), (60, 39, (0, 1, 20000, 0, 0, 0)), (60, 40, (0, 0, 1000000, 0, 0, 0))]), (some (0, -3, -3, 0, 0, 0), [], [(60, 0, (0, 1, 6, 0, 0, 0)), (60, 3, (0, 1, 1, 0, 0, 0)), (60, 17, (0, 0, 0, 0, 0, 0)), (60, 39, (0, 20001, 1000000, 0, 0, 0))]), (some (0, 0, 999999, 0, 0, 0), [], [(60, 0, (0, 1, 6, 0, 0, 0)), (60, 3, (0, 1, 1, 0, 0, 0)), (60, 16, (0, 1, 1, 0, 0, 0)), (60, 17, (0, 0, 0, 0, 0, 0)), (60, 39, (0, 1, 20000, 0, 0, 0)), (60, 40, (0, 0, 1000000, 0, 0, 0)), (69, 0, (0, -2147483648, 2147483647, 0, 0, 0))])] := ha
  simp only [List.mem_cons, List.not_mem_nil, or_false] at ha
  rcases ha with rfl | rfl | rfl
  · obtain ⟨z2, e2, r⟩ := gW_int (show gW _ _ from q) (Nat.le_of_ble_eq_true rfl)
    cases e2
    have := gR0 r
    exact Or.inl ⟨this.1, this.2⟩
  · obtain ⟨z2, e2, r⟩ := gW_int (show gW _ _ from q) (Nat.le_of_ble_eq_true rfl)
    cases e2
    have := gR0 r
    exact Or.inr (Or.inl ⟨this.1, this.2⟩)
  · obtain ⟨z2, e2, r⟩ := gW_int (show gW _ _ from q) (Nat.le_of_ble_eq_true rfl)
    cases e2
    have := gR0 r
    have w := gR0 (show gR (0, 1, 1, 0, 0, 0) (M' 60 16) from (p _ (List.mem_cons_of_mem _ (List.mem_cons_of_mem _ List.mem_cons_self))).1)
    exact Or.inr (Or.inr ⟨this.1, this.2, w.1, w.2⟩)
theorem nt_M_near1_2 {d : Nat} (hd : 5 ≤ d) {M : pM} (hM : gM gAll M) (p0 : 1 ≤ M 60 0 ∧ M 60 0 ≤ 6) (p1 : 2 ≤ M 60 3 ∧ M 60 3 ≤ 2) : ∃ z M', xF d 238 [.inr 62] M = rI z M' ∧ ((-2 ≤ z ∧ z ≤ -2) ∨ (-3 ≤ z ∧ z ≤ -3) ∨ (0 ≤ z ∧ z ≤ 999999 ∧ 2 ≤ M' 60 16 ∧ M' 60 16 ≤ 2)) := by
  have c0 : cOK gAll (xF d) 238 K_1030 := (ct_of (d := d) ct_ok (show K_1030 ∈ CT.getD 238 [] from (show CT.getD 238 [] = [K_919, K_921, K_923, K_925, K_927, K_929, K_931, K_933, K_935, K_937, K_939, K_941, K_551, K_1018, K_895, K_897, K_899, K_901, K_903, K_905, K_907, K_909, K_911, K_913, K_915, K_917, K_1024, K_1030, K_1036, K_1042, K_1048, K_1054, K_1060, K_1066, K_1072, K_1078, K_549] from rfl) ▸ by simp) hd)
  obtain ⟨z, M', e, -, -, alt, ha, q, p⟩ := cOK_I c0 (A := [.inr 62]) (show aF2 gW [aRef 62] [.inr 62] from ⟨gW_o, trivial⟩) hM (show gP0 [(60, 0, (0, 1, 6, 0, 0, 0)), (60, 3, (0, 2, 2, 0, 0, 0))] M from fun e he => by
    simp only [List.mem_cons, List.not_mem_nil, or_false] at he
    rcases he with rfl | rfl
    · exact gR_i p0.1 p0.2
    · exact gR_i p1.1 p1.2) rfl
  refine ⟨z, M', e, ?_⟩
  have ha : alt ∈ [(some (0, -2, -2, 0, 0, 0), [], [(60, 0, (0, 1, 6, 0, 0, 0)), (60, 3, (0, 2, 2, 0, 0, 0)), (60, 17, (0, 0, 0, 0, 0, 0)), (60, 39, (0, 1, 20000, 0, 0, 0)), (60, 40, (0, 0, 1000000, 0, 0, 0))]), (some (0, -3, -3, 0, 0, 0), [], [(60, 0, (0, 1, 6, 0, 0, 0)), (60, 3, (0, 2, 2, 0, 0, 0)), (60, 17, (0, 0, 0, 0, 0, 0)), (60, 39, (0, 20001, 1000000, 0, 0, 0))]), (some (0, 0, 999999, 0, 0, 0), [], [(60, 0, (0, 1, 6, 0, 0, 0)), (60, 3, (0, 2, 2, 0, 0, 0)), (60, 16, (0, 2, 2, 0, 0, 0)), (60, 17, (0, 0, 0, 0, 0, 0)), (60, 39, (0, 1, 20000, 0, 0, 0)), (60, 40, (0, 0, 1000000, 0, 0, 0)), (69, 1, (0, -2147483648, 2147483647, 0, 0, 0))])] := ha
  simp only [List.mem_cons, List.not_mem_nil, or_false] at ha
  rcases ha with rfl | rfl | rfl
  · obtain ⟨z2, e2, r⟩ := gW_int (show gW _ _ from q) (Nat.le_of_ble_eq_true rfl)
    cases e2
    have := gR0 r
    exact Or.inl ⟨this.1, this.2⟩
  · obtain ⟨z2, e2, r⟩ := gW_int (show gW _ _ from q) (Nat.le_of_ble_eq_true rfl)
    cases e2
    have := gR0 r
    exact Or.inr (Or.inl ⟨this.1, this.2⟩)
  · obtain ⟨z2, e2, r⟩ := gW_int (show gW _ _ from q) (Nat.le_of_ble_eq_true rfl)
    cases e2
    have := gR0 r
    have w := gR0 (show gR (0, 2, 2, 0, 0, 0) (M' 60 16) from (p _ (List.mem_cons_of_mem _ (List.mem_cons_of_mem _ List.mem_cons_self))).1)
    exact Or.inr (Or.inr ⟨this.1, this.2, w.1, w.2⟩)
theorem nt_M_near1_3 {d : Nat} (hd : 5 ≤ d) {M : pM} (hM : gM gAll M) (p0 : 1 ≤ M 60 0 ∧ M 60 0 ≤ 6) (p1 : 3 ≤ M 60 3 ∧ M 60 3 ≤ 3) : ∃ z M', xF d 238 [.inr 62] M = rI z M' ∧ ((-2 ≤ z ∧ z ≤ -2) ∨ (-3 ≤ z ∧ z ≤ -3) ∨ (0 ≤ z ∧ z ≤ 999999 ∧ 3 ≤ M' 60 16 ∧ M' 60 16 ≤ 3)) := by
  have c0 : cOK gAll (xF d) 238 K_1036 := (ct_of (d := d) ct_ok (show K_1036 ∈ CT.getD 238 [] from (show CT.getD 238 [] = [K_919, K_921, K_923, K_925, K_927, K_929, K_931, K_933, K_935, K_937, K_939, K_941, K_551, K_1018, K_895, K_897, K_899, K_901, K_903, K_905, K_907, K_909, K_911, K_913, K_915, K_917, K_1024, K_1030, K_1036, K_1042, K_1048, K_1054, K_1060, K_1066, K_1072, K_1078, K_549] from rfl) ▸ by simp) hd)
  obtain ⟨z, M', e, -, -, alt, ha, q, p⟩ := cOK_I c0 (A := [.inr 62]) (show aF2 gW [aRef 62] [.inr 62] from ⟨gW_o, trivial⟩) hM (show gP0 [(60, 0, (0, 1, 6, 0, 0, 0)), (60, 3, (0, 3, 3, 0, 0, 0))] M from fun e he => by
    simp only [List.mem_cons, List.not_mem_nil, or_false] at he
    rcases he with rfl | rfl
    · exact gR_i p0.1 p0.2
    · exact gR_i p1.1 p1.2) rfl
  refine ⟨z, M', e, ?_⟩
  have ha : alt ∈ [(some (0, -2, -2, 0, 0, 0), [], [(60, 0, (0, 1, 6, 0, 0, 0)), (60, 3, (0, 3, 3, 0, 0, 0)), (60, 17, (0, 0, 0, 0, 0, 0)), (60, 39, (0, 1, 20000, 0, 0, 0)), (60, 40, (0, 0, 1000000, 0, 0, 0))]), (some (0, -3, -3, 0, 0, 0), [], [(60, 0, (0, 1, 6, 0, 0, 0)), (60, 3, (0, 3, 3, 0, 0, 0)), (60, 17, (0, 0, 0, 0, 0, 0)), (60, 39, (0, 20001, 1000000, 0, 0, 0))]), (some (0, 0, 999999, 0, 0, 0), [], [(60, 0, (0, 1, 6, 0, 0, 0)), (60, 3, (0, 3, 3, 0, 0, 0)), (60, 16, (0, 3, 3, 0, 0, 0)), (60, 17, (0, 0, 0, 0, 0, 0)), (60, 39, (0, 1, 20000, 0, 0, 0)), (60, 40, (0, 0, 1000000, 0, 0, 0)), (69, 2, (0, -2147483648, 2147483647, 0, 0, 0))])] := ha
  simp only [List.mem_cons, List.not_mem_nil, or_false] at ha
  rcases ha with rfl | rfl | rfl
  · obtain ⟨z2, e2, r⟩ := gW_int (show gW _ _ from q) (Nat.le_of_ble_eq_true rfl)
    cases e2
    have := gR0 r
    exact Or.inl ⟨this.1, this.2⟩
  · obtain ⟨z2, e2, r⟩ := gW_int (show gW _ _ from q) (Nat.le_of_ble_eq_true rfl)
    cases e2
    have := gR0 r
    exact Or.inr (Or.inl ⟨this.1, this.2⟩)
  · obtain ⟨z2, e2, r⟩ := gW_int (show gW _ _ from q) (Nat.le_of_ble_eq_true rfl)
    cases e2
    have := gR0 r
    have w := gR0 (show gR (0, 3, 3, 0, 0, 0) (M' 60 16) from (p _ (List.mem_cons_of_mem _ (List.mem_cons_of_mem _ List.mem_cons_self))).1)
    exact Or.inr (Or.inr ⟨this.1, this.2, w.1, w.2⟩)
theorem nt_M_near1_4 {d : Nat} (hd : 5 ≤ d) {M : pM} (hM : gM gAll M) (p0 : 1 ≤ M 60 0 ∧ M 60 0 ≤ 6) (p1 : 4 ≤ M 60 3 ∧ M 60 3 ≤ 4) : ∃ z M', xF d 238 [.inr 62] M = rI z M' ∧ ((-2 ≤ z ∧ z ≤ -2) ∨ (-3 ≤ z ∧ z ≤ -3) ∨ (0 ≤ z ∧ z ≤ 999999 ∧ 4 ≤ M' 60 16 ∧ M' 60 16 ≤ 4)) := by
  have c0 : cOK gAll (xF d) 238 K_1042 := (ct_of (d := d) ct_ok (show K_1042 ∈ CT.getD 238 [] from (show CT.getD 238 [] = [K_919, K_921, K_923, K_925, K_927, K_929, K_931, K_933, K_935, K_937, K_939, K_941, K_551, K_1018, K_895, K_897, K_899, K_901, K_903, K_905, K_907, K_909, K_911, K_913, K_915, K_917, K_1024, K_1030, K_1036, K_1042, K_1048, K_1054, K_1060, K_1066, K_1072, K_1078, K_549] from rfl) ▸ by simp) hd)
  obtain ⟨z, M', e, -, -, alt, ha, q, p⟩ := cOK_I c0 (A := [.inr 62]) (show aF2 gW [aRef 62] [.inr 62] from ⟨gW_o, trivial⟩) hM (show gP0 [(60, 0, (0, 1, 6, 0, 0, 0)), (60, 3, (0, 4, 4, 0, 0, 0))] M from fun e he => by
    simp only [List.mem_cons, List.not_mem_nil, or_false] at he
    rcases he with rfl | rfl
    · exact gR_i p0.1 p0.2
    · exact gR_i p1.1 p1.2) rfl
  refine ⟨z, M', e, ?_⟩
  have ha : alt ∈ [(some (0, -2, -2, 0, 0, 0), [], [(60, 0, (0, 1, 6, 0, 0, 0)), (60, 3, (0, 4, 4, 0, 0, 0)), (60, 17, (0, 0, 0, 0, 0, 0)), (60, 39, (0, 1, 20000, 0, 0, 0)), (60, 40, (0, 0, 1000000, 0, 0, 0))]), (some (0, -3, -3, 0, 0, 0), [], [(60, 0, (0, 1, 6, 0, 0, 0)), (60, 3, (0, 4, 4, 0, 0, 0)), (60, 17, (0, 0, 0, 0, 0, 0)), (60, 39, (0, 20001, 1000000, 0, 0, 0))]), (some (0, 0, 999999, 0, 0, 0), [], [(60, 0, (0, 1, 6, 0, 0, 0)), (60, 3, (0, 4, 4, 0, 0, 0)), (60, 16, (0, 4, 4, 0, 0, 0)), (60, 17, (0, 0, 0, 0, 0, 0)), (60, 39, (0, 1, 20000, 0, 0, 0)), (60, 40, (0, 0, 1000000, 0, 0, 0)), (69, 3, (0, -2147483648, 2147483647, 0, 0, 0))])] := ha
  simp only [List.mem_cons, List.not_mem_nil, or_false] at ha
  rcases ha with rfl | rfl | rfl
  · obtain ⟨z2, e2, r⟩ := gW_int (show gW _ _ from q) (Nat.le_of_ble_eq_true rfl)
    cases e2
    have := gR0 r
    exact Or.inl ⟨this.1, this.2⟩
  · obtain ⟨z2, e2, r⟩ := gW_int (show gW _ _ from q) (Nat.le_of_ble_eq_true rfl)
    cases e2
    have := gR0 r
    exact Or.inr (Or.inl ⟨this.1, this.2⟩)
  · obtain ⟨z2, e2, r⟩ := gW_int (show gW _ _ from q) (Nat.le_of_ble_eq_true rfl)
    cases e2
    have := gR0 r
    have w := gR0 (show gR (0, 4, 4, 0, 0, 0) (M' 60 16) from (p _ (List.mem_cons_of_mem _ (List.mem_cons_of_mem _ List.mem_cons_self))).1)
    exact Or.inr (Or.inr ⟨this.1, this.2, w.1, w.2⟩)
theorem nt_M_near1_5 {d : Nat} (hd : 5 ≤ d) {M : pM} (hM : gM gAll M) (p0 : 1 ≤ M 60 0 ∧ M 60 0 ≤ 6) (p1 : 5 ≤ M 60 3 ∧ M 60 3 ≤ 5) : ∃ z M', xF d 238 [.inr 62] M = rI z M' ∧ ((-2 ≤ z ∧ z ≤ -2) ∨ (-3 ≤ z ∧ z ≤ -3) ∨ (0 ≤ z ∧ z ≤ 999999 ∧ 5 ≤ M' 60 16 ∧ M' 60 16 ≤ 5)) := by
  have c0 : cOK gAll (xF d) 238 K_1048 := (ct_of (d := d) ct_ok (show K_1048 ∈ CT.getD 238 [] from (show CT.getD 238 [] = [K_919, K_921, K_923, K_925, K_927, K_929, K_931, K_933, K_935, K_937, K_939, K_941, K_551, K_1018, K_895, K_897, K_899, K_901, K_903, K_905, K_907, K_909, K_911, K_913, K_915, K_917, K_1024, K_1030, K_1036, K_1042, K_1048, K_1054, K_1060, K_1066, K_1072, K_1078, K_549] from rfl) ▸ by simp) hd)
  obtain ⟨z, M', e, -, -, alt, ha, q, p⟩ := cOK_I c0 (A := [.inr 62]) (show aF2 gW [aRef 62] [.inr 62] from ⟨gW_o, trivial⟩) hM (show gP0 [(60, 0, (0, 1, 6, 0, 0, 0)), (60, 3, (0, 5, 5, 0, 0, 0))] M from fun e he => by
    simp only [List.mem_cons, List.not_mem_nil, or_false] at he
    rcases he with rfl | rfl
    · exact gR_i p0.1 p0.2
    · exact gR_i p1.1 p1.2) rfl
  refine ⟨z, M', e, ?_⟩
  have ha : alt ∈ [(some (0, -2, -2, 0, 0, 0), [], [(60, 0, (0, 1, 6, 0, 0, 0)), (60, 3, (0, 5, 5, 0, 0, 0)), (60, 17, (0, 0, 0, 0, 0, 0)), (60, 39, (0, 1, 20000, 0, 0, 0)), (60, 40, (0, 0, 1000000, 0, 0, 0))]), (some (0, -3, -3, 0, 0, 0), [], [(60, 0, (0, 1, 6, 0, 0, 0)), (60, 3, (0, 5, 5, 0, 0, 0)), (60, 17, (0, 0, 0, 0, 0, 0)), (60, 39, (0, 20001, 1000000, 0, 0, 0))]), (some (0, 0, 999999, 0, 0, 0), [], [(60, 0, (0, 1, 6, 0, 0, 0)), (60, 3, (0, 5, 5, 0, 0, 0)), (60, 16, (0, 5, 5, 0, 0, 0)), (60, 17, (0, 0, 0, 0, 0, 0)), (60, 39, (0, 1, 20000, 0, 0, 0)), (60, 40, (0, 0, 1000000, 0, 0, 0)), (69, 4, (0, -2147483648, 2147483647, 0, 0, 0))])] := ha
  simp only [List.mem_cons, List.not_mem_nil, or_false] at ha
  rcases ha with rfl | rfl | rfl
  · obtain ⟨z2, e2, r⟩ := gW_int (show gW _ _ from q) (Nat.le_of_ble_eq_true rfl)
    cases e2
    have := gR0 r
    exact Or.inl ⟨this.1, this.2⟩
  · obtain ⟨z2, e2, r⟩ := gW_int (show gW _ _ from q) (Nat.le_of_ble_eq_true rfl)
    cases e2
    have := gR0 r
    exact Or.inr (Or.inl ⟨this.1, this.2⟩)
  · obtain ⟨z2, e2, r⟩ := gW_int (show gW _ _ from q) (Nat.le_of_ble_eq_true rfl)
    cases e2
    have := gR0 r
    have w := gR0 (show gR (0, 5, 5, 0, 0, 0) (M' 60 16) from (p _ (List.mem_cons_of_mem _ (List.mem_cons_of_mem _ List.mem_cons_self))).1)
    exact Or.inr (Or.inr ⟨this.1, this.2, w.1, w.2⟩)
theorem nt_M_near1_6 {d : Nat} (hd : 5 ≤ d) {M : pM} (hM : gM gAll M) (p0 : 1 ≤ M 60 0 ∧ M 60 0 ≤ 6) (p1 : 6 ≤ M 60 3 ∧ M 60 3 ≤ 6) : ∃ z M', xF d 238 [.inr 62] M = rI z M' ∧ ((-2 ≤ z ∧ z ≤ -2) ∨ (-3 ≤ z ∧ z ≤ -3) ∨ (0 ≤ z ∧ z ≤ 999999 ∧ 6 ≤ M' 60 16 ∧ M' 60 16 ≤ 6)) := by
  have c0 : cOK gAll (xF d) 238 K_1054 := (ct_of (d := d) ct_ok (show K_1054 ∈ CT.getD 238 [] from (show CT.getD 238 [] = [K_919, K_921, K_923, K_925, K_927, K_929, K_931, K_933, K_935, K_937, K_939, K_941, K_551, K_1018, K_895, K_897, K_899, K_901, K_903, K_905, K_907, K_909, K_911, K_913, K_915, K_917, K_1024, K_1030, K_1036, K_1042, K_1048, K_1054, K_1060, K_1066, K_1072, K_1078, K_549] from rfl) ▸ by simp) hd)
  obtain ⟨z, M', e, -, -, alt, ha, q, p⟩ := cOK_I c0 (A := [.inr 62]) (show aF2 gW [aRef 62] [.inr 62] from ⟨gW_o, trivial⟩) hM (show gP0 [(60, 0, (0, 1, 6, 0, 0, 0)), (60, 3, (0, 6, 6, 0, 0, 0))] M from fun e he => by
    simp only [List.mem_cons, List.not_mem_nil, or_false] at he
    rcases he with rfl | rfl
    · exact gR_i p0.1 p0.2
    · exact gR_i p1.1 p1.2) rfl
  refine ⟨z, M', e, ?_⟩
  have ha : alt ∈ [(some (0, -2, -2, 0, 0, 0), [], [(60, 0, (0, 1, 6, 0, 0, 0)), (60, 3, (0, 6, 6, 0, 0, 0)), (60, 17, (0, 0, 0, 0, 0, 0)), (60, 39, (0, 1, 20000, 0, 0, 0)), (60, 40, (0, 0, 1000000, 0, 0, 0))]), (some (0, -3, -3, 0, 0, 0), [], [(60, 0, (0, 1, 6, 0, 0, 0)), (60, 3, (0, 6, 6, 0, 0, 0)), (60, 17, (0, 0, 0, 0, 0, 0)), (60, 39, (0, 20001, 1000000, 0, 0, 0))]), (some (0, 0, 999999, 0, 0, 0), [], [(60, 0, (0, 1, 6, 0, 0, 0)), (60, 3, (0, 6, 6, 0, 0, 0)), (60, 16, (0, 6, 6, 0, 0, 0)), (60, 17, (0, 0, 0, 0, 0, 0)), (60, 39, (0, 1, 20000, 0, 0, 0)), (60, 40, (0, 0, 1000000, 0, 0, 0)), (69, 5, (0, -2147483648, 2147483647, 0, 0, 0))])] := ha
  simp only [List.mem_cons, List.not_mem_nil, or_false] at ha
  rcases ha with rfl | rfl | rfl
  · obtain ⟨z2, e2, r⟩ := gW_int (show gW _ _ from q) (Nat.le_of_ble_eq_true rfl)
    cases e2
    have := gR0 r
    exact Or.inl ⟨this.1, this.2⟩
  · obtain ⟨z2, e2, r⟩ := gW_int (show gW _ _ from q) (Nat.le_of_ble_eq_true rfl)
    cases e2
    have := gR0 r
    exact Or.inr (Or.inl ⟨this.1, this.2⟩)
  · obtain ⟨z2, e2, r⟩ := gW_int (show gW _ _ from q) (Nat.le_of_ble_eq_true rfl)
    cases e2
    have := gR0 r
    have w := gR0 (show gR (0, 6, 6, 0, 0, 0) (M' 60 16) from (p _ (List.mem_cons_of_mem _ (List.mem_cons_of_mem _ List.mem_cons_self))).1)
    exact Or.inr (Or.inr ⟨this.1, this.2, w.1, w.2⟩)
theorem nt_M_near1_7 {d : Nat} (hd : 5 ≤ d) {M : pM} (hM : gM gAll M) (p0 : 1 ≤ M 60 0 ∧ M 60 0 ≤ 6) (p1 : 7 ≤ M 60 3 ∧ M 60 3 ≤ 7) : ∃ z M', xF d 238 [.inr 62] M = rI z M' ∧ ((-2 ≤ z ∧ z ≤ -2) ∨ (-3 ≤ z ∧ z ≤ -3) ∨ (0 ≤ z ∧ z ≤ 999999 ∧ 7 ≤ M' 60 16 ∧ M' 60 16 ≤ 7)) := by
  have c0 : cOK gAll (xF d) 238 K_1060 := (ct_of (d := d) ct_ok (show K_1060 ∈ CT.getD 238 [] from (show CT.getD 238 [] = [K_919, K_921, K_923, K_925, K_927, K_929, K_931, K_933, K_935, K_937, K_939, K_941, K_551, K_1018, K_895, K_897, K_899, K_901, K_903, K_905, K_907, K_909, K_911, K_913, K_915, K_917, K_1024, K_1030, K_1036, K_1042, K_1048, K_1054, K_1060, K_1066, K_1072, K_1078, K_549] from rfl) ▸ by simp) hd)
  obtain ⟨z, M', e, -, -, alt, ha, q, p⟩ := cOK_I c0 (A := [.inr 62]) (show aF2 gW [aRef 62] [.inr 62] from ⟨gW_o, trivial⟩) hM (show gP0 [(60, 0, (0, 1, 6, 0, 0, 0)), (60, 3, (0, 7, 7, 0, 0, 0))] M from fun e he => by
    simp only [List.mem_cons, List.not_mem_nil, or_false] at he
    rcases he with rfl | rfl
    · exact gR_i p0.1 p0.2
    · exact gR_i p1.1 p1.2) rfl
  refine ⟨z, M', e, ?_⟩
  have ha : alt ∈ [(some (0, -2, -2, 0, 0, 0), [], [(60, 0, (0, 1, 6, 0, 0, 0)), (60, 3, (0, 7, 7, 0, 0, 0)), (60, 17, (0, 0, 0, 0, 0, 0)), (60, 39, (0, 1, 20000, 0, 0, 0)), (60, 40, (0, 0, 1000000, 0, 0, 0))]), (some (0, -3, -3, 0, 0, 0), [], [(60, 0, (0, 1, 6, 0, 0, 0)), (60, 3, (0, 7, 7, 0, 0, 0)), (60, 17, (0, 0, 0, 0, 0, 0)), (60, 39, (0, 20001, 1000000, 0, 0, 0))]), (some (0, 0, 999999, 0, 0, 0), [], [(60, 0, (0, 1, 6, 0, 0, 0)), (60, 3, (0, 7, 7, 0, 0, 0)), (60, 16, (0, 7, 7, 0, 0, 0)), (60, 17, (0, 0, 0, 0, 0, 0)), (60, 39, (0, 1, 20000, 0, 0, 0)), (60, 40, (0, 0, 1000000, 0, 0, 0)), (69, 6, (0, -2147483648, 2147483647, 0, 0, 0))])] := ha
  simp only [List.mem_cons, List.not_mem_nil, or_false] at ha
  rcases ha with rfl | rfl | rfl
  · obtain ⟨z2, e2, r⟩ := gW_int (show gW _ _ from q) (Nat.le_of_ble_eq_true rfl)
    cases e2
    have := gR0 r
    exact Or.inl ⟨this.1, this.2⟩
  · obtain ⟨z2, e2, r⟩ := gW_int (show gW _ _ from q) (Nat.le_of_ble_eq_true rfl)
    cases e2
    have := gR0 r
    exact Or.inr (Or.inl ⟨this.1, this.2⟩)
  · obtain ⟨z2, e2, r⟩ := gW_int (show gW _ _ from q) (Nat.le_of_ble_eq_true rfl)
    cases e2
    have := gR0 r
    have w := gR0 (show gR (0, 7, 7, 0, 0, 0) (M' 60 16) from (p _ (List.mem_cons_of_mem _ (List.mem_cons_of_mem _ List.mem_cons_self))).1)
    exact Or.inr (Or.inr ⟨this.1, this.2, w.1, w.2⟩)
theorem nt_M_near1_8 {d : Nat} (hd : 5 ≤ d) {M : pM} (hM : gM gAll M) (p0 : 1 ≤ M 60 0 ∧ M 60 0 ≤ 6) (p1 : 8 ≤ M 60 3 ∧ M 60 3 ≤ 8) : ∃ z M', xF d 238 [.inr 62] M = rI z M' ∧ ((-2 ≤ z ∧ z ≤ -2) ∨ (-3 ≤ z ∧ z ≤ -3) ∨ (0 ≤ z ∧ z ≤ 999999 ∧ 8 ≤ M' 60 16 ∧ M' 60 16 ≤ 8)) := by
  have c0 : cOK gAll (xF d) 238 K_1066 := (ct_of (d := d) ct_ok (show K_1066 ∈ CT.getD 238 [] from (show CT.getD 238 [] = [K_919, K_921, K_923, K_925, K_927, K_929, K_931, K_933, K_935, K_937, K_939, K_941, K_551, K_1018, K_895, K_897, K_899, K_901, K_903, K_905, K_907, K_909, K_911, K_913, K_915, K_917, K_1024, K_1030, K_1036, K_1042, K_1048, K_1054, K_1060, K_1066, K_1072, K_1078, K_549] from rfl) ▸ by simp) hd)
  obtain ⟨z, M', e, -, -, alt, ha, q, p⟩ := cOK_I c0 (A := [.inr 62]) (show aF2 gW [aRef 62] [.inr 62] from ⟨gW_o, trivial⟩) hM (show gP0 [(60, 0, (0, 1, 6, 0, 0, 0)), (60, 3, (0, 8, 8, 0, 0, 0))] M from fun e he => by
    simp only [List.mem_cons, List.not_mem_nil, or_false] at he
    rcases he with rfl | rfl
    · exact gR_i p0.1 p0.2
    · exact gR_i p1.1 p1.2) rfl
  refine ⟨z, M', e, ?_⟩
  have ha : alt ∈ [(some (0, -2, -2, 0, 0, 0), [], [(60, 0, (0, 1, 6, 0, 0, 0)), (60, 3, (0, 8, 8, 0, 0, 0)), (60, 17, (0, 0, 0, 0, 0, 0)), (60, 39, (0, 1, 20000, 0, 0, 0)), (60, 40, (0, 0, 1000000, 0, 0, 0))]), (some (0, -3, -3, 0, 0, 0), [], [(60, 0, (0, 1, 6, 0, 0, 0)), (60, 3, (0, 8, 8, 0, 0, 0)), (60, 17, (0, 0, 0, 0, 0, 0)), (60, 39, (0, 20001, 1000000, 0, 0, 0))]), (some (0, 0, 999999, 0, 0, 0), [], [(60, 0, (0, 1, 6, 0, 0, 0)), (60, 3, (0, 8, 8, 0, 0, 0)), (60, 16, (0, 8, 8, 0, 0, 0)), (60, 17, (0, 0, 0, 0, 0, 0)), (60, 39, (0, 1, 20000, 0, 0, 0)), (60, 40, (0, 0, 1000000, 0, 0, 0)), (69, 7, (0, -2147483648, 2147483647, 0, 0, 0))])] := ha
  simp only [List.mem_cons, List.not_mem_nil, or_false] at ha
  rcases ha with rfl | rfl | rfl
  · obtain ⟨z2, e2, r⟩ := gW_int (show gW _ _ from q) (Nat.le_of_ble_eq_true rfl)
    cases e2
    have := gR0 r
    exact Or.inl ⟨this.1, this.2⟩
  · obtain ⟨z2, e2, r⟩ := gW_int (show gW _ _ from q) (Nat.le_of_ble_eq_true rfl)
    cases e2
    have := gR0 r
    exact Or.inr (Or.inl ⟨this.1, this.2⟩)
  · obtain ⟨z2, e2, r⟩ := gW_int (show gW _ _ from q) (Nat.le_of_ble_eq_true rfl)
    cases e2
    have := gR0 r
    have w := gR0 (show gR (0, 8, 8, 0, 0, 0) (M' 60 16) from (p _ (List.mem_cons_of_mem _ (List.mem_cons_of_mem _ List.mem_cons_self))).1)
    exact Or.inr (Or.inr ⟨this.1, this.2, w.1, w.2⟩)
theorem nt_M_near1_9 {d : Nat} (hd : 5 ≤ d) {M : pM} (hM : gM gAll M) (p0 : 1 ≤ M 60 0 ∧ M 60 0 ≤ 6) (p1 : 9 ≤ M 60 3 ∧ M 60 3 ≤ 9) : ∃ z M', xF d 238 [.inr 62] M = rI z M' ∧ ((-2 ≤ z ∧ z ≤ -2) ∨ (-3 ≤ z ∧ z ≤ -3) ∨ (0 ≤ z ∧ z ≤ 999999 ∧ 9 ≤ M' 60 16 ∧ M' 60 16 ≤ 9)) := by
  have c0 : cOK gAll (xF d) 238 K_1072 := (ct_of (d := d) ct_ok (show K_1072 ∈ CT.getD 238 [] from (show CT.getD 238 [] = [K_919, K_921, K_923, K_925, K_927, K_929, K_931, K_933, K_935, K_937, K_939, K_941, K_551, K_1018, K_895, K_897, K_899, K_901, K_903, K_905, K_907, K_909, K_911, K_913, K_915, K_917, K_1024, K_1030, K_1036, K_1042, K_1048, K_1054, K_1060, K_1066, K_1072, K_1078, K_549] from rfl) ▸ by simp) hd)
  obtain ⟨z, M', e, -, -, alt, ha, q, p⟩ := cOK_I c0 (A := [.inr 62]) (show aF2 gW [aRef 62] [.inr 62] from ⟨gW_o, trivial⟩) hM (show gP0 [(60, 0, (0, 1, 6, 0, 0, 0)), (60, 3, (0, 9, 9, 0, 0, 0))] M from fun e he => by
    simp only [List.mem_cons, List.not_mem_nil, or_false] at he
    rcases he with rfl | rfl
    · exact gR_i p0.1 p0.2
    · exact gR_i p1.1 p1.2) rfl
  refine ⟨z, M', e, ?_⟩
  have ha : alt ∈ [(some (0, -2, -2, 0, 0, 0), [], [(60, 0, (0, 1, 6, 0, 0, 0)), (60, 3, (0, 9, 9, 0, 0, 0)), (60, 17, (0, 0, 0, 0, 0, 0)), (60, 39, (0, 1, 20000, 0, 0, 0)), (60, 40, (0, 0, 1000000, 0, 0, 0))]), (some (0, -3, -3, 0, 0, 0), [], [(60, 0, (0, 1, 6, 0, 0, 0)), (60, 3, (0, 9, 9, 0, 0, 0)), (60, 17, (0, 0, 0, 0, 0, 0)), (60, 39, (0, 20001, 1000000, 0, 0, 0))]), (some (0, 0, 999999, 0, 0, 0), [], [(60, 0, (0, 1, 6, 0, 0, 0)), (60, 3, (0, 9, 9, 0, 0, 0)), (60, 16, (0, 9, 9, 0, 0, 0)), (60, 17, (0, 0, 0, 0, 0, 0)), (60, 39, (0, 1, 20000, 0, 0, 0)), (60, 40, (0, 0, 1000000, 0, 0, 0)), (69, 8, (0, -2147483648, 2147483647, 0, 0, 0))])] := ha
  simp only [List.mem_cons, List.not_mem_nil, or_false] at ha
  rcases ha with rfl | rfl | rfl
  · obtain ⟨z2, e2, r⟩ := gW_int (show gW _ _ from q) (Nat.le_of_ble_eq_true rfl)
    cases e2
    have := gR0 r
    exact Or.inl ⟨this.1, this.2⟩
  · obtain ⟨z2, e2, r⟩ := gW_int (show gW _ _ from q) (Nat.le_of_ble_eq_true rfl)
    cases e2
    have := gR0 r
    exact Or.inr (Or.inl ⟨this.1, this.2⟩)
  · obtain ⟨z2, e2, r⟩ := gW_int (show gW _ _ from q) (Nat.le_of_ble_eq_true rfl)
    cases e2
    have := gR0 r
    have w := gR0 (show gR (0, 9, 9, 0, 0, 0) (M' 60 16) from (p _ (List.mem_cons_of_mem _ (List.mem_cons_of_mem _ List.mem_cons_self))).1)
    exact Or.inr (Or.inr ⟨this.1, this.2, w.1, w.2⟩)
theorem nt_M_near1_10 {d : Nat} (hd : 5 ≤ d) {M : pM} (hM : gM gAll M) (p0 : 1 ≤ M 60 0 ∧ M 60 0 ≤ 6) (p1 : 10 ≤ M 60 3 ∧ M 60 3 ≤ 10) : ∃ z M', xF d 238 [.inr 62] M = rI z M' ∧ ((-2 ≤ z ∧ z ≤ -2) ∨ (-3 ≤ z ∧ z ≤ -3) ∨ (0 ≤ z ∧ z ≤ 999999 ∧ 10 ≤ M' 60 16 ∧ M' 60 16 ≤ 10)) := by
  have c0 : cOK gAll (xF d) 238 K_1078 := (ct_of (d := d) ct_ok (show K_1078 ∈ CT.getD 238 [] from (show CT.getD 238 [] = [K_919, K_921, K_923, K_925, K_927, K_929, K_931, K_933, K_935, K_937, K_939, K_941, K_551, K_1018, K_895, K_897, K_899, K_901, K_903, K_905, K_907, K_909, K_911, K_913, K_915, K_917, K_1024, K_1030, K_1036, K_1042, K_1048, K_1054, K_1060, K_1066, K_1072, K_1078, K_549] from rfl) ▸ by simp) hd)
  obtain ⟨z, M', e, -, -, alt, ha, q, p⟩ := cOK_I c0 (A := [.inr 62]) (show aF2 gW [aRef 62] [.inr 62] from ⟨gW_o, trivial⟩) hM (show gP0 [(60, 0, (0, 1, 6, 0, 0, 0)), (60, 3, (0, 10, 10, 0, 0, 0))] M from fun e he => by
    simp only [List.mem_cons, List.not_mem_nil, or_false] at he
    rcases he with rfl | rfl
    · exact gR_i p0.1 p0.2
    · exact gR_i p1.1 p1.2) rfl
  refine ⟨z, M', e, ?_⟩
  have ha : alt ∈ [(some (0, -2, -2, 0, 0, 0), [], [(60, 0, (0, 1, 6, 0, 0, 0)), (60, 3, (0, 10, 10, 0, 0, 0)), (60, 17, (0, 0, 0, 0, 0, 0)), (60, 39, (0, 1, 20000, 0, 0, 0)), (60, 40, (0, 0, 1000000, 0, 0, 0))]), (some (0, -3, -3, 0, 0, 0), [], [(60, 0, (0, 1, 6, 0, 0, 0)), (60, 3, (0, 10, 10, 0, 0, 0)), (60, 17, (0, 0, 0, 0, 0, 0)), (60, 39, (0, 20001, 1000000, 0, 0, 0))]), (some (0, 0, 999999, 0, 0, 0), [], [(60, 0, (0, 1, 6, 0, 0, 0)), (60, 3, (0, 10, 10, 0, 0, 0)), (60, 16, (0, 10, 10, 0, 0, 0)), (60, 17, (0, 0, 0, 0, 0, 0)), (60, 39, (0, 1, 20000, 0, 0, 0)), (60, 40, (0, 0, 1000000, 0, 0, 0)), (69, 9, (0, -2147483648, 2147483647, 0, 0, 0))])] := ha
  simp only [List.mem_cons, List.not_mem_nil, or_false] at ha
  rcases ha with rfl | rfl | rfl
  · obtain ⟨z2, e2, r⟩ := gW_int (show gW _ _ from q) (Nat.le_of_ble_eq_true rfl)
    cases e2
    have := gR0 r
    exact Or.inl ⟨this.1, this.2⟩
  · obtain ⟨z2, e2, r⟩ := gW_int (show gW _ _ from q) (Nat.le_of_ble_eq_true rfl)
    cases e2
    have := gR0 r
    exact Or.inr (Or.inl ⟨this.1, this.2⟩)
  · obtain ⟨z2, e2, r⟩ := gW_int (show gW _ _ from q) (Nat.le_of_ble_eq_true rfl)
    cases e2
    have := gR0 r
    have w := gR0 (show gR (0, 10, 10, 0, 0, 0) (M' 60 16) from (p _ (List.mem_cons_of_mem _ (List.mem_cons_of_mem _ List.mem_cons_self))).1)
    exact Or.inr (Or.inr ⟨this.1, this.2, w.1, w.2⟩)
theorem nt_M_near1 {d : Nat} (hd : 5 ≤ d) {M M' : pM} {v : Int} (hM : gM gAll M) (p0 : 1 ≤ M 60 0 ∧ M 60 0 ≤ 6) {n : Nat} (hn : n ≤ 10) (hc : M 60 3 = (n : Int)) (e : xF d 238 [.inr 62] M = rI v M') : (-2 ≤ v ∧ v ≤ -2) ∨ (0 ≤ v ∧ v ≤ 999999 ∧ M' 60 16 = (n : Int)) ∨ (-3 ≤ v ∧ v ≤ -3) := by
  rcases (show n = 0 ∨ n = 1 ∨ n = 2 ∨ n = 3 ∨ n = 4 ∨ n = 5 ∨ n = 6 ∨ n = 7 ∨ n = 8 ∨ n = 9 ∨ n = 10 by omega) with rfl | rfl | rfl | rfl | rfl | rfl | rfl | rfl | rfl | rfl | rfl
  · obtain ⟨z, M2, e2, r⟩ := nt_M_near1_0 (d := d) (by omega) hM p0 (by omega)
    obtain ⟨y1, y2⟩ := rI_inj (e.symm.trans e2)
    rw [y1, y2]
    rcases r with r | r
    · exact Or.inl (by omega)
    · exact Or.inr (Or.inl (by omega))
  · obtain ⟨z, M2, e2, r⟩ := nt_M_near1_1 (d := d) (by omega) hM p0 (by omega)
    obtain ⟨y1, y2⟩ := rI_inj (e.symm.trans e2)
    rw [y1, y2]
    rcases r with r | r | r
    · exact Or.inl (by omega)
    · exact Or.inr (Or.inr ((by omega)))
    · exact Or.inr (Or.inl (by omega))
  · obtain ⟨z, M2, e2, r⟩ := nt_M_near1_2 (d := d) (by omega) hM p0 (by omega)
    obtain ⟨y1, y2⟩ := rI_inj (e.symm.trans e2)
    rw [y1, y2]
    rcases r with r | r | r
    · exact Or.inl (by omega)
    · exact Or.inr (Or.inr ((by omega)))
    · exact Or.inr (Or.inl (by omega))
  · obtain ⟨z, M2, e2, r⟩ := nt_M_near1_3 (d := d) (by omega) hM p0 (by omega)
    obtain ⟨y1, y2⟩ := rI_inj (e.symm.trans e2)
    rw [y1, y2]
    rcases r with r | r | r
    · exact Or.inl (by omega)
    · exact Or.inr (Or.inr ((by omega)))
    · exact Or.inr (Or.inl (by omega))
  · obtain ⟨z, M2, e2, r⟩ := nt_M_near1_4 (d := d) (by omega) hM p0 (by omega)
    obtain ⟨y1, y2⟩ := rI_inj (e.symm.trans e2)
    rw [y1, y2]
    rcases r with r | r | r
    · exact Or.inl (by omega)
    · exact Or.inr (Or.inr ((by omega)))
    · exact Or.inr (Or.inl (by omega))
  · obtain ⟨z, M2, e2, r⟩ := nt_M_near1_5 (d := d) (by omega) hM p0 (by omega)
    obtain ⟨y1, y2⟩ := rI_inj (e.symm.trans e2)
    rw [y1, y2]
    rcases r with r | r | r
    · exact Or.inl (by omega)
    · exact Or.inr (Or.inr ((by omega)))
    · exact Or.inr (Or.inl (by omega))
  · obtain ⟨z, M2, e2, r⟩ := nt_M_near1_6 (d := d) (by omega) hM p0 (by omega)
    obtain ⟨y1, y2⟩ := rI_inj (e.symm.trans e2)
    rw [y1, y2]
    rcases r with r | r | r
    · exact Or.inl (by omega)
    · exact Or.inr (Or.inr ((by omega)))
    · exact Or.inr (Or.inl (by omega))
  · obtain ⟨z, M2, e2, r⟩ := nt_M_near1_7 (d := d) (by omega) hM p0 (by omega)
    obtain ⟨y1, y2⟩ := rI_inj (e.symm.trans e2)
    rw [y1, y2]
    rcases r with r | r | r
    · exact Or.inl (by omega)
    · exact Or.inr (Or.inr ((by omega)))
    · exact Or.inr (Or.inl (by omega))
  · obtain ⟨z, M2, e2, r⟩ := nt_M_near1_8 (d := d) (by omega) hM p0 (by omega)
    obtain ⟨y1, y2⟩ := rI_inj (e.symm.trans e2)
    rw [y1, y2]
    rcases r with r | r | r
    · exact Or.inl (by omega)
    · exact Or.inr (Or.inr ((by omega)))
    · exact Or.inr (Or.inl (by omega))
  · obtain ⟨z, M2, e2, r⟩ := nt_M_near1_9 (d := d) (by omega) hM p0 (by omega)
    obtain ⟨y1, y2⟩ := rI_inj (e.symm.trans e2)
    rw [y1, y2]
    rcases r with r | r | r
    · exact Or.inl (by omega)
    · exact Or.inr (Or.inr ((by omega)))
    · exact Or.inr (Or.inl (by omega))
  · obtain ⟨z, M2, e2, r⟩ := nt_M_near1_10 (d := d) (by omega) hM p0 (by omega)
    obtain ⟨y1, y2⟩ := rI_inj (e.symm.trans e2)
    rw [y1, y2]
    rcases r with r | r | r
    · exact Or.inl (by omega)
    · exact Or.inr (Or.inr ((by omega)))
    · exact Or.inr (Or.inl (by omega))
theorem nt_M_guest1_0 {d : Nat} (hd : 5 ≤ d) {M : pM} {a1 : Int} {a2 : Int} (hM : gM gAll M) (h1 : -2147483648 ≤ a1 ∧ a1 ≤ 2147483647) (h2 : -2147483648 ≤ a2 ∧ a2 ≤ 2147483647) (p0 : 1 ≤ M 60 0 ∧ M 60 0 ≤ 6) (p1 : 0 ≤ M 60 3 ∧ M 60 3 ≤ 0) : ∃ z M', xF d 239 [.inr 62, .inl a1, .inl a2] M = rI z M' ∧ ((-1 ≤ z ∧ z ≤ -1) ∨ (-2 ≤ z ∧ z ≤ -2) ∨ (0 ≤ z ∧ z ≤ 999999 ∧ 0 ≤ M' 60 16 ∧ M' 60 16 ≤ 0)) := by
  have c0 : cOK gAll (xF d) 239 K_1080 := (ct_of (d := d) ct_ok (show K_1080 ∈ CT.getD 239 [] from (show CT.getD 239 [] = [K_967, K_969, K_971, K_973, K_975, K_977, K_979, K_981, K_983, K_985, K_987, K_989, K_556, K_1080, K_943, K_945, K_947, K_949, K_951, K_953, K_955, K_957, K_959, K_961, K_963, K_965, K_1082, K_1084, K_1086, K_1088, K_1090, K_1092, K_1094, K_1096, K_1098, K_1100, K_554] from rfl) ▸ by simp) hd)
  obtain ⟨z, M', e, -, -, alt, ha, q, p⟩ := cOK_I c0 (A := [.inr 62, .inl a1, .inl a2]) (show aF2 gW [aRef 62, (0, -2147483648, 2147483647, 0, 0, 0), (0, -2147483648, 2147483647, 0, 0, 0)] [.inr 62, .inl a1, .inl a2] from ⟨gW_o, gW_i h1.1 h1.2, gW_i h2.1 h2.2, trivial⟩) hM (show gP0 [(60, 0, (0, 1, 6, 0, 0, 0)), (60, 3, (0, 0, 0, 0, 0, 0))] M from fun e he => by
    simp only [List.mem_cons, List.not_mem_nil, or_false] at he
    rcases he with rfl | rfl
    · exact gR_i p0.1 p0.2
    · exact gR_i p1.1 p1.2) rfl
  refine ⟨z, M', e, ?_⟩
  have ha : alt ∈ [(some (0, -1, -1, 0, 0, 0), [], [(60, 0, (0, 1, 6, 0, 0, 0)), (60, 3, (0, 0, 0, 0, 0, 0)), (60, 17, (0, 0, 0, 0, 0, 0))]), (some (0, -2, -2, 0, 0, 0), [(4, 0, 0, 0, 0, 0), (0, 0, 5, 0, 0, 0), (0, 0, 99, 0, 0, 0)], [(60, 0, (0, 1, 6, 0, 0, 0)), (60, 3, (0, 0, 0, 0, 0, 0)), (60, 17, (0, 0, 0, 0, 0, 0)), (60, 30, (0, 0, 0, 0, 0, 0)), (60, 39, (0, 1, 1, 0, 0, 0)), (60, 40, (0, 0, 1000000, 0, 0, 0))]), (some (0, 0, 999999, 0, 0, 0), [(4, 0, 0, 0, 0, 0), (0, 0, 5, 0, 0, 0), (0, 0, 99, 0, 0, 0)], [(60, 0, (0, 1, 6, 0, 0, 0)), (60, 3, (0, 0, 0, 0, 0, 0)), (60, 16, (0, 0, 0, 0, 0, 0)), (60, 17, (0, 0, 0, 0, 0, 0)), (60, 30, (0, 0, 0, 0, 0, 0)), (60, 39, (0, 1, 1, 0, 0, 0)), (60, 40, (0, 0, 1000000, 0, 0, 0))])] := ha
  simp only [List.mem_cons, List.not_mem_nil, or_false] at ha
  rcases ha with rfl | rfl | rfl
  · obtain ⟨z2, e2, r⟩ := gW_int (show gW _ _ from q) (Nat.le_of_ble_eq_true rfl)
    cases e2
    have := gR0 r
    exact Or.inl ⟨this.1, this.2⟩
  · obtain ⟨z2, e2, r⟩ := gW_int (show gW _ _ from q) (Nat.le_of_ble_eq_true rfl)
    cases e2
    have := gR0 r
    exact Or.inr (Or.inl ⟨this.1, this.2⟩)
  · obtain ⟨z2, e2, r⟩ := gW_int (show gW _ _ from q) (Nat.le_of_ble_eq_true rfl)
    cases e2
    have := gR0 r
    have w := gR0 (show gR (0, 0, 0, 0, 0, 0) (M' 60 16) from (p _ (List.mem_cons_of_mem _ (List.mem_cons_of_mem _ List.mem_cons_self))).1)
    exact Or.inr (Or.inr ⟨this.1, this.2, w.1, w.2⟩)
theorem nt_M_guest1_1 {d : Nat} (hd : 5 ≤ d) {M : pM} {a1 : Int} {a2 : Int} (hM : gM gAll M) (h1 : -2147483648 ≤ a1 ∧ a1 ≤ 2147483647) (h2 : -2147483648 ≤ a2 ∧ a2 ≤ 2147483647) (p0 : 1 ≤ M 60 0 ∧ M 60 0 ≤ 6) (p1 : 1 ≤ M 60 3 ∧ M 60 3 ≤ 1) : ∃ z M', xF d 239 [.inr 62, .inl a1, .inl a2] M = rI z M' ∧ ((-1 ≤ z ∧ z ≤ -1) ∨ (-2 ≤ z ∧ z ≤ -2) ∨ (-3 ≤ z ∧ z ≤ -3) ∨ (0 ≤ z ∧ z ≤ 999999 ∧ 1 ≤ M' 60 16 ∧ M' 60 16 ≤ 1)) := by
  have c0 : cOK gAll (xF d) 239 K_1082 := (ct_of (d := d) ct_ok (show K_1082 ∈ CT.getD 239 [] from (show CT.getD 239 [] = [K_967, K_969, K_971, K_973, K_975, K_977, K_979, K_981, K_983, K_985, K_987, K_989, K_556, K_1080, K_943, K_945, K_947, K_949, K_951, K_953, K_955, K_957, K_959, K_961, K_963, K_965, K_1082, K_1084, K_1086, K_1088, K_1090, K_1092, K_1094, K_1096, K_1098, K_1100, K_554] from rfl) ▸ by simp) hd)
  obtain ⟨z, M', e, -, -, alt, ha, q, p⟩ := cOK_I c0 (A := [.inr 62, .inl a1, .inl a2]) (show aF2 gW [aRef 62, (0, -2147483648, 2147483647, 0, 0, 0), (0, -2147483648, 2147483647, 0, 0, 0)] [.inr 62, .inl a1, .inl a2] from ⟨gW_o, gW_i h1.1 h1.2, gW_i h2.1 h2.2, trivial⟩) hM (show gP0 [(60, 0, (0, 1, 6, 0, 0, 0)), (60, 3, (0, 1, 1, 0, 0, 0))] M from fun e he => by
    simp only [List.mem_cons, List.not_mem_nil, or_false] at he
    rcases he with rfl | rfl
    · exact gR_i p0.1 p0.2
    · exact gR_i p1.1 p1.2) rfl
  refine ⟨z, M', e, ?_⟩
  have ha : alt ∈ [(some (0, -1, -1, 0, 0, 0), [], [(60, 0, (0, 1, 6, 0, 0, 0)), (60, 3, (0, 1, 1, 0, 0, 0)), (60, 17, (0, 0, 0, 0, 0, 0))]), (some (0, -2, -2, 0, 0, 0), [(4, 0, 0, 0, 0, 0), (0, 0, 5, 0, 0, 0), (0, 0, 99, 0, 0, 0)], [(60, 0, (0, 1, 6, 0, 0, 0)), (60, 3, (0, 1, 1, 0, 0, 0)), (60, 17, (0, 0, 0, 0, 0, 0)), (60, 39, (0, 1, 20000, 0, 0, 0)), (60, 40, (0, 0, 1000000, 0, 0, 0))]), (some (0, -3, -3, 0, 0, 0), [(4, 0, 0, 0, 0, 0), (0, 0, 5, 0, 0, 0), (0, 0, 99, 0, 0, 0)], [(60, 0, (0, 1, 6, 0, 0, 0)), (60, 3, (0, 1, 1, 0, 0, 0)), (60, 17, (0, 0, 0, 0, 0, 0)), (60, 39, (0, 20001, 1000000, 0, 0, 0))]), (some (0, 0, 999999, 0, 0, 0), [(4, 0, 0, 0, 0, 0), (0, 0, 5, 0, 0, 0), (0, 0, 99, 0, 0, 0)], [(60, 0, (0, 1, 6, 0, 0, 0)), (60, 3, (0, 1, 1, 0, 0, 0)), (60, 16, (0, 1, 1, 0, 0, 0)), (60, 17, (0, 0, 0, 0, 0, 0)), (60, 39, (0, 1, 20000, 0, 0, 0)), (60, 40, (0, 0, 1000000, 0, 0, 0)), (69, 0, (0, -2147483648, 2147483647, 0, 0, 0))])] := ha
  simp only [List.mem_cons, List.not_mem_nil, or_false] at ha
  rcases ha with rfl | rfl | rfl | rfl
  · obtain ⟨z2, e2, r⟩ := gW_int (show gW _ _ from q) (Nat.le_of_ble_eq_true rfl)
    cases e2
    have := gR0 r
    exact Or.inl ⟨this.1, this.2⟩
  · obtain ⟨z2, e2, r⟩ := gW_int (show gW _ _ from q) (Nat.le_of_ble_eq_true rfl)
    cases e2
    have := gR0 r
    exact Or.inr (Or.inl ⟨this.1, this.2⟩)
  · obtain ⟨z2, e2, r⟩ := gW_int (show gW _ _ from q) (Nat.le_of_ble_eq_true rfl)
    cases e2
    have := gR0 r
    exact Or.inr (Or.inr (Or.inl ⟨this.1, this.2⟩))
  · obtain ⟨z2, e2, r⟩ := gW_int (show gW _ _ from q) (Nat.le_of_ble_eq_true rfl)
    cases e2
    have := gR0 r
    have w := gR0 (show gR (0, 1, 1, 0, 0, 0) (M' 60 16) from (p _ (List.mem_cons_of_mem _ (List.mem_cons_of_mem _ List.mem_cons_self))).1)
    exact Or.inr (Or.inr (Or.inr ⟨this.1, this.2, w.1, w.2⟩))
theorem nt_M_guest1_2 {d : Nat} (hd : 5 ≤ d) {M : pM} {a1 : Int} {a2 : Int} (hM : gM gAll M) (h1 : -2147483648 ≤ a1 ∧ a1 ≤ 2147483647) (h2 : -2147483648 ≤ a2 ∧ a2 ≤ 2147483647) (p0 : 1 ≤ M 60 0 ∧ M 60 0 ≤ 6) (p1 : 2 ≤ M 60 3 ∧ M 60 3 ≤ 2) : ∃ z M', xF d 239 [.inr 62, .inl a1, .inl a2] M = rI z M' ∧ ((-1 ≤ z ∧ z ≤ -1) ∨ (-2 ≤ z ∧ z ≤ -2) ∨ (-3 ≤ z ∧ z ≤ -3) ∨ (0 ≤ z ∧ z ≤ 999999 ∧ 2 ≤ M' 60 16 ∧ M' 60 16 ≤ 2)) := by
  have c0 : cOK gAll (xF d) 239 K_1084 := (ct_of (d := d) ct_ok (show K_1084 ∈ CT.getD 239 [] from (show CT.getD 239 [] = [K_967, K_969, K_971, K_973, K_975, K_977, K_979, K_981, K_983, K_985, K_987, K_989, K_556, K_1080, K_943, K_945, K_947, K_949, K_951, K_953, K_955, K_957, K_959, K_961, K_963, K_965, K_1082, K_1084, K_1086, K_1088, K_1090, K_1092, K_1094, K_1096, K_1098, K_1100, K_554] from rfl) ▸ by simp) hd)
  obtain ⟨z, M', e, -, -, alt, ha, q, p⟩ := cOK_I c0 (A := [.inr 62, .inl a1, .inl a2]) (show aF2 gW [aRef 62, (0, -2147483648, 2147483647, 0, 0, 0), (0, -2147483648, 2147483647, 0, 0, 0)] [.inr 62, .inl a1, .inl a2] from ⟨gW_o, gW_i h1.1 h1.2, gW_i h2.1 h2.2, trivial⟩) hM (show gP0 [(60, 0, (0, 1, 6, 0, 0, 0)), (60, 3, (0, 2, 2, 0, 0, 0))] M from fun e he => by
    simp only [List.mem_cons, List.not_mem_nil, or_false] at he
    rcases he with rfl | rfl
    · exact gR_i p0.1 p0.2
    · exact gR_i p1.1 p1.2) rfl
  refine ⟨z, M', e, ?_⟩
  have ha : alt ∈ [(some (0, -1, -1, 0, 0, 0), [], [(60, 0, (0, 1, 6, 0, 0, 0)), (60, 3, (0, 2, 2, 0, 0, 0)), (60, 17, (0, 0, 0, 0, 0, 0))]), (some (0, -2, -2, 0, 0, 0), [(4, 0, 0, 0, 0, 0), (0, 0, 5, 0, 0, 0), (0, 0, 99, 0, 0, 0)], [(60, 0, (0, 1, 6, 0, 0, 0)), (60, 3, (0, 2, 2, 0, 0, 0)), (60, 17, (0, 0, 0, 0, 0, 0)), (60, 39, (0, 1, 20000, 0, 0, 0)), (60, 40, (0, 0, 1000000, 0, 0, 0))]), (some (0, -3, -3, 0, 0, 0), [(4, 0, 0, 0, 0, 0), (0, 0, 5, 0, 0, 0), (0, 0, 99, 0, 0, 0)], [(60, 0, (0, 1, 6, 0, 0, 0)), (60, 3, (0, 2, 2, 0, 0, 0)), (60, 17, (0, 0, 0, 0, 0, 0)), (60, 39, (0, 20001, 1000000, 0, 0, 0))]), (some (0, 0, 999999, 0, 0, 0), [(4, 0, 0, 0, 0, 0), (0, 0, 5, 0, 0, 0), (0, 0, 99, 0, 0, 0)], [(60, 0, (0, 1, 6, 0, 0, 0)), (60, 3, (0, 2, 2, 0, 0, 0)), (60, 16, (0, 2, 2, 0, 0, 0)), (60, 17, (0, 0, 0, 0, 0, 0)), (60, 39, (0, 1, 20000, 0, 0, 0)), (60, 40, (0, 0, 1000000, 0, 0, 0)), (69, 1, (0, -2147483648, 2147483647, 0, 0, 0))])] := ha
  simp only [List.mem_cons, List.not_mem_nil, or_false] at ha
  rcases ha with rfl | rfl | rfl | rfl
  · obtain ⟨z2, e2, r⟩ := gW_int (show gW _ _ from q) (Nat.le_of_ble_eq_true rfl)
    cases e2
    have := gR0 r
    exact Or.inl ⟨this.1, this.2⟩
  · obtain ⟨z2, e2, r⟩ := gW_int (show gW _ _ from q) (Nat.le_of_ble_eq_true rfl)
    cases e2
    have := gR0 r
    exact Or.inr (Or.inl ⟨this.1, this.2⟩)
  · obtain ⟨z2, e2, r⟩ := gW_int (show gW _ _ from q) (Nat.le_of_ble_eq_true rfl)
    cases e2
    have := gR0 r
    exact Or.inr (Or.inr (Or.inl ⟨this.1, this.2⟩))
  · obtain ⟨z2, e2, r⟩ := gW_int (show gW _ _ from q) (Nat.le_of_ble_eq_true rfl)
    cases e2
    have := gR0 r
    have w := gR0 (show gR (0, 2, 2, 0, 0, 0) (M' 60 16) from (p _ (List.mem_cons_of_mem _ (List.mem_cons_of_mem _ List.mem_cons_self))).1)
    exact Or.inr (Or.inr (Or.inr ⟨this.1, this.2, w.1, w.2⟩))
theorem nt_M_guest1_3 {d : Nat} (hd : 5 ≤ d) {M : pM} {a1 : Int} {a2 : Int} (hM : gM gAll M) (h1 : -2147483648 ≤ a1 ∧ a1 ≤ 2147483647) (h2 : -2147483648 ≤ a2 ∧ a2 ≤ 2147483647) (p0 : 1 ≤ M 60 0 ∧ M 60 0 ≤ 6) (p1 : 3 ≤ M 60 3 ∧ M 60 3 ≤ 3) : ∃ z M', xF d 239 [.inr 62, .inl a1, .inl a2] M = rI z M' ∧ ((-1 ≤ z ∧ z ≤ -1) ∨ (-2 ≤ z ∧ z ≤ -2) ∨ (-3 ≤ z ∧ z ≤ -3) ∨ (0 ≤ z ∧ z ≤ 999999 ∧ 3 ≤ M' 60 16 ∧ M' 60 16 ≤ 3)) := by
  have c0 : cOK gAll (xF d) 239 K_1086 := (ct_of (d := d) ct_ok (show K_1086 ∈ CT.getD 239 [] from (show CT.getD 239 [] = [K_967, K_969, K_971, K_973, K_975, K_977, K_979, K_981, K_983, K_985, K_987, K_989, K_556, K_1080, K_943, K_945, K_947, K_949, K_951, K_953, K_955, K_957, K_959, K_961, K_963, K_965, K_1082, K_1084, K_1086, K_1088, K_1090, K_1092, K_1094, K_1096, K_1098, K_1100, K_554] from rfl) ▸ by simp) hd)
  obtain ⟨z, M', e, -, -, alt, ha, q, p⟩ := cOK_I c0 (A := [.inr 62, .inl a1, .inl a2]) (show aF2 gW [aRef 62, (0, -2147483648, 2147483647, 0, 0, 0), (0, -2147483648, 2147483647, 0, 0, 0)] [.inr 62, .inl a1, .inl a2] from ⟨gW_o, gW_i h1.1 h1.2, gW_i h2.1 h2.2, trivial⟩) hM (show gP0 [(60, 0, (0, 1, 6, 0, 0, 0)), (60, 3, (0, 3, 3, 0, 0, 0))] M from fun e he => by
    simp only [List.mem_cons, List.not_mem_nil, or_false] at he
    rcases he with rfl | rfl
    · exact gR_i p0.1 p0.2
    · exact gR_i p1.1 p1.2) rfl
  refine ⟨z, M', e, ?_⟩
  have ha : alt ∈ [(some (0, -1, -1, 0, 0, 0), [], [(60, 0, (0, 1, 6, 0, 0, 0)), (60, 3, (0, 3, 3, 0, 0, 0)), (60, 17, (0, 0, 0, 0, 0, 0))]), (some (0, -2, -2, 0, 0, 0), [(4, 0, 0, 0, 0, 0), (0, 0, 5, 0, 0, 0), (0, 0, 99, 0, 0, 0)], [(60, 0, (0, 1, 6, 0, 0, 0)), (60, 3, (0, 3, 3, 0, 0, 0)), (60, 17, (0, 0, 0, 0, 0, 0)), (60, 39, (0, 1, 20000, 0, 0, 0)), (60, 40, (0, 0, 1000000, 0, 0, 0))]), (some (0, -3, -3, 0, 0, 0), [(4, 0, 0, 0, 0, 0), (0, 0, 5, 0, 0, 0), (0, 0, 99, 0, 0, 0)], [(60, 0, (0, 1, 6, 0, 0, 0)), (60, 3, (0, 3, 3, 0, 0, 0)), (60, 17, (0, 0, 0, 0, 0, 0)), (60, 39, (0, 20001, 1000000, 0, 0, 0))]), (some (0, 0, 999999, 0, 0, 0), [(4, 0, 0, 0, 0, 0), (0, 0, 5, 0, 0, 0), (0, 0, 99, 0, 0, 0)], [(60, 0, (0, 1, 6, 0, 0, 0)), (60, 3, (0, 3, 3, 0, 0, 0)), (60, 16, (0, 3, 3, 0, 0, 0)), (60, 17, (0, 0, 0, 0, 0, 0)), (60, 39, (0, 1, 20000, 0, 0, 0)), (60, 40, (0, 0, 1000000, 0, 0, 0)), (69, 2, (0, -2147483648, 2147483647, 0, 0, 0))])] := ha
  simp only [List.mem_cons, List.not_mem_nil, or_false] at ha
  rcases ha with rfl | rfl | rfl | rfl
  · obtain ⟨z2, e2, r⟩ := gW_int (show gW _ _ from q) (Nat.le_of_ble_eq_true rfl)
    cases e2
    have := gR0 r
    exact Or.inl ⟨this.1, this.2⟩
  · obtain ⟨z2, e2, r⟩ := gW_int (show gW _ _ from q) (Nat.le_of_ble_eq_true rfl)
    cases e2
    have := gR0 r
    exact Or.inr (Or.inl ⟨this.1, this.2⟩)
  · obtain ⟨z2, e2, r⟩ := gW_int (show gW _ _ from q) (Nat.le_of_ble_eq_true rfl)
    cases e2
    have := gR0 r
    exact Or.inr (Or.inr (Or.inl ⟨this.1, this.2⟩))
  · obtain ⟨z2, e2, r⟩ := gW_int (show gW _ _ from q) (Nat.le_of_ble_eq_true rfl)
    cases e2
    have := gR0 r
    have w := gR0 (show gR (0, 3, 3, 0, 0, 0) (M' 60 16) from (p _ (List.mem_cons_of_mem _ (List.mem_cons_of_mem _ List.mem_cons_self))).1)
    exact Or.inr (Or.inr (Or.inr ⟨this.1, this.2, w.1, w.2⟩))
theorem nt_M_guest1_4 {d : Nat} (hd : 5 ≤ d) {M : pM} {a1 : Int} {a2 : Int} (hM : gM gAll M) (h1 : -2147483648 ≤ a1 ∧ a1 ≤ 2147483647) (h2 : -2147483648 ≤ a2 ∧ a2 ≤ 2147483647) (p0 : 1 ≤ M 60 0 ∧ M 60 0 ≤ 6) (p1 : 4 ≤ M 60 3 ∧ M 60 3 ≤ 4) : ∃ z M', xF d 239 [.inr 62, .inl a1, .inl a2] M = rI z M' ∧ ((-1 ≤ z ∧ z ≤ -1) ∨ (-2 ≤ z ∧ z ≤ -2) ∨ (-3 ≤ z ∧ z ≤ -3) ∨ (0 ≤ z ∧ z ≤ 999999 ∧ 4 ≤ M' 60 16 ∧ M' 60 16 ≤ 4)) := by
  have c0 : cOK gAll (xF d) 239 K_1088 := (ct_of (d := d) ct_ok (show K_1088 ∈ CT.getD 239 [] from (show CT.getD 239 [] = [K_967, K_969, K_971, K_973, K_975, K_977, K_979, K_981, K_983, K_985, K_987, K_989, K_556, K_1080, K_943, K_945, K_947, K_949, K_951, K_953, K_955, K_957, K_959, K_961, K_963, K_965, K_1082, K_1084, K_1086, K_1088, K_1090, K_1092, K_1094, K_1096, K_1098, K_1100, K_554] from rfl) ▸ by simp) hd)
  obtain ⟨z, M', e, -, -, alt, ha, q, p⟩ := cOK_I c0 (A := [.inr 62, .inl a1, .inl a2]) (show aF2 gW [aRef 62, (0, -2147483648, 2147483647, 0, 0, 0), (0, -2147483648, 2147483647, 0, 0, 0)] [.inr 62, .inl a1, .inl a2] from ⟨gW_o, gW_i h1.1 h1.2, gW_i h2.1 h2.2, trivial⟩) hM (show gP0 [(60, 0, (0, 1, 6, 0, 0, 0)), (60, 3, (0, 4, 4, 0, 0, 0))] M from fun e he => by
    simp only [List.mem_cons, List.not_mem_nil, or_false] at he
    rcases he with rfl | rfl
    · exact gR_i p0.1 p0.2
    · exact gR_i p1.1 p1.2) rfl
  refine ⟨z, M', e, ?_⟩
  have ha : alt ∈ [(some (0, -1, -1, 0, 0, 0), [], [(60, 0, (0, 1, 6, 0, 0, 0)), (60, 3, (0, 4, 4, 0, 0, 0)), (60, 17, (0, 0, 0, 0, 0, 0))]), (some (0, -2, -2, 0, 0, 0), [(4, 0, 0, 0, 0, 0), (0, 0, 5, 0, 0, 0), (0, 0, 99, 0, 0, 0)], [(60, 0, (0, 1, 6, 0, 0, 0)), (60, 3, (0, 4, 4, 0, 0, 0)), (60, 17, (0, 0, 0, 0, 0, 0)), (60, 39, (0, 1, 20000, 0, 0, 0)), (60, 40, (0, 0, 1000000, 0, 0, 0))]), (some (0, -3, -3, 0, 0, 0), [(4, 0, 0, 0, 0, 0), (0, 0, 5, 0, 0, 0), (0, 0, 99, 0, 0, 0)], [(60, 0, (0, 1, 6, 0, 0, 0)), (60, 3, (0, 4, 4, 0, 0, 0)), (60, 17, (0, 0, 0, 0, 0, 0)), (60, 39, (0, 20001, 1000000, 0, 0, 0))]), (some (0, 0, 999999, 0, 0, 0), [(4, 0, 0, 0, 0, 0), (0, 0, 5, 0, 0, 0), (0, 0, 99, 0, 0, 0)], [(60, 0, (0, 1, 6, 0, 0, 0)), (60, 3, (0, 4, 4, 0, 0, 0)), (60, 16, (0, 4, 4, 0, 0, 0)), (60, 17, (0, 0, 0, 0, 0, 0)), (60, 39, (0, 1, 20000, 0, 0, 0)), (60, 40, (0, 0, 1000000, 0, 0, 0)), (69, 3, (0, -2147483648, 2147483647, 0, 0, 0))])] := ha
  simp only [List.mem_cons, List.not_mem_nil, or_false] at ha
  rcases ha with rfl | rfl | rfl | rfl
  · obtain ⟨z2, e2, r⟩ := gW_int (show gW _ _ from q) (Nat.le_of_ble_eq_true rfl)
    cases e2
    have := gR0 r
    exact Or.inl ⟨this.1, this.2⟩
  · obtain ⟨z2, e2, r⟩ := gW_int (show gW _ _ from q) (Nat.le_of_ble_eq_true rfl)
    cases e2
    have := gR0 r
    exact Or.inr (Or.inl ⟨this.1, this.2⟩)
  · obtain ⟨z2, e2, r⟩ := gW_int (show gW _ _ from q) (Nat.le_of_ble_eq_true rfl)
    cases e2
    have := gR0 r
    exact Or.inr (Or.inr (Or.inl ⟨this.1, this.2⟩))
  · obtain ⟨z2, e2, r⟩ := gW_int (show gW _ _ from q) (Nat.le_of_ble_eq_true rfl)
    cases e2
    have := gR0 r
    have w := gR0 (show gR (0, 4, 4, 0, 0, 0) (M' 60 16) from (p _ (List.mem_cons_of_mem _ (List.mem_cons_of_mem _ List.mem_cons_self))).1)
    exact Or.inr (Or.inr (Or.inr ⟨this.1, this.2, w.1, w.2⟩))
theorem nt_M_guest1_5 {d : Nat} (hd : 5 ≤ d) {M : pM} {a1 : Int} {a2 : Int} (hM : gM gAll M) (h1 : -2147483648 ≤ a1 ∧ a1 ≤ 2147483647) (h2 : -2147483648 ≤ a2 ∧ a2 ≤ 2147483647) (p0 : 1 ≤ M 60 0 ∧ M 60 0 ≤ 6) (p1 : 5 ≤ M 60 3 ∧ M 60 3 ≤ 5) : ∃ z M', xF d 239 [.inr 62, .inl a1, .inl a2] M = rI z M' ∧ ((-1 ≤ z ∧ z ≤ -1) ∨ (-2 ≤ z ∧ z ≤ -2) ∨ (-3 ≤ z ∧ z ≤ -3) ∨ (0 ≤ z ∧ z ≤ 999999 ∧ 5 ≤ M' 60 16 ∧ M' 60 16 ≤ 5)) := by
  have c0 : cOK gAll (xF d) 239 K_1090 := (ct_of (d := d) ct_ok (show K_1090 ∈ CT.getD 239 [] from (show CT.getD 239 [] = [K_967, K_969, K_971, K_973, K_975, K_977, K_979, K_981, K_983, K_985, K_987, K_989, K_556, K_1080, K_943, K_945, K_947, K_949, K_951, K_953, K_955, K_957, K_959, K_961, K_963, K_965, K_1082, K_1084, K_1086, K_1088, K_1090, K_1092, K_1094, K_1096, K_1098, K_1100, K_554] from rfl) ▸ by simp) hd)
  obtain ⟨z, M', e, -, -, alt, ha, q, p⟩ := cOK_I c0 (A := [.inr 62, .inl a1, .inl a2]) (show aF2 gW [aRef 62, (0, -2147483648, 2147483647, 0, 0, 0), (0, -2147483648, 2147483647, 0, 0, 0)] [.inr 62, .inl a1, .inl a2] from ⟨gW_o, gW_i h1.1 h1.2, gW_i h2.1 h2.2, trivial⟩) hM (show gP0 [(60, 0, (0, 1, 6, 0, 0, 0)), (60, 3, (0, 5, 5, 0, 0, 0))] M from fun e he => by
    simp only [List.mem_cons, List.not_mem_nil, or_false] at he
    rcases he with rfl | rfl
    · exact gR_i p0.1 p0.2
    · exact gR_i p1.1 p1.2) rfl
  refine ⟨z, M', e, ?_⟩
  have ha : alt ∈ [(some (0, -1, -1, 0, 0, 0), [], [(60, 0, (0, 1, 6, 0, 0, 0)), (60, 3, (0, 5, 5, 0, 0, 0)), (60, 17, (0, 0, 0, 0, 0, 0))]), (some (0, -2, -2, 0, 0, 0), [(4, 0, 0, 0, 0, 0), (0, 0, 5, 0, 0, 0), (0, 0, 99, 0, 0, 0)], [(60, 0, (0, 1, 6, 0, 0, 0)), (60, 3, (0, 5, 5, 0, 0, 0)), (60, 17, (0, 0, 0, 0, 0, 0)), (60, 39, (0, 1, 20000, 0, 0, 0)), (60, 40, (0, 0, 1000000, 0, 0, 0))]), (some (0, -3, -3, 0, 0, 0), [(4, 0, 0, 0, 0, 0), (0, 0, 5, 0, 0, 0), (0, 0, 99, 0, 0, 0)], [(60, 0, (0, 1, 6, 0, 0, 0)), (60, 3, (0, 5, 5, 0, 0, 0)), (60, 17, (0, 0, 0, 0, 0, 0)), (60, 39, (0, 20001, 1000000, 0, 0, 0))]), (some (0, 0, 999999, 0, 0, 0), [(4, 0, 0, 0, 0, 0), (0, 0, 5, 0, 0, 0), (0, 0, 99, 0, 0, 0)], [(60, 0, (0, 1, 6, 0, 0, 0)), (60, 3, (0, 5, 5, 0, 0, 0)), (60, 16, (0, 5, 5, 0, 0, 0)), (60, 17, (0, 0, 0, 0, 0, 0)), (60, 39, (0, 1, 20000, 0, 0, 0)), (60, 40, (0, 0, 1000000, 0, 0, 0)), (69, 4, (0, -2147483648, 2147483647, 0, 0, 0))])] := ha
  simp only [List.mem_cons, List.not_mem_nil, or_false] at ha
  rcases ha with rfl | rfl | rfl | rfl
  · obtain ⟨z2, e2, r⟩ := gW_int (show gW _ _ from q) (Nat.le_of_ble_eq_true rfl)
    cases e2
    have := gR0 r
    exact Or.inl ⟨this.1, this.2⟩
  · obtain ⟨z2, e2, r⟩ := gW_int (show gW _ _ from q) (Nat.le_of_ble_eq_true rfl)
    cases e2
    have := gR0 r
    exact Or.inr (Or.inl ⟨this.1, this.2⟩)
  · obtain ⟨z2, e2, r⟩ := gW_int (show gW _ _ from q) (Nat.le_of_ble_eq_true rfl)
    cases e2
    have := gR0 r
    exact Or.inr (Or.inr (Or.inl ⟨this.1, this.2⟩))
  · obtain ⟨z2, e2, r⟩ := gW_int (show gW _ _ from q) (Nat.le_of_ble_eq_true rfl)
    cases e2
    have := gR0 r
    have w := gR0 (show gR (0, 5, 5, 0, 0, 0) (M' 60 16) from (p _ (List.mem_cons_of_mem _ (List.mem_cons_of_mem _ List.mem_cons_self))).1)
    exact Or.inr (Or.inr (Or.inr ⟨this.1, this.2, w.1, w.2⟩))
theorem nt_M_guest1_6 {d : Nat} (hd : 5 ≤ d) {M : pM} {a1 : Int} {a2 : Int} (hM : gM gAll M) (h1 : -2147483648 ≤ a1 ∧ a1 ≤ 2147483647) (h2 : -2147483648 ≤ a2 ∧ a2 ≤ 2147483647) (p0 : 1 ≤ M 60 0 ∧ M 60 0 ≤ 6) (p1 : 6 ≤ M 60 3 ∧ M 60 3 ≤ 6) : ∃ z M', xF d 239 [.inr 62, .inl a1, .inl a2] M = rI z M' ∧ ((-1 ≤ z ∧ z ≤ -1) ∨ (-2 ≤ z ∧ z ≤ -2) ∨ (-3 ≤ z ∧ z ≤ -3) ∨ (0 ≤ z ∧ z ≤ 999999 ∧ 6 ≤ M' 60 16 ∧ M' 60 16 ≤ 6)) := by
  have c0 : cOK gAll (xF d) 239 K_1092 := (ct_of (d := d) ct_ok (show K_1092 ∈ CT.getD 239 [] from (show CT.getD 239 [] = [K_967, K_969, K_971, K_973, K_975, K_977, K_979, K_981, K_983, K_985, K_987, K_989, K_556, K_1080, K_943, K_945, K_947, K_949, K_951, K_953, K_955, K_957, K_959, K_961, K_963, K_965, K_1082, K_1084, K_1086, K_1088, K_1090, K_1092, K_1094, K_1096, K_1098, K_1100, K_554] from rfl) ▸ by simp) hd)
  obtain ⟨z, M', e, -, -, alt, ha, q, p⟩ := cOK_I c0 (A := [.inr 62, .inl a1, .inl a2]) (show aF2 gW [aRef 62, (0, -2147483648, 2147483647, 0, 0, 0), (0, -2147483648, 2147483647, 0, 0, 0)] [.inr 62, .inl a1, .inl a2] from ⟨gW_o, gW_i h1.1 h1.2, gW_i h2.1 h2.2, trivial⟩) hM (show gP0 [(60, 0, (0, 1, 6, 0, 0, 0)), (60, 3, (0, 6, 6, 0, 0, 0))] M from fun e he => by
    simp only [List.mem_cons, List.not_mem_nil, or_false] at he
    rcases he with rfl | rfl
    · exact gR_i p0.1 p0.2
    · exact gR_i p1.1 p1.2) rfl
  refine ⟨z, M', e, ?_⟩
  have ha : alt ∈ [(some (0, -1, -1, 0, 0, 0), [], [(60, 0, (0, 1, 6, 0, 0, 0)), (60, 3, (0, 6, 6, 0, 0, 0)), (60, 17, (0, 0, 0, 0, 0, 0))]), (some (0, -2, -2, 0, 0, 0), [(4, 0, 0, 0, 0, 0), (0, 0, 5, 0, 0, 0), (0, 0, 99, 0, 0, 0)], [(60, 0, (0, 1, 6, 0, 0, 0)), (60, 3, (0, 6, 6, 0, 0, 0)), (60, 17, (0, 0, 0, 0, 0, 0)), (60, 39, (0, 1, 20000, 0, 0, 0)), (60, 40, (0, 0, 1000000, 0, 0, 0))]), (some (0, -3, -3, 0, 0, 0), [(4, 0, 0, 0, 0, 0), (0, 0, 5, 0, 0, 0), (0, 0, 99, 0, 0, 0)], [(60, 0, (0, 1, 6, 0, 0, 0)), (60, 3, (0, 6, 6, 0, 0, 0)), (60, 17, (0, 0, 0, 0, 0, 0)), (60, 39, (0, 20001, 1000000, 0, 0, 0))]), (some (0, 0, 999999, 0, 0, 0), [(4, 0, 0, 0, 0, 0), (0, 0, 5, 0, 0, 0), (0, 0, 99, 0, 0, 0)], [(60, 0, (0, 1, 6, 0, 0, 0)), (60, 3, (0, 6, 6, 0, 0, 0)), (60, 16, (0, 6, 6, 0, 0, 0)), (60, 17, (0, 0, 0, 0, 0, 0)), (60, 39, (0, 1, 20000, 0, 0, 0)), (60, 40, (0, 0, 1000000, 0, 0, 0)), (69, 5, (0, -2147483648, 2147483647, 0, 0, 0))])] := ha
  simp only [List.mem_cons, List.not_mem_nil, or_false] at ha
  rcases ha with rfl | rfl | rfl | rfl
  · obtain ⟨z2, e2, r⟩ := gW_int (show gW _ _ from q) (Nat.le_of_ble_eq_true rfl)
    cases e2
    have := gR0 r
    exact Or.inl ⟨this.1, this.2⟩
  · obtain ⟨z2, e2, r⟩ := gW_int (show gW _ _ from q) (Nat.le_of_ble_eq_true rfl)
    cases e2
    have := gR0 r
    exact Or.inr (Or.inl ⟨this.1, this.2⟩)
  · obtain ⟨z2, e2, r⟩ := gW_int (show gW _ _ from q) (Nat.le_of_ble_eq_true rfl)
    cases e2
    have := gR0 r
    exact Or.inr (Or.inr (Or.inl ⟨this.1, this.2⟩))
  · obtain ⟨z2, e2, r⟩ := gW_int (show gW _ _ from q) (Nat.le_of_ble_eq_true rfl)
    cases e2
    have := gR0 r
    have w := gR0 (show gR (0, 6, 6, 0, 0, 0) (M' 60 16) from (p _ (List.mem_cons_of_mem _ (List.mem_cons_of_mem _ List.mem_cons_self))).1)
    exact Or.inr (Or.inr (Or.inr ⟨this.1, this.2, w.1, w.2⟩))
theorem nt_M_guest1_7 {d : Nat} (hd : 5 ≤ d) {M : pM} {a1 : Int} {a2 : Int} (hM : gM gAll M) (h1 : -2147483648 ≤ a1 ∧ a1 ≤ 2147483647) (h2 : -2147483648 ≤ a2 ∧ a2 ≤ 2147483647) (p0 : 1 ≤ M 60 0 ∧ M 60 0 ≤ 6) (p1 : 7 ≤ M 60 3 ∧ M 60 3 ≤ 7) : ∃ z M', xF d 239 [.inr 62, .inl a1, .inl a2] M = rI z M' ∧ ((-1 ≤ z ∧ z ≤ -1) ∨ (-2 ≤ z ∧ z ≤ -2) ∨ (-3 ≤ z ∧ z ≤ -3) ∨ (0 ≤ z ∧ z ≤ 999999 ∧ 7 ≤ M' 60 16 ∧ M' 60 16 ≤ 7)) := by
  have c0 : cOK gAll (xF d) 239 K_1094 := (ct_of (d := d) ct_ok (show K_1094 ∈ CT.getD 239 [] from (show CT.getD 239 [] = [K_967, K_969, K_971, K_973, K_975, K_977, K_979, K_981, K_983, K_985, K_987, K_989, K_556, K_1080, K_943, K_945, K_947, K_949, K_951, K_953, K_955, K_957, K_959, K_961, K_963, K_965, K_1082, K_1084, K_1086, K_1088, K_1090, K_1092, K_1094, K_1096, K_1098, K_1100, K_554] from rfl) ▸ by simp) hd)
  obtain ⟨z, M', e, -, -, alt, ha, q, p⟩ := cOK_I c0 (A := [.inr 62, .inl a1, .inl a2]) (show aF2 gW [aRef 62, (0, -2147483648, 2147483647, 0, 0, 0), (0, -2147483648, 2147483647, 0, 0, 0)] [.inr 62, .inl a1, .inl a2] from ⟨gW_o, gW_i h1.1 h1.2, gW_i h2.1 h2.2, trivial⟩) hM (show gP0 [(60, 0, (0, 1, 6, 0, 0, 0)), (60, 3, (0, 7, 7, 0, 0, 0))] M from fun e he => by
    simp only [List.mem_cons, List.not_mem_nil, or_false] at he
    rcases he with rfl | rfl
    · exact gR_i p0.1 p0.2
    · exact gR_i p1.1 p1.2) rfl
  refine ⟨z, M', e, ?_⟩
  have ha : alt ∈ [(some (0, -1, -1, 0, 0, 0), [], [(60, 0, (0, 1, 6, 0, 0, 0)), (60, 3, (0, 7, 7, 0, 0, 0)), (60, 17, (0, 0, 0, 0, 0, 0))]), (some (0, -2, -2, 0, 0, 0), [(4, 0, 0, 0, 0, 0), (0, 0, 5, 0, 0, 0), (0, 0, 99, 0, 0, 0)], [(60, 0, (0, 1, 6, 0, 0, 0)), (60, 3, (0, 7, 7, 0, 0, 0)), (60, 17, (0, 0, 0, 0, 0, 0)), (60, 39, (0, 1, 20000, 0, 0, 0)), (60, 40, (0, 0, 1000000, 0, 0, 0))]), (some (0, -3, -3, 0, 0, 0), [(4, 0, 0, 0, 0, 0), (0, 0, 5, 0, 0, 0), (0, 0, 99, 0, 0, 0)], [(60, 0, (0, 1, 6, 0, 0, 0)), (60, 3, (0, 7, 7, 0, 0, 0)), (60, 17, (0, 0, 0, 0, 0, 0)), (60, 39, (0, 20001, 1000000, 0, 0, 0))]), (some (0, 0, 999999, 0, 0, 0), [(4, 0, 0, 0, 0, 0), (0, 0, 5, 0, 0, 0), (0, 0, 99, 0, 0, 0)], [(60, 0, (0, 1, 6, 0, 0, 0)), (60, 3, (0, 7, 7, 0, 0, 0)), (60, 16, (0, 7, 7, 0, 0, 0)), (60, 17, (0, 0, 0, 0, 0, 0)), (60, 39, (0, 1, 20000, 0, 0, 0)), (60, 40, (0, 0, 1000000, 0, 0, 0)), (69, 6, (0, -2147483648, 2147483647, 0, 0, 0))])] := ha
  simp only [List.mem_cons, List.not_mem_nil, or_false] at ha
  rcases ha with rfl | rfl | rfl | rfl
  · obtain ⟨z2, e2, r⟩ := gW_int (show gW _ _ from q) (Nat.le_of_ble_eq_true rfl)
    cases e2
    have := gR0 r
    exact Or.inl ⟨this.1, this.2⟩
  · obtain ⟨z2, e2, r⟩ := gW_int (show gW _ _ from q) (Nat.le_of_ble_eq_true rfl)
    cases e2
    have := gR0 r
    exact Or.inr (Or.inl ⟨this.1, this.2⟩)
  · obtain ⟨z2, e2, r⟩ := gW_int (show gW _ _ from q) (Nat.le_of_ble_eq_true rfl)
    cases e2
    have := gR0 r
    exact Or.inr (Or.inr (Or.inl ⟨this.1, this.2⟩))
  · obtain ⟨z2, e2, r⟩ := gW_int (show gW _ _ from q) (Nat.le_of_ble_eq_true rfl)
    cases e2
    have := gR0 r
    have w := gR0 (show gR (0, 7, 7, 0, 0, 0) (M' 60 16) from (p _ (List.mem_cons_of_mem _ (List.mem_cons_of_mem _ List.mem_cons_self))).1)
    exact Or.inr (Or.inr (Or.inr ⟨this.1, this.2, w.1, w.2⟩))
theorem nt_M_guest1_8 {d : Nat} (hd : 5 ≤ d) {M : pM} {a1 : Int} {a2 : Int} (hM : gM gAll M) (h1 : -2147483648 ≤ a1 ∧ a1 ≤ 2147483647) (h2 : -2147483648 ≤ a2 ∧ a2 ≤ 2147483647) (p0 : 1 ≤ M 60 0 ∧ M 60 0 ≤ 6) (p1 : 8 ≤ M 60 3 ∧ M 60 3 ≤ 8) : ∃ z M', xF d 239 [.inr 62, .inl a1, .inl a2] M = rI z M' ∧ ((-1 ≤ z ∧ z ≤ -1) ∨ (-2 ≤ z ∧ z ≤ -2) ∨ (-3 ≤ z ∧ z ≤ -3) ∨ (0 ≤ z ∧ z ≤ 999999 ∧ 8 ≤ M' 60 16 ∧ M' 60 16 ≤ 8)) := by
  have c0 : cOK gAll (xF d) 239 K_1096 := (ct_of (d := d) ct_ok (show K_1096 ∈ CT.getD 239 [] from (show CT.getD 239 [] = [K_967, K_969, K_971, K_973, K_975, K_977, K_979, K_981, K_983, K_985, K_987, K_989, K_556, K_1080, K_943, K_945, K_947, K_949, K_951, K_953, K_955, K_957, K_959, K_961, K_963, K_965, K_1082, K_1084, K_1086, K_1088, K_1090, K_1092, K_1094, K_1096, K_1098, K_1100, K_554] from rfl) ▸ by simp) hd)
  obtain ⟨z, M', e, -, -, alt, ha, q, p⟩ := cOK_I c0 (A := [.inr 62, .inl a1, .inl a2]) (show aF2 gW [aRef 62, (0, -2147483648, 2147483647, 0, 0, 0), (0, -2147483648, 2147483647, 0, 0, 0)] [.inr 62, .inl a1, .inl a2] from ⟨gW_o, gW_i h1.1 h1.2, gW_i h2.1 h2.2, trivial⟩) hM (show gP0 [(60, 0, (0, 1, 6, 0, 0, 0)), (60, 3, (0, 8, 8, 0, 0, 0))] M from fun e he => by
    simp only [List.mem_cons, List.not_mem_nil, or_false] at he
    rcases he with rfl | rfl
    · exact gR_i p0.1 p0.2
    · exact gR_i p1.1 p1.2) rfl
  refine ⟨z, M', e, ?_⟩
  have ha : alt ∈ [(some (0, -1, -1, 0, 0, 0), [], [(60, 0, (0, 1, 6, 0, 0, 0)), (60, 3, (0, 8, 8, 0, 0, 0)), (60, 17, (0, 0, 0, 0, 0, 0))]), (some (0, -2, -2, 0, 0, 0), [(4, 0, 0, 0, 0, 0), (0, 0, 5, 0, 0, 0), (0, 0, 99, 0, 0, 0)], [(60, 0, (0, 1, 6, 0, 0, 0)), (60, 3, (0, 8, 8, 0, 0, 0)), (60, 17, (0, 0, 0, 0, 0, 0)), (60, 39, (0, 1, 20000, 0, 0, 0)), (60, 40, (0, 0, 1000000, 0, 0, 0))]), (some (0, -3, -3, 0, 0, 0), [(4, 0, 0, 0, 0, 0), (0, 0, 5, 0, 0, 0), (0, 0, 99, 0, 0, 0)], [(60, 0, (0, 1, 6, 0, 0, 0)), (60, 3, (0, 8, 8, 0, 0, 0)), (60, 17, (0, 0, 0, 0, 0, 0)), (60, 39, (0, 20001, 1000000, 0, 0, 0))]), (some (0, 0, 999999, 0, 0, 0), [(4, 0, 0, 0, 0, 0), (0, 0, 5, 0, 0, 0), (0, 0, 99, 0, 0, 0)], [(60, 0, (0, 1, 6, 0, 0, 0)), (60, 3, (0, 8, 8, 0, 0, 0)), (60, 16, (0, 8, 8, 0, 0, 0)), (60, 17, (0, 0, 0, 0, 0, 0)), (60, 39, (0, 1, 20000, 0, 0, 0)), (60, 40, (0, 0, 1000000, 0, 0, 0)), (69, 7, (0, -2147483648, 2147483647, 0, 0, 0))])] := ha
  simp only [List.mem_cons, List.not_mem_nil, or_false] at ha
  rcases ha with rfl | rfl | rfl | rfl
  · obtain ⟨z2, e2, r⟩ := gW_int (show gW _ _ from q) (Nat.le_of_ble_eq_true rfl)
    cases e2
    have := gR0 r
    exact Or.inl ⟨this.1, this.2⟩
  · obtain ⟨z2, e2, r⟩ := gW_int (show gW _ _ from q) (Nat.le_of_ble_eq_true rfl)
    cases e2
    have := gR0 r
    exact Or.inr (Or.inl ⟨this.1, this.2⟩)
  · obtain ⟨z2, e2, r⟩ := gW_int (show gW _ _ from q) (Nat.le_of_ble_eq_true rfl)
    cases e2
    have := gR0 r
    exact Or.inr (Or.inr (Or.inl ⟨this.1, this.2⟩))
  · obtain ⟨z2, e2, r⟩ := gW_int (show gW _ _ from q) (Nat.le_of_ble_eq_true rfl)
    cases e2
    have := gR0 r
    have w := gR0 (show gR (0, 8, 8, 0, 0, 0) (M' 60 16) from (p _ (List.mem_cons_of_mem _ (List.mem_cons_of_mem _ List.mem_cons_self))).1)
    exact Or.inr (Or.inr (Or.inr ⟨this.1, this.2, w.1, w.2⟩))
theorem nt_M_guest1_9 {d : Nat} (hd : 5 ≤ d) {M : pM} {a1 : Int} {a2 : Int} (hM : gM gAll M) (h1 : -2147483648 ≤ a1 ∧ a1 ≤ 2147483647) (h2 : -2147483648 ≤ a2 ∧ a2 ≤ 2147483647) (p0 : 1 ≤ M 60 0 ∧ M 60 0 ≤ 6) (p1 : 9 ≤ M 60 3 ∧ M 60 3 ≤ 9) : ∃ z M', xF d 239 [.inr 62, .inl a1, .inl a2] M = rI z M' ∧ ((-1 ≤ z ∧ z ≤ -1) ∨ (-2 ≤ z ∧ z ≤ -2) ∨ (-3 ≤ z ∧ z ≤ -3) ∨ (0 ≤ z ∧ z ≤ 999999 ∧ 9 ≤ M' 60 16 ∧ M' 60 16 ≤ 9)) := by
  have c0 : cOK gAll (xF d) 239 K_1098 := (ct_of (d := d) ct_ok (show K_1098 ∈ CT.getD 239 [] from (show CT.getD 239 [] = [K_967, K_969, K_971, K_973, K_975, K_977, K_979, K_981, K_983, K_985, K_987, K_989, K_556, K_1080, K_943, K_945, K_947, K_949, K_951, K_953, K_955, K_957, K_959, K_961, K_963, K_965, K_1082, K_1084, K_1086, K_1088, K_1090, K_1092, K_1094, K_1096, K_1098, K_1100, K_554] from rfl) ▸ by simp) hd)
  obtain ⟨z, M', e, -, -, alt, ha, q, p⟩ := cOK_I c0 (A := [.inr 62, .inl a1, .inl a2]) (show aF2 gW [aRef 62, (0, -2147483648, 2147483647, 0, 0, 0), (0, -2147483648, 2147483647, 0, 0, 0)] [.inr 62, .inl a1, .inl a2] from ⟨gW_o, gW_i h1.1 h1.2, gW_i h2.1 h2.2, trivial⟩) hM (show gP0 [(60, 0, (0, 1, 6, 0, 0, 0)), (60, 3, (0, 9, 9, 0, 0, 0))] M from fun e he => by
    simp only [List.mem_cons, List.not_mem_nil, or_false] at he
    rcases he with rfl | rfl
    · exact gR_i p0.1 p0.2
    · exact gR_i p1.1 p1.2) rfl
  refine ⟨z, M', e, ?_⟩
  have ha : alt ∈ [(some (0, -1, -1, 0, 0, 0), [], [(60, 0, (0, 1, 6, 0, 0, 0)), (60, 3, (0, 9, 9, 0, 0, 0)), (60, 17, (0, 0, 0, 0, 0, 0))]), (some (0, -2, -2, 0, 0, 0), [(4, 0, 0, 0, 0, 0), (0, 0, 5, 0, 0, 0), (0, 0, 99, 0, 0, 0)], [(60, 0, (0, 1, 6, 0, 0, 0)), (60, 3, (0, 9, 9, 0, 0, 0)), (60, 17, (0, 0, 0, 0, 0, 0)), (60, 39, (0, 1, 20000, 0, 0, 0)), (60, 40, (0, 0, 1000000, 0, 0, 0))]), (some (0, -3, -3, 0, 0, 0), [(4, 0, 0, 0, 0, 0), (0, 0, 5, 0, 0, 0), (0, 0, 99, 0, 0, 0)], [(60, 0, (0, 1, 6, 0, 0, 0)), (60, 3, (0, 9, 9, 0, 0, 0)), (60, 17, (0, 0, 0, 0, 0, 0)), (60, 39, (0, 20001, 1000000, 0, 0, 0))]), (some (0, 0, 999999, 0, 0, 0), [(4, 0, 0, 0, 0, 0), (0, 0, 5, 0, 0, 0), (0, 0, 99, 0, 0, 0)], [(60, 0, (0, 1, 6, 0, 0, 0)), (60, 3, (0, 9, 9, 0, 0, 0)), (60, 16, (0, 9, 9, 0, 0, 0)), (60, 17, (0, 0, 0, 0, 0, 0)), (60, 39, (0, 1, 20000, 0, 0, 0)), (60, 40, (0, 0, 1000000, 0, 0, 0)), (69, 8, (0, -2147483648, 2147483647, 0, 0, 0))])] := ha
  simp only [List.mem_cons, List.not_mem_nil, or_false] at ha
  rcases ha with rfl | rfl | rfl | rfl
  · obtain ⟨z2, e2, r⟩ := gW_int (show gW _ _ from q) (Nat.le_of_ble_eq_true rfl)
    cases e2
    have := gR0 r
    exact Or.inl ⟨this.1, this.2⟩
  · obtain ⟨z2, e2, r⟩ := gW_int (show gW _ _ from q) (Nat.le_of_ble_eq_true rfl)
    cases e2
    have := gR0 r
    exact Or.inr (Or.inl ⟨this.1, this.2⟩)
  · obtain ⟨z2, e2, r⟩ := gW_int (show gW _ _ from q) (Nat.le_of_ble_eq_true rfl)
    cases e2
    have := gR0 r
    exact Or.inr (Or.inr (Or.inl ⟨this.1, this.2⟩))
  · obtain ⟨z2, e2, r⟩ := gW_int (show gW _ _ from q) (Nat.le_of_ble_eq_true rfl)
    cases e2
    have := gR0 r
    have w := gR0 (show gR (0, 9, 9, 0, 0, 0) (M' 60 16) from (p _ (List.mem_cons_of_mem _ (List.mem_cons_of_mem _ List.mem_cons_self))).1)
    exact Or.inr (Or.inr (Or.inr ⟨this.1, this.2, w.1, w.2⟩))
theorem nt_M_guest1_10 {d : Nat} (hd : 5 ≤ d) {M : pM} {a1 : Int} {a2 : Int} (hM : gM gAll M) (h1 : -2147483648 ≤ a1 ∧ a1 ≤ 2147483647) (h2 : -2147483648 ≤ a2 ∧ a2 ≤ 2147483647) (p0 : 1 ≤ M 60 0 ∧ M 60 0 ≤ 6) (p1 : 10 ≤ M 60 3 ∧ M 60 3 ≤ 10) : ∃ z M', xF d 239 [.inr 62, .inl a1, .inl a2] M = rI z M' ∧ ((-1 ≤ z ∧ z ≤ -1) ∨ (-2 ≤ z ∧ z ≤ -2) ∨ (-3 ≤ z ∧ z ≤ -3) ∨ (0 ≤ z ∧ z ≤ 999999 ∧ 10 ≤ M' 60 16 ∧ M' 60 16 ≤ 10)) := by
  have c0 : cOK gAll (xF d) 239 K_1100 := (ct_of (d := d) ct_ok (show K_1100 ∈ CT.getD 239 [] from (show CT.getD 239 [] = [K_967, K_969, K_971, K_973, K_975, K_977, K_979, K_981, K_983, K_985, K_987, K_989, K_556, K_1080, K_943, K_945, K_947, K_949, K_951, K_953, K_955, K_957, K_959, K_961, K_963, K_965, K_1082, K_1084, K_1086, K_1088, K_1090, K_1092, K_1094, K_1096, K_1098, K_1100, K_554] from rfl) ▸ by simp) hd)
  obtain ⟨z, M', e, -, -, alt, ha, q, p⟩ := cOK_I c0 (A := [.inr 62, .inl a1, .inl a2]) (show aF2 gW [aRef 62, (0, -2147483648, 2147483647, 0, 0, 0), (0, -2147483648, 2147483647, 0, 0, 0)] [.inr 62, .inl a1, .inl a2] from ⟨gW_o, gW_i h1.1 h1.2, gW_i h2.1 h2.2, trivial⟩) hM (show gP0 [(60, 0, (0, 1, 6, 0, 0, 0)), (60, 3, (0, 10, 10, 0, 0, 0))] M from fun e he => by
    simp only [List.mem_cons, List.not_mem_nil, or_false] at he
    rcases he with rfl | rfl
    · exact gR_i p0.1 p0.2
    · exact gR_i p1.1 p1.2) rfl
  refine ⟨z, M', e, ?_⟩
  have ha : alt ∈ [(some (0, -1, -1, 0, 0, 0), [], [(60, 0, (0, 1, 6, 0, 0, 0)), (60, 3, (0, 10, 10, 0, 0, 0)), (60, 17, (0, 0, 0, 0, 0, 0))]), (some (0, -2, -2, 0, 0, 0), [(4, 0, 0, 0, 0, 0), (0, 0, 5, 0, 0, 0), (0, 0, 99, 0, 0, 0)], [(60, 0, (0, 1, 6, 0, 0, 0)), (60, 3, (0, 10, 10, 0, 0, 0)), (60, 17, (0, 0, 0, 0, 0, 0)), (60, 39, (0, 1, 20000, 0, 0, 0)), (60, 40, (0, 0, 1000000, 0, 0, 0))]), (some (0, -3, -3, 0, 0, 0), [(4, 0, 0, 0, 0, 0), (0, 0, 5, 0, 0, 0), (0, 0, 99, 0, 0, 0)], [(60, 0, (0, 1, 6, 0, 0, 0)), (60, 3, (0, 10, 10, 0, 0, 0)), (60, 17, (0, 0, 0, 0, 0, 0)), (60, 39, (0, 20001, 1000000, 0, 0, 0))]), (some (0, 0, 999999, 0, 0, 0), [(4, 0, 0, 0, 0, 0), (0, 0, 5, 0, 0, 0), (0, 0, 99, 0, 0, 0)], [(60, 0, (0, 1, 6, 0, 0, 0)), (60, 3, (0, 10, 10, 0, 0, 0)), (60, 16, (0, 10, 10, 0, 0, 0)), (60, 17, (0, 0, 0, 0, 0, 0)), (60, 39, (0, 1, 20000, 0, 0, 0)), (60, 40, (0, 0, 1000000, 0, 0, 0)), (69, 9, (0, -2147483648, 2147483647, 0, 0, 0))])] := ha
  simp only [List.mem_cons, List.not_mem_nil, or_false] at ha
  rcases ha with rfl | rfl | rfl | rfl
  · obtain ⟨z2, e2, r⟩ := gW_int (show gW _ _ from q) (Nat.le_of_ble_eq_true rfl)
    cases e2
    have := gR0 r
    exact Or.inl ⟨this.1, this.2⟩
  · obtain ⟨z2, e2, r⟩ := gW_int (show gW _ _ from q) (Nat.le_of_ble_eq_true rfl)
    cases e2
    have := gR0 r
    exact Or.inr (Or.inl ⟨this.1, this.2⟩)
  · obtain ⟨z2, e2, r⟩ := gW_int (show gW _ _ from q) (Nat.le_of_ble_eq_true rfl)
    cases e2
    have := gR0 r
    exact Or.inr (Or.inr (Or.inl ⟨this.1, this.2⟩))
  · obtain ⟨z2, e2, r⟩ := gW_int (show gW _ _ from q) (Nat.le_of_ble_eq_true rfl)
    cases e2
    have := gR0 r
    have w := gR0 (show gR (0, 10, 10, 0, 0, 0) (M' 60 16) from (p _ (List.mem_cons_of_mem _ (List.mem_cons_of_mem _ List.mem_cons_self))).1)
    exact Or.inr (Or.inr (Or.inr ⟨this.1, this.2, w.1, w.2⟩))
theorem nt_M_guest1 {d : Nat} (hd : 5 ≤ d) {M M' : pM} {a1 : Int} {a2 : Int} {v : Int} (hM : gM gAll M) (h1 : -2147483648 ≤ a1 ∧ a1 ≤ 2147483647) (h2 : -2147483648 ≤ a2 ∧ a2 ≤ 2147483647) (p0 : 1 ≤ M 60 0 ∧ M 60 0 ≤ 6) {n : Nat} (hn : n ≤ 10) (hc : M 60 3 = (n : Int)) (e : xF d 239 [.inr 62, .inl a1, .inl a2] M = rI v M') : (-1 ≤ v ∧ v ≤ -1) ∨ (-2 ≤ v ∧ v ≤ -2) ∨ (0 ≤ v ∧ v ≤ 999999 ∧ M' 60 16 = (n : Int)) ∨ (-3 ≤ v ∧ v ≤ -3) := by
  rcases (show n = 0 ∨ n = 1 ∨ n = 2 ∨ n = 3 ∨ n = 4 ∨ n = 5 ∨ n = 6 ∨ n = 7 ∨ n = 8 ∨ n = 9 ∨ n = 10 by omega) with rfl | rfl | rfl | rfl | rfl | rfl | rfl | rfl | rfl | rfl | rfl
  · obtain ⟨z, M2, e2, r⟩ := nt_M_guest1_0 (d := d) (by omega) hM h1 h2 p0 (by omega)
    obtain ⟨y1, y2⟩ := rI_inj (e.symm.trans e2)
    rw [y1, y2]
    rcases r with r | r | r
    · exact Or.inl (by omega)
    · exact Or.inr (Or.inl (by omega))
    · exact Or.inr (Or.inr (Or.inl (by omega)))
  · obtain ⟨z, M2, e2, r⟩ := nt_M_guest1_1 (d := d) (by omega) hM h1 h2 p0 (by omega)
    obtain ⟨y1, y2⟩ := rI_inj (e.symm.trans e2)
    rw [y1, y2]
    rcases r with r | r | r | r
    · exact Or.inl (by omega)
    · exact Or.inr (Or.inl (by omega))
    · exact Or.inr (Or.inr (Or.inr ((by omega))))
    · exact Or.inr (Or.inr (Or.inl (by omega)))
  · obtain ⟨z, M2, e2, r⟩ := nt_M_guest1_2 (d := d) (by omega) hM h1 h2 p0 (by omega)
    obtain ⟨y1, y2⟩ := rI_inj (e.symm.trans e2)
    rw [y1, y2]
    rcases r with r | r | r | r
    · exact Or.inl (by omega)
    · exact Or.inr (Or.inl (by omega))
    · exact Or.inr (Or.inr (Or.inr ((by omega))))
    · exact Or.inr (Or.inr (Or.inl (by omega)))
  · obtain ⟨z, M2, e2, r⟩ := nt_M_guest1_3 (d := d) (by omega) hM h1 h2 p0 (by omega)
    obtain ⟨y1, y2⟩ := rI_inj (e.symm.trans e2)
    rw [y1, y2]
    rcases r with r | r | r | r
    · exact Or.inl (by omega)
    · exact Or.inr (Or.inl (by omega))
    · exact Or.inr (Or.inr (Or.inr ((by omega))))
    · exact Or.inr (Or.inr (Or.inl (by omega)))
  · obtain ⟨z, M2, e2, r⟩ := nt_M_guest1_4 (d := d) (by omega) hM h1 h2 p0 (by omega)
    obtain ⟨y1, y2⟩ := rI_inj (e.symm.trans e2)
    rw [y1, y2]
    rcases r with r | r | r | r
    · exact Or.inl (by omega)
    · exact Or.inr (Or.inl (by omega))
    · exact Or.inr (Or.inr (Or.inr ((by omega))))
    · exact Or.inr (Or.inr (Or.inl (by omega)))
  · obtain ⟨z, M2, e2, r⟩ := nt_M_guest1_5 (d := d) (by omega) hM h1 h2 p0 (by omega)
    obtain ⟨y1, y2⟩ := rI_inj (e.symm.trans e2)
    rw [y1, y2]
    rcases r with r | r | r | r
    · exact Or.inl (by omega)
    · exact Or.inr (Or.inl (by omega))
    · exact Or.inr (Or.inr (Or.inr ((by omega))))
    · exact Or.inr (Or.inr (Or.inl (by omega)))
  · obtain ⟨z, M2, e2, r⟩ := nt_M_guest1_6 (d := d) (by omega) hM h1 h2 p0 (by omega)
    obtain ⟨y1, y2⟩ := rI_inj (e.symm.trans e2)
    rw [y1, y2]
    rcases r with r | r | r | r
    · exact Or.inl (by omega)
    · exact Or.inr (Or.inl (by omega))
    · exact Or.inr (Or.inr (Or.inr ((by omega))))
    · exact Or.inr (Or.inr (Or.inl (by omega)))
  · obtain ⟨z, M2, e2, r⟩ := nt_M_guest1_7 (d := d) (by omega) hM h1 h2 p0 (by omega)
    obtain ⟨y1, y2⟩ := rI_inj (e.symm.trans e2)
    rw [y1, y2]
    rcases r with r | r | r | r
    · exact Or.inl (by omega)
    · exact Or.inr (Or.inl (by omega))
    · exact Or.inr (Or.inr (Or.inr ((by omega))))
    · exact Or.inr (Or.inr (Or.inl (by omega)))
  · obtain ⟨z, M2, e2, r⟩ := nt_M_guest1_8 (d := d) (by omega) hM h1 h2 p0 (by omega)
    obtain ⟨y1, y2⟩ := rI_inj (e.symm.trans e2)
    rw [y1, y2]
    rcases r with r | r | r | r
    · exact Or.inl (by omega)
    · exact Or.inr (Or.inl (by omega))
    · exact Or.inr (Or.inr (Or.inr ((by omega))))
    · exact Or.inr (Or.inr (Or.inl (by omega)))
  · obtain ⟨z, M2, e2, r⟩ := nt_M_guest1_9 (d := d) (by omega) hM h1 h2 p0 (by omega)
    obtain ⟨y1, y2⟩ := rI_inj (e.symm.trans e2)
    rw [y1, y2]
    rcases r with r | r | r | r
    · exact Or.inl (by omega)
    · exact Or.inr (Or.inl (by omega))
    · exact Or.inr (Or.inr (Or.inr ((by omega))))
    · exact Or.inr (Or.inr (Or.inl (by omega)))
  · obtain ⟨z, M2, e2, r⟩ := nt_M_guest1_10 (d := d) (by omega) hM h1 h2 p0 (by omega)
    obtain ⟨y1, y2⟩ := rI_inj (e.symm.trans e2)
    rw [y1, y2]
    rcases r with r | r | r | r
    · exact Or.inl (by omega)
    · exact Or.inr (Or.inl (by omega))
    · exact Or.inr (Or.inr (Or.inr ((by omega))))
    · exact Or.inr (Or.inr (Or.inl (by omega)))
theorem nt_M_fullest1_0 {d : Nat} (hd : 4 ≤ d) {M : pM} {a1 : Int} (hM : gM gAll M) (h1 : -2147483648 ≤ a1 ∧ a1 ≤ 2147483647) (p0 : 1 ≤ M 60 0 ∧ M 60 0 ≤ 6) (p1 : 0 ≤ M 60 3 ∧ M 60 3 ≤ 0) : ∃ z M', xF d 244 [.inr 62, .inl a1] M = rI z M' ∧ ((-1 ≤ z ∧ z ≤ -1) ∨ (-2 ≤ z ∧ z ≤ -2) ∨ (0 ≤ M' 60 16 ∧ M' 60 16 ≤ 0)) := by
  have c0 : cOK gAll (xF d) 244 K_1101 := (ct_of (d := d) ct_ok (show K_1101 ∈ CT.getD 244 [] from (show CT.getD 244 [] = [K_567, K_1101, K_1102, K_1103, K_1104, K_1105, K_1106, K_1107, K_1108, K_1109, K_1110, K_1111, K_566] from rfl) ▸ by simp) hd)
  obtain ⟨z, M', e, -, -, alt, ha, q, p⟩ := cOK_I c0 (A := [.inr 62, .inl a1]) (show aF2 gW [aRef 62, (0, -2147483648, 2147483647, 0, 0, 0)] [.inr 62, .inl a1] from ⟨gW_o, gW_i h1.1 h1.2, trivial⟩) hM (show gP0 [(60, 0, (0, 1, 6, 0, 0, 0)), (60, 3, (0, 0, 0, 0, 0, 0))] M from fun e he => by
    simp only [List.mem_cons, List.not_mem_nil, or_false] at he
    rcases he with rfl | rfl
    · exact gR_i p0.1 p0.2
    · exact gR_i p1.1 p1.2) rfl
  refine ⟨z, M', e, ?_⟩
  have ha : alt ∈ [(some (0, -1, -1, 0, 0, 0), [], [(60, 0, (0, 1, 6, 0, 0, 0)), (60, 3, (0, 0, 0, 0, 0, 0)), (60, 17, (0, 0, 0, 0, 0, 0))]), (some (0, -2, -2, 0, 0, 0), [(4, 0, 0, 0, 0, 0), (0, 0, 5, 0, 0, 0)], [(60, 0, (0, 1, 6, 0, 0, 0)), (60, 3, (0, 0, 0, 0, 0, 0)), (60, 17, (0, 0, 0, 0, 0, 0)), (60, 30, (0, 0, 0, 0, 0, 0)), (60, 39, (0, 1, 1, 0, 0, 0)), (60, 40, (0, 0, 1000000, 0, 0, 0))]), (some (1, 0, 0, 0, 0, 0), [(4, 0, 0, 0, 0, 0), (0, 0, 5, 0, 0, 0)], [(60, 0, (0, 1, 6, 0, 0, 0)), (60, 3, (0, 0, 0, 0, 0, 0)), (60, 16, (0, 0, 0, 0, 0, 0)), (60, 17, (0, 0, 0, 0, 0, 0)), (60, 30, (0, 0, 0, 0, 0, 0)), (60, 39, (0, 1, 1, 0, 0, 0)), (60, 40, (0, 0, 1000000, 0, 0, 0))])] := ha
  simp only [List.mem_cons, List.not_mem_nil, or_false] at ha
  rcases ha with rfl | rfl | rfl
  · obtain ⟨z2, e2, r⟩ := gW_int (show gW _ _ from q) (Nat.le_of_ble_eq_true rfl)
    cases e2
    have := gR0 r
    exact Or.inl ⟨this.1, this.2⟩
  · obtain ⟨z2, e2, r⟩ := gW_int (show gW _ _ from q) (Nat.le_of_ble_eq_true rfl)
    cases e2
    have := gR0 r
    exact Or.inr (Or.inl ⟨this.1, this.2⟩)
  · have w := gR0 (show gR (0, 0, 0, 0, 0, 0) (M' 60 16) from (p _ (List.mem_cons_of_mem _ (List.mem_cons_of_mem _ List.mem_cons_self))).1)
    exact Or.inr (Or.inr ⟨w.1, w.2⟩)
theorem nt_M_fullest1_1 {d : Nat} (hd : 4 ≤ d) {M : pM} {a1 : Int} (hM : gM gAll M) (h1 : -2147483648 ≤ a1 ∧ a1 ≤ 2147483647) (p0 : 1 ≤ M 60 0 ∧ M 60 0 ≤ 6) (p1 : 1 ≤ M 60 3 ∧ M 60 3 ≤ 1) : ∃ z M', xF d 244 [.inr 62, .inl a1] M = rI z M' ∧ ((-1 ≤ z ∧ z ≤ -1) ∨ (-2 ≤ z ∧ z ≤ -2) ∨ (-3 ≤ z ∧ z ≤ -3) ∨ (1 ≤ M' 60 16 ∧ M' 60 16 ≤ 1)) := by
  have c0 : cOK gAll (xF d) 244 K_1102 := (ct_of (d := d) ct_ok (show K_1102 ∈ CT.getD 244 [] from (show CT.getD 244 [] = [K_567, K_1101, K_1102, K_1103, K_1104, K_1105, K_1106, K_1107, K_1108, K_1109, K_1110, K_1111, K_566] from rfl) ▸ by simp) hd)
  obtain ⟨z, M', e, -, -, alt, ha, q, p⟩ := cOK_I c0 (A := [.inr 62, .inl a1]) (show aF2 gW [aRef 62, (0, -2147483648, 2147483647, 0, 0, 0)] [.inr 62, .inl a1] from ⟨gW_o, gW_i h1.1 h1.2, trivial⟩) hM (show gP0 [(60, 0, (0, 1, 6, 0, 0, 0)), (60, 3, (0, 1, 1, 0, 0, 0))] M from fun e he => by
    simp only [List.mem_cons, List.not_mem_nil, or_false] at he
    rcases he with rfl | rfl
    · exact gR_i p0.1 p0.2
    · exact gR_i p1.1 p1.2) rfl
  refine ⟨z, M', e, ?_⟩
  have ha : alt ∈ [(some (0, -1, -1, 0, 0, 0), [], [(60, 0, (0, 1, 6, 0, 0, 0)), (60, 3, (0, 1, 1, 0, 0, 0)), (60, 17, (0, 0, 0, 0, 0, 0))]), (some (0, -2, -2, 0, 0, 0), [(4, 0, 0, 0, 0, 0), (0, 0, 5, 0, 0, 0)], [(60, 0, (0, 1, 6, 0, 0, 0)), (60, 3, (0, 1, 1, 0, 0, 0)), (60, 17, (0, 0, 0, 0, 0, 0)), (60, 39, (0, 1, 20000, 0, 0, 0)), (60, 40, (0, 0, 1000000, 0, 0, 0))]), (some (0, -3, -3, 0, 0, 0), [(4, 0, 0, 0, 0, 0), (0, 0, 5, 0, 0, 0)], [(60, 0, (0, 1, 6, 0, 0, 0)), (60, 3, (0, 1, 1, 0, 0, 0)), (60, 17, (0, 0, 0, 0, 0, 0)), (60, 39, (0, 20001, 1000000, 0, 0, 0))]), (some (1, 0, 0, 0, 0, 0), [(4, 0, 0, 0, 0, 0), (0, 0, 5, 0, 0, 0)], [(60, 0, (0, 1, 6, 0, 0, 0)), (60, 3, (0, 1, 1, 0, 0, 0)), (60, 16, (0, 1, 1, 0, 0, 0)), (60, 17, (0, 0, 0, 0, 0, 0)), (60, 39, (0, 1, 20000, 0, 0, 0)), (60, 40, (0, 0, 1000000, 0, 0, 0)), (69, 0, (0, -2147483648, 2147483647, 0, 0, 0))])] := ha
  simp only [List.mem_cons, List.not_mem_nil, or_false] at ha
  rcases ha with rfl | rfl | rfl | rfl
  · obtain ⟨z2, e2, r⟩ := gW_int (show gW _ _ from q) (Nat.le_of_ble_eq_true rfl)
    cases e2
    have := gR0 r
    exact Or.inl ⟨this.1, this.2⟩
  · obtain ⟨z2, e2, r⟩ := gW_int (show gW _ _ from q) (Nat.le_of_ble_eq_true rfl)
    cases e2
    have := gR0 r
    exact Or.inr (Or.inl ⟨this.1, this.2⟩)
  · obtain ⟨z2, e2, r⟩ := gW_int (show gW _ _ from q) (Nat.le_of_ble_eq_true rfl)
    cases e2
    have := gR0 r
    exact Or.inr (Or.inr (Or.inl ⟨this.1, this.2⟩))
  · have w := gR0 (show gR (0, 1, 1, 0, 0, 0) (M' 60 16) from (p _ (List.mem_cons_of_mem _ (List.mem_cons_of_mem _ List.mem_cons_self))).1)
    exact Or.inr (Or.inr (Or.inr ⟨w.1, w.2⟩))
theorem nt_M_fullest1_2 {d : Nat} (hd : 4 ≤ d) {M : pM} {a1 : Int} (hM : gM gAll M) (h1 : -2147483648 ≤ a1 ∧ a1 ≤ 2147483647) (p0 : 1 ≤ M 60 0 ∧ M 60 0 ≤ 6) (p1 : 2 ≤ M 60 3 ∧ M 60 3 ≤ 2) : ∃ z M', xF d 244 [.inr 62, .inl a1] M = rI z M' ∧ ((-1 ≤ z ∧ z ≤ -1) ∨ (-2 ≤ z ∧ z ≤ -2) ∨ (-3 ≤ z ∧ z ≤ -3) ∨ (2 ≤ M' 60 16 ∧ M' 60 16 ≤ 2)) := by
  have c0 : cOK gAll (xF d) 244 K_1103 := (ct_of (d := d) ct_ok (show K_1103 ∈ CT.getD 244 [] from (show CT.getD 244 [] = [K_567, K_1101, K_1102, K_1103, K_1104, K_1105, K_1106, K_1107, K_1108, K_1109, K_1110, K_1111, K_566] from rfl) ▸ by simp) hd)
  obtain ⟨z, M', e, -, -, alt, ha, q, p⟩ := cOK_I c0 (A := [.inr 62, .inl a1]) (show aF2 gW [aRef 62, (0, -2147483648, 2147483647, 0, 0, 0)] [.inr 62, .inl a1] from ⟨gW_o, gW_i h1.1 h1.2, trivial⟩) hM (show gP0 [(60, 0, (0, 1, 6, 0, 0, 0)), (60, 3, (0, 2, 2, 0, 0, 0))] M from fun e he => by
    simp only [List.mem_cons, List.not_mem_nil, or_false] at he
    rcases he with rfl | rfl
    · exact gR_i p0.1 p0.2
    · exact gR_i p1.1 p1.2) rfl
  refine ⟨z, M', e, ?_⟩
  have ha : alt ∈ [(some (0, -1, -1, 0, 0, 0), [], [(60, 0, (0, 1, 6, 0, 0, 0)), (60, 3, (0, 2, 2, 0, 0, 0)), (60, 17, (0, 0, 0, 0, 0, 0))]), (some (0, -2, -2, 0, 0, 0), [(4, 0, 0, 0, 0, 0), (0, 0, 5, 0, 0, 0)], [(60, 0, (0, 1, 6, 0, 0, 0)), (60, 3, (0, 2, 2, 0, 0, 0)), (60, 17, (0, 0, 0, 0, 0, 0)), (60, 39, (0, 1, 20000, 0, 0, 0)), (60, 40, (0, 0, 1000000, 0, 0, 0))]), (some (0, -3, -3, 0, 0, 0), [(4, 0, 0, 0, 0, 0), (0, 0, 5, 0, 0, 0)], [(60, 0, (0, 1, 6, 0, 0, 0)), (60, 3, (0, 2, 2, 0, 0, 0)), (60, 17, (0, 0, 0, 0, 0, 0)), (60, 39, (0, 20001, 1000000, 0, 0, 0))]), (some (1, 0, 0, 0, 0, 0), [(4, 0, 0, 0, 0, 0), (0, 0, 5, 0, 0, 0)], [(60, 0, (0, 1, 6, 0, 0, 0)), (60, 3, (0, 2, 2, 0, 0, 0)), (60, 16, (0, 2, 2, 0, 0, 0)), (60, 17, (0, 0, 0, 0, 0, 0)), (60, 39, (0, 1, 20000, 0, 0, 0)), (60, 40, (0, 0, 1000000, 0, 0, 0)), (69, 1, (0, -2147483648, 2147483647, 0, 0, 0))])] := ha
  simp only [List.mem_cons, List.not_mem_nil, or_false] at ha
  rcases ha with rfl | rfl | rfl | rfl
  · obtain ⟨z2, e2, r⟩ := gW_int (show gW _ _ from q) (Nat.le_of_ble_eq_true rfl)
    cases e2
    have := gR0 r
    exact Or.inl ⟨this.1, this.2⟩
  · obtain ⟨z2, e2, r⟩ := gW_int (show gW _ _ from q) (Nat.le_of_ble_eq_true rfl)
    cases e2
    have := gR0 r
    exact Or.inr (Or.inl ⟨this.1, this.2⟩)
  · obtain ⟨z2, e2, r⟩ := gW_int (show gW _ _ from q) (Nat.le_of_ble_eq_true rfl)
    cases e2
    have := gR0 r
    exact Or.inr (Or.inr (Or.inl ⟨this.1, this.2⟩))
  · have w := gR0 (show gR (0, 2, 2, 0, 0, 0) (M' 60 16) from (p _ (List.mem_cons_of_mem _ (List.mem_cons_of_mem _ List.mem_cons_self))).1)
    exact Or.inr (Or.inr (Or.inr ⟨w.1, w.2⟩))
theorem nt_M_fullest1_3 {d : Nat} (hd : 4 ≤ d) {M : pM} {a1 : Int} (hM : gM gAll M) (h1 : -2147483648 ≤ a1 ∧ a1 ≤ 2147483647) (p0 : 1 ≤ M 60 0 ∧ M 60 0 ≤ 6) (p1 : 3 ≤ M 60 3 ∧ M 60 3 ≤ 3) : ∃ z M', xF d 244 [.inr 62, .inl a1] M = rI z M' ∧ ((-1 ≤ z ∧ z ≤ -1) ∨ (-2 ≤ z ∧ z ≤ -2) ∨ (-3 ≤ z ∧ z ≤ -3) ∨ (3 ≤ M' 60 16 ∧ M' 60 16 ≤ 3)) := by
  have c0 : cOK gAll (xF d) 244 K_1104 := (ct_of (d := d) ct_ok (show K_1104 ∈ CT.getD 244 [] from (show CT.getD 244 [] = [K_567, K_1101, K_1102, K_1103, K_1104, K_1105, K_1106, K_1107, K_1108, K_1109, K_1110, K_1111, K_566] from rfl) ▸ by simp) hd)
  obtain ⟨z, M', e, -, -, alt, ha, q, p⟩ := cOK_I c0 (A := [.inr 62, .inl a1]) (show aF2 gW [aRef 62, (0, -2147483648, 2147483647, 0, 0, 0)] [.inr 62, .inl a1] from ⟨gW_o, gW_i h1.1 h1.2, trivial⟩) hM (show gP0 [(60, 0, (0, 1, 6, 0, 0, 0)), (60, 3, (0, 3, 3, 0, 0, 0))] M from fun e he => by
    simp only [List.mem_cons, List.not_mem_nil, or_false] at he
    rcases he with rfl | rfl
    · exact gR_i p0.1 p0.2
    · exact gR_i p1.1 p1.2) rfl
  refine ⟨z, M', e, ?_⟩
  have ha : alt ∈ [(some (0, -1, -1, 0, 0, 0), [], [(60, 0, (0, 1, 6, 0, 0, 0)), (60, 3, (0, 3, 3, 0, 0, 0)), (60, 17, (0, 0, 0, 0, 0, 0))]), (some (0, -2, -2, 0, 0, 0), [(4, 0, 0, 0, 0, 0), (0, 0, 5, 0, 0, 0)], [(60, 0, (0, 1, 6, 0, 0, 0)), (60, 3, (0, 3, 3, 0, 0, 0)), (60, 17, (0, 0, 0, 0, 0, 0)), (60, 39, (0, 1, 20000, 0, 0, 0)), (60, 40, (0, 0, 1000000, 0, 0, 0))]), (some (0, -3, -3, 0, 0, 0), [(4, 0, 0, 0, 0, 0), (0, 0, 5, 0, 0, 0)], [(60, 0, (0, 1, 6, 0, 0, 0)), (60, 3, (0, 3, 3, 0, 0, 0)), (60, 17, (0, 0, 0, 0, 0, 0)), (60, 39, (0, 20001, 1000000, 0, 0, 0))]), (some (1, 0, 0, 0, 0, 0), [(4, 0, 0, 0, 0, 0), (0, 0, 5, 0, 0, 0)], [(60, 0, (0, 1, 6, 0, 0, 0)), (60, 3, (0, 3, 3, 0, 0, 0)), (60, 16, (0, 3, 3, 0, 0, 0)), (60, 17, (0, 0, 0, 0, 0, 0)), (60, 39, (0, 1, 20000, 0, 0, 0)), (60, 40, (0, 0, 1000000, 0, 0, 0)), (69, 2, (0, -2147483648, 2147483647, 0, 0, 0))])] := ha
  simp only [List.mem_cons, List.not_mem_nil, or_false] at ha
  rcases ha with rfl | rfl | rfl | rfl
  · obtain ⟨z2, e2, r⟩ := gW_int (show gW _ _ from q) (Nat.le_of_ble_eq_true rfl)
    cases e2
    have := gR0 r
    exact Or.inl ⟨this.1, this.2⟩
  · obtain ⟨z2, e2, r⟩ := gW_int (show gW _ _ from q) (Nat.le_of_ble_eq_true rfl)
    cases e2
    have := gR0 r
    exact Or.inr (Or.inl ⟨this.1, this.2⟩)
  · obtain ⟨z2, e2, r⟩ := gW_int (show gW _ _ from q) (Nat.le_of_ble_eq_true rfl)
    cases e2
    have := gR0 r
    exact Or.inr (Or.inr (Or.inl ⟨this.1, this.2⟩))
  · have w := gR0 (show gR (0, 3, 3, 0, 0, 0) (M' 60 16) from (p _ (List.mem_cons_of_mem _ (List.mem_cons_of_mem _ List.mem_cons_self))).1)
    exact Or.inr (Or.inr (Or.inr ⟨w.1, w.2⟩))
theorem nt_M_fullest1_4 {d : Nat} (hd : 4 ≤ d) {M : pM} {a1 : Int} (hM : gM gAll M) (h1 : -2147483648 ≤ a1 ∧ a1 ≤ 2147483647) (p0 : 1 ≤ M 60 0 ∧ M 60 0 ≤ 6) (p1 : 4 ≤ M 60 3 ∧ M 60 3 ≤ 4) : ∃ z M', xF d 244 [.inr 62, .inl a1] M = rI z M' ∧ ((-1 ≤ z ∧ z ≤ -1) ∨ (-2 ≤ z ∧ z ≤ -2) ∨ (-3 ≤ z ∧ z ≤ -3) ∨ (4 ≤ M' 60 16 ∧ M' 60 16 ≤ 4)) := by
  have c0 : cOK gAll (xF d) 244 K_1105 := (ct_of (d := d) ct_ok (show K_1105 ∈ CT.getD 244 [] from (show CT.getD 244 [] = [K_567, K_1101, K_1102, K_1103, K_1104, K_1105, K_1106, K_1107, K_1108, K_1109, K_1110, K_1111, K_566] from rfl) ▸ by simp) hd)
  obtain ⟨z, M', e, -, -, alt, ha, q, p⟩ := cOK_I c0 (A := [.inr 62, .inl a1]) (show aF2 gW [aRef 62, (0, -2147483648, 2147483647, 0, 0, 0)] [.inr 62, .inl a1] from ⟨gW_o, gW_i h1.1 h1.2, trivial⟩) hM (show gP0 [(60, 0, (0, 1, 6, 0, 0, 0)), (60, 3, (0, 4, 4, 0, 0, 0))] M from fun e he => by
    simp only [List.mem_cons, List.not_mem_nil, or_false] at he
    rcases he with rfl | rfl
    · exact gR_i p0.1 p0.2
    · exact gR_i p1.1 p1.2) rfl
  refine ⟨z, M', e, ?_⟩
  have ha : alt ∈ [(some (0, -1, -1, 0, 0, 0), [], [(60, 0, (0, 1, 6, 0, 0, 0)), (60, 3, (0, 4, 4, 0, 0, 0)), (60, 17, (0, 0, 0, 0, 0, 0))]), (some (0, -2, -2, 0, 0, 0), [(4, 0, 0, 0, 0, 0), (0, 0, 5, 0, 0, 0)], [(60, 0, (0, 1, 6, 0, 0, 0)), (60, 3, (0, 4, 4, 0, 0, 0)), (60, 17, (0, 0, 0, 0, 0, 0)), (60, 39, (0, 1, 20000, 0, 0, 0)), (60, 40, (0, 0, 1000000, 0, 0, 0))]), (some (0, -3, -3, 0, 0, 0), [(4, 0, 0, 0, 0, 0), (0, 0, 5, 0, 0, 0)], [(60, 0, (0, 1, 6, 0, 0, 0)), (60, 3, (0, 4, 4, 0, 0, 0)), (60, 17, (0, 0, 0, 0, 0, 0)), (60, 39, (0, 20001, 1000000, 0, 0, 0))]), (some (1, 0, 0, 0, 0, 0), [(4, 0, 0, 0, 0, 0), (0, 0, 5, 0, 0, 0)], [(60, 0, (0, 1, 6, 0, 0, 0)), (60, 3, (0, 4, 4, 0, 0, 0)), (60, 16, (0, 4, 4, 0, 0, 0)), (60, 17, (0, 0, 0, 0, 0, 0)), (60, 39, (0, 1, 20000, 0, 0, 0)), (60, 40, (0, 0, 1000000, 0, 0, 0)), (69, 3, (0, -2147483648, 2147483647, 0, 0, 0))])] := ha
  simp only [List.mem_cons, List.not_mem_nil, or_false] at ha
  rcases ha with rfl | rfl | rfl | rfl
  · obtain ⟨z2, e2, r⟩ := gW_int (show gW _ _ from q) (Nat.le_of_ble_eq_true rfl)
    cases e2
    have := gR0 r
    exact Or.inl ⟨this.1, this.2⟩
  · obtain ⟨z2, e2, r⟩ := gW_int (show gW _ _ from q) (Nat.le_of_ble_eq_true rfl)
    cases e2
    have := gR0 r
    exact Or.inr (Or.inl ⟨this.1, this.2⟩)
  · obtain ⟨z2, e2, r⟩ := gW_int (show gW _ _ from q) (Nat.le_of_ble_eq_true rfl)
    cases e2
    have := gR0 r
    exact Or.inr (Or.inr (Or.inl ⟨this.1, this.2⟩))
  · have w := gR0 (show gR (0, 4, 4, 0, 0, 0) (M' 60 16) from (p _ (List.mem_cons_of_mem _ (List.mem_cons_of_mem _ List.mem_cons_self))).1)
    exact Or.inr (Or.inr (Or.inr ⟨w.1, w.2⟩))
theorem nt_M_fullest1_5 {d : Nat} (hd : 4 ≤ d) {M : pM} {a1 : Int} (hM : gM gAll M) (h1 : -2147483648 ≤ a1 ∧ a1 ≤ 2147483647) (p0 : 1 ≤ M 60 0 ∧ M 60 0 ≤ 6) (p1 : 5 ≤ M 60 3 ∧ M 60 3 ≤ 5) : ∃ z M', xF d 244 [.inr 62, .inl a1] M = rI z M' ∧ ((-1 ≤ z ∧ z ≤ -1) ∨ (-2 ≤ z ∧ z ≤ -2) ∨ (-3 ≤ z ∧ z ≤ -3) ∨ (5 ≤ M' 60 16 ∧ M' 60 16 ≤ 5)) := by
  have c0 : cOK gAll (xF d) 244 K_1106 := (ct_of (d := d) ct_ok (show K_1106 ∈ CT.getD 244 [] from (show CT.getD 244 [] = [K_567, K_1101, K_1102, K_1103, K_1104, K_1105, K_1106, K_1107, K_1108, K_1109, K_1110, K_1111, K_566] from rfl) ▸ by simp) hd)
  obtain ⟨z, M', e, -, -, alt, ha, q, p⟩ := cOK_I c0 (A := [.inr 62, .inl a1]) (show aF2 gW [aRef 62, (0, -2147483648, 2147483647, 0, 0, 0)] [.inr 62, .inl a1] from ⟨gW_o, gW_i h1.1 h1.2, trivial⟩) hM (show gP0 [(60, 0, (0, 1, 6, 0, 0, 0)), (60, 3, (0, 5, 5, 0, 0, 0))] M from fun e he => by
    simp only [List.mem_cons, List.not_mem_nil, or_false] at he
    rcases he with rfl | rfl
    · exact gR_i p0.1 p0.2
    · exact gR_i p1.1 p1.2) rfl
  refine ⟨z, M', e, ?_⟩
  have ha : alt ∈ [(some (0, -1, -1, 0, 0, 0), [], [(60, 0, (0, 1, 6, 0, 0, 0)), (60, 3, (0, 5, 5, 0, 0, 0)), (60, 17, (0, 0, 0, 0, 0, 0))]), (some (0, -2, -2, 0, 0, 0), [(4, 0, 0, 0, 0, 0), (0, 0, 5, 0, 0, 0)], [(60, 0, (0, 1, 6, 0, 0, 0)), (60, 3, (0, 5, 5, 0, 0, 0)), (60, 17, (0, 0, 0, 0, 0, 0)), (60, 39, (0, 1, 20000, 0, 0, 0)), (60, 40, (0, 0, 1000000, 0, 0, 0))]), (some (0, -3, -3, 0, 0, 0), [(4, 0, 0, 0, 0, 0), (0, 0, 5, 0, 0, 0)], [(60, 0, (0, 1, 6, 0, 0, 0)), (60, 3, (0, 5, 5, 0, 0, 0)), (60, 17, (0, 0, 0, 0, 0, 0)), (60, 39, (0, 20001, 1000000, 0, 0, 0))]), (some (1, 0, 0, 0, 0, 0), [(4, 0, 0, 0, 0, 0), (0, 0, 5, 0, 0, 0)], [(60, 0, (0, 1, 6, 0, 0, 0)), (60, 3, (0, 5, 5, 0, 0, 0)), (60, 16, (0, 5, 5, 0, 0, 0)), (60, 17, (0, 0, 0, 0, 0, 0)), (60, 39, (0, 1, 20000, 0, 0, 0)), (60, 40, (0, 0, 1000000, 0, 0, 0)), (69, 4, (0, -2147483648, 2147483647, 0, 0, 0))])] := ha
  simp only [List.mem_cons, List.not_mem_nil, or_false] at ha
  rcases ha with rfl | rfl | rfl | rfl
  · obtain ⟨z2, e2, r⟩ := gW_int (show gW _ _ from q) (Nat.le_of_ble_eq_true rfl)
    cases e2
    have := gR0 r
    exact Or.inl ⟨this.1, this.2⟩
  · obtain ⟨z2, e2, r⟩ := gW_int (show gW _ _ from q) (Nat.le_of_ble_eq_true rfl)
    cases e2
    have := gR0 r
    exact Or.inr (Or.inl ⟨this.1, this.2⟩)
  · obtain ⟨z2, e2, r⟩ := gW_int (show gW _ _ from q) (Nat.le_of_ble_eq_true rfl)
    cases e2
    have := gR0 r
    exact Or.inr (Or.inr (Or.inl ⟨this.1, this.2⟩))
  · have w := gR0 (show gR (0, 5, 5, 0, 0, 0) (M' 60 16) from (p _ (List.mem_cons_of_mem _ (List.mem_cons_of_mem _ List.mem_cons_self))).1)
    exact Or.inr (Or.inr (Or.inr ⟨w.1, w.2⟩))
theorem nt_M_fullest1_6 {d : Nat} (hd : 4 ≤ d) {M : pM} {a1 : Int} (hM : gM gAll M) (h1 : -2147483648 ≤ a1 ∧ a1 ≤ 2147483647) (p0 : 1 ≤ M 60 0 ∧ M 60 0 ≤ 6) (p1 : 6 ≤ M 60 3 ∧ M 60 3 ≤ 6) : ∃ z M', xF d 244 [.inr 62, .inl a1] M = rI z M' ∧ ((-1 ≤ z ∧ z ≤ -1) ∨ (-2 ≤ z ∧ z ≤ -2) ∨ (-3 ≤ z ∧ z ≤ -3) ∨ (6 ≤ M' 60 16 ∧ M' 60 16 ≤ 6)) := by
  have c0 : cOK gAll (xF d) 244 K_1107 := (ct_of (d := d) ct_ok (show K_1107 ∈ CT.getD 244 [] from (show CT.getD 244 [] = [K_567, K_1101, K_1102, K_1103, K_1104, K_1105, K_1106, K_1107, K_1108, K_1109, K_1110, K_1111, K_566] from rfl) ▸ by simp) hd)
  obtain ⟨z, M', e, -, -, alt, ha, q, p⟩ := cOK_I c0 (A := [.inr 62, .inl a1]) (show aF2 gW [aRef 62, (0, -2147483648, 2147483647, 0, 0, 0)] [.inr 62, .inl a1] from ⟨gW_o, gW_i h1.1 h1.2, trivial⟩) hM (show gP0 [(60, 0, (0, 1, 6, 0, 0, 0)), (60, 3, (0, 6, 6, 0, 0, 0))] M from fun e he => by
    simp only [List.mem_cons, List.not_mem_nil, or_false] at he
    rcases he with rfl | rfl
    · exact gR_i p0.1 p0.2
    · exact gR_i p1.1 p1.2) rfl
  refine ⟨z, M', e, ?_⟩
  have ha : alt ∈ [(some (0, -1, -1, 0, 0, 0), [], [(60, 0, (0, 1, 6, 0, 0, 0)), (60, 3, (0, 6, 6, 0, 0, 0)), (60, 17, (0, 0, 0, 0, 0, 0))]), (some (0, -2, -2, 0, 0, 0), [(4, 0, 0, 0, 0, 0), (0, 0, 5, 0, 0, 0)], [(60, 0, (0, 1, 6, 0, 0, 0)), (60, 3, (0, 6, 6, 0, 0, 0)), (60, 17, (0, 0, 0, 0, 0, 0)), (60, 39, (0, 1, 20000, 0, 0, 0)), (60, 40, (0, 0, 1000000, 0, 0, 0))]), (some (0, -3, -3, 0, 0, 0), [(4, 0, 0, 0, 0, 0), (0, 0, 5, 0, 0, 0)], [(60, 0, (0, 1, 6, 0, 0, 0)), (60, 3, (0, 6, 6, 0, 0, 0)), (60, 17, (0, 0, 0, 0, 0, 0)), (60, 39, (0, 20001, 1000000, 0, 0, 0))]), (some (1, 0, 0, 0, 0, 0), [(4, 0, 0, 0, 0, 0), (0, 0, 5, 0, 0, 0)], [(60, 0, (0, 1, 6, 0, 0, 0)), (60, 3, (0, 6, 6, 0, 0, 0)), (60, 16, (0, 6, 6, 0, 0, 0)), (60, 17, (0, 0, 0, 0, 0, 0)), (60, 39, (0, 1, 20000, 0, 0, 0)), (60, 40, (0, 0, 1000000, 0, 0, 0)), (69, 5, (0, -2147483648, 2147483647, 0, 0, 0))])] := ha
  simp only [List.mem_cons, List.not_mem_nil, or_false] at ha
  rcases ha with rfl | rfl | rfl | rfl
  · obtain ⟨z2, e2, r⟩ := gW_int (show gW _ _ from q) (Nat.le_of_ble_eq_true rfl)
    cases e2
    have := gR0 r
    exact Or.inl ⟨this.1, this.2⟩
  · obtain ⟨z2, e2, r⟩ := gW_int (show gW _ _ from q) (Nat.le_of_ble_eq_true rfl)
    cases e2
    have := gR0 r
    exact Or.inr (Or.inl ⟨this.1, this.2⟩)
  · obtain ⟨z2, e2, r⟩ := gW_int (show gW _ _ from q) (Nat.le_of_ble_eq_true rfl)
    cases e2
    have := gR0 r
    exact Or.inr (Or.inr (Or.inl ⟨this.1, this.2⟩))
  · have w := gR0 (show gR (0, 6, 6, 0, 0, 0) (M' 60 16) from (p _ (List.mem_cons_of_mem _ (List.mem_cons_of_mem _ List.mem_cons_self))).1)
    exact Or.inr (Or.inr (Or.inr ⟨w.1, w.2⟩))
theorem nt_M_fullest1_7 {d : Nat} (hd : 4 ≤ d) {M : pM} {a1 : Int} (hM : gM gAll M) (h1 : -2147483648 ≤ a1 ∧ a1 ≤ 2147483647) (p0 : 1 ≤ M 60 0 ∧ M 60 0 ≤ 6) (p1 : 7 ≤ M 60 3 ∧ M 60 3 ≤ 7) : ∃ z M', xF d 244 [.inr 62, .inl a1] M = rI z M' ∧ ((-1 ≤ z ∧ z ≤ -1) ∨ (-2 ≤ z ∧ z ≤ -2) ∨ (-3 ≤ z ∧ z ≤ -3) ∨ (7 ≤ M' 60 16 ∧ M' 60 16 ≤ 7)) := by
  have c0 : cOK gAll (xF d) 244 K_1108 := (ct_of (d := d) ct_ok (show K_1108 ∈ CT.getD 244 [] from (show CT.getD 244 [] = [K_567, K_1101, K_1102, K_1103, K_1104, K_1105, K_1106, K_1107, K_1108, K_1109, K_1110, K_1111, K_566] from rfl) ▸ by simp) hd)
  obtain ⟨z, M', e, -, -, alt, ha, q, p⟩ := cOK_I c0 (A := [.inr 62, .inl a1]) (show aF2 gW [aRef 62, (0, -2147483648, 2147483647, 0, 0, 0)] [.inr 62, .inl a1] from ⟨gW_o, gW_i h1.1 h1.2, trivial⟩) hM (show gP0 [(60, 0, (0, 1, 6, 0, 0, 0)), (60, 3, (0, 7, 7, 0, 0, 0))] M from fun e he => by
    simp only [List.mem_cons, List.not_mem_nil, or_false] at he
    rcases he with rfl | rfl
    · exact gR_i p0.1 p0.2
    · exact gR_i p1.1 p1.2) rfl
  refine ⟨z, M', e, ?_⟩
  have ha : alt ∈ [(some (0, -1, -1, 0, 0, 0), [], [(60, 0, (0, 1, 6, 0, 0, 0)), (60, 3, (0, 7, 7, 0, 0, 0)), (60, 17, (0, 0, 0, 0, 0, 0))]), (some (0, -2, -2, 0, 0, 0), [(4, 0, 0, 0, 0, 0), (0, 0, 5, 0, 0, 0)], [(60, 0, (0, 1, 6, 0, 0, 0)), (60, 3, (0, 7, 7, 0, 0, 0)), (60, 17, (0, 0, 0, 0, 0, 0)), (60, 39, (0, 1, 20000, 0, 0, 0)), (60, 40, (0, 0, 1000000, 0, 0, 0))]), (some (0, -3, -3, 0, 0, 0), [(4, 0, 0, 0, 0, 0), (0, 0, 5, 0, 0, 0)], [(60, 0, (0, 1, 6, 0, 0, 0)), (60, 3, (0, 7, 7, 0, 0, 0)), (60, 17, (0, 0, 0, 0, 0, 0)), (60, 39, (0, 20001, 1000000, 0, 0, 0))]), (some (1, 0, 0, 0, 0, 0), [(4, 0, 0, 0, 0, 0), (0, 0, 5, 0, 0, 0)], [(60, 0, (0, 1, 6, 0, 0, 0)), (60, 3, (0, 7, 7, 0, 0, 0)), (60, 16, (0, 7, 7, 0, 0, 0)), (60, 17, (0, 0, 0, 0, 0, 0)), (60, 39, (0, 1, 20000, 0, 0, 0)), (60, 40, (0, 0, 1000000, 0, 0, 0)), (69, 6, (0, -2147483648, 2147483647, 0, 0, 0))])] := ha
  simp only [List.mem_cons, List.not_mem_nil, or_false] at ha
  rcases ha with rfl | rfl | rfl | rfl
  · obtain ⟨z2, e2, r⟩ := gW_int (show gW _ _ from q) (Nat.le_of_ble_eq_true rfl)
    cases e2
    have := gR0 r
    exact Or.inl ⟨this.1, this.2⟩
  · obtain ⟨z2, e2, r⟩ := gW_int (show gW _ _ from q) (Nat.le_of_ble_eq_true rfl)
    cases e2
    have := gR0 r
    exact Or.inr (Or.inl ⟨this.1, this.2⟩)
  · obtain ⟨z2, e2, r⟩ := gW_int (show gW _ _ from q) (Nat.le_of_ble_eq_true rfl)
    cases e2
    have := gR0 r
    exact Or.inr (Or.inr (Or.inl ⟨this.1, this.2⟩))
  · have w := gR0 (show gR (0, 7, 7, 0, 0, 0) (M' 60 16) from (p _ (List.mem_cons_of_mem _ (List.mem_cons_of_mem _ List.mem_cons_self))).1)
    exact Or.inr (Or.inr (Or.inr ⟨w.1, w.2⟩))
theorem nt_M_fullest1_8 {d : Nat} (hd : 4 ≤ d) {M : pM} {a1 : Int} (hM : gM gAll M) (h1 : -2147483648 ≤ a1 ∧ a1 ≤ 2147483647) (p0 : 1 ≤ M 60 0 ∧ M 60 0 ≤ 6) (p1 : 8 ≤ M 60 3 ∧ M 60 3 ≤ 8) : ∃ z M', xF d 244 [.inr 62, .inl a1] M = rI z M' ∧ ((-1 ≤ z ∧ z ≤ -1) ∨ (-2 ≤ z ∧ z ≤ -2) ∨ (-3 ≤ z ∧ z ≤ -3) ∨ (8 ≤ M' 60 16 ∧ M' 60 16 ≤ 8)) := by
  have c0 : cOK gAll (xF d) 244 K_1109 := (ct_of (d := d) ct_ok (show K_1109 ∈ CT.getD 244 [] from (show CT.getD 244 [] = [K_567, K_1101, K_1102, K_1103, K_1104, K_1105, K_1106, K_1107, K_1108, K_1109, K_1110, K_1111, K_566] from rfl) ▸ by simp) hd)
  obtain ⟨z, M', e, -, -, alt, ha, q, p⟩ := cOK_I c0 (A := [.inr 62, .inl a1]) (show aF2 gW [aRef 62, (0, -2147483648, 2147483647, 0, 0, 0)] [.inr 62, .inl a1] from ⟨gW_o, gW_i h1.1 h1.2, trivial⟩) hM (show gP0 [(60, 0, (0, 1, 6, 0, 0, 0)), (60, 3, (0, 8, 8, 0, 0, 0))] M from fun e he => by
    simp only [List.mem_cons, List.not_mem_nil, or_false] at he
    rcases he with rfl | rfl
    · exact gR_i p0.1 p0.2
    · exact gR_i p1.1 p1.2) rfl
  refine ⟨z, M', e, ?_⟩
  have ha : alt ∈ [(some (0, -1, -1, 0, 0, 0), [], [(60, 0, (0, 1, 6, 0, 0, 0)), (60, 3, (0, 8, 8, 0, 0, 0)), (60, 17, (0, 0, 0, 0, 0, 0))]), (some (0, -2, -2, 0, 0, 0), [(4, 0, 0, 0, 0, 0), (0, 0, 5, 0, 0, 0)], [(60, 0, (0, 1, 6, 0, 0, 0)), (60, 3, (0, 8, 8, 0, 0, 0)), (60, 17, (0, 0, 0, 0, 0, 0)), (60, 39, (0, 1, 20000, 0, 0, 0)), (60, 40, (0, 0, 1000000, 0, 0, 0))]), (some (0, -3, -3, 0, 0, 0), [(4, 0, 0, 0, 0, 0), (0, 0, 5, 0, 0, 0)], [(60, 0, (0, 1, 6, 0, 0, 0)), (60, 3, (0, 8, 8, 0, 0, 0)), (60, 17, (0, 0, 0, 0, 0, 0)), (60, 39, (0, 20001, 1000000, 0, 0, 0))]), (some (1, 0, 0, 0, 0, 0), [(4, 0, 0, 0, 0, 0), (0, 0, 5, 0, 0, 0)], [(60, 0, (0, 1, 6, 0, 0, 0)), (60, 3, (0, 8, 8, 0, 0, 0)), (60, 16, (0, 8, 8, 0, 0, 0)), (60, 17, (0, 0, 0, 0, 0, 0)), (60, 39, (0, 1, 20000, 0, 0, 0)), (60, 40, (0, 0, 1000000, 0, 0, 0)), (69, 7, (0, -2147483648, 2147483647, 0, 0, 0))])] := ha
  simp only [List.mem_cons, List.not_mem_nil, or_false] at ha
  rcases ha with rfl | rfl | rfl | rfl
  · obtain ⟨z2, e2, r⟩ := gW_int (show gW _ _ from q) (Nat.le_of_ble_eq_true rfl)
    cases e2
    have := gR0 r
    exact Or.inl ⟨this.1, this.2⟩
  · obtain ⟨z2, e2, r⟩ := gW_int (show gW _ _ from q) (Nat.le_of_ble_eq_true rfl)
    cases e2
    have := gR0 r
    exact Or.inr (Or.inl ⟨this.1, this.2⟩)
  · obtain ⟨z2, e2, r⟩ := gW_int (show gW _ _ from q) (Nat.le_of_ble_eq_true rfl)
    cases e2
    have := gR0 r
    exact Or.inr (Or.inr (Or.inl ⟨this.1, this.2⟩))
  · have w := gR0 (show gR (0, 8, 8, 0, 0, 0) (M' 60 16) from (p _ (List.mem_cons_of_mem _ (List.mem_cons_of_mem _ List.mem_cons_self))).1)
    exact Or.inr (Or.inr (Or.inr ⟨w.1, w.2⟩))
theorem nt_M_fullest1_9 {d : Nat} (hd : 4 ≤ d) {M : pM} {a1 : Int} (hM : gM gAll M) (h1 : -2147483648 ≤ a1 ∧ a1 ≤ 2147483647) (p0 : 1 ≤ M 60 0 ∧ M 60 0 ≤ 6) (p1 : 9 ≤ M 60 3 ∧ M 60 3 ≤ 9) : ∃ z M', xF d 244 [.inr 62, .inl a1] M = rI z M' ∧ ((-1 ≤ z ∧ z ≤ -1) ∨ (-2 ≤ z ∧ z ≤ -2) ∨ (-3 ≤ z ∧ z ≤ -3) ∨ (9 ≤ M' 60 16 ∧ M' 60 16 ≤ 9)) := by
  have c0 : cOK gAll (xF d) 244 K_1110 := (ct_of (d := d) ct_ok (show K_1110 ∈ CT.getD 244 [] from (show CT.getD 244 [] = [K_567, K_1101, K_1102, K_1103, K_1104, K_1105, K_1106, K_1107, K_1108, K_1109, K_1110, K_1111, K_566] from rfl) ▸ by simp) hd)
  obtain ⟨z, M', e, -, -, alt, ha, q, p⟩ := cOK_I c0 (A := [.inr 62, .inl a1]) (show aF2 gW [aRef 62, (0, -2147483648, 2147483647, 0, 0, 0)] [.inr 62, .inl a1] from ⟨gW_o, gW_i h1.1 h1.2, trivial⟩) hM (show gP0 [(60, 0, (0, 1, 6, 0, 0, 0)), (60, 3, (0, 9, 9, 0, 0, 0))] M from fun e he => by
    simp only [List.mem_cons, List.not_mem_nil, or_false] at he
    rcases he with rfl | rfl
    · exact gR_i p0.1 p0.2
    · exact gR_i p1.1 p1.2) rfl
  refine ⟨z, M', e, ?_⟩
  have ha : alt ∈ [(some (0, -1, -1, 0, 0, 0), [], [(60, 0, (0, 1, 6, 0, 0, 0)), (60, 3, (0, 9, 9, 0, 0, 0)), (60, 17, (0, 0, 0, 0, 0, 0))]), (some (0, -2, -2, 0, 0, 0), [(4, 0, 0, 0, 0, 0), (0, 0, 5, 0, 0, 0)], [(60, 0, (0, 1, 6, 0, 0, 0)), (60, 3, (0, 9, 9, 0, 0, 0)), (60, 17, (0, 0, 0, 0, 0, 0)), (60, 39, (0, 1, 20000, 0, 0, 0)), (60, 40, (0, 0, 1000000, 0, 0, 0))]), (some (0, -3, -3, 0, 0, 0), [(4, 0, 0, 0, 0, 0), (0, 0, 5, 0, 0, 0)], [(60, 0, (0, 1, 6, 0, 0, 0)), (60, 3, (0, 9, 9, 0, 0, 0)), (60, 17, (0, 0, 0, 0, 0, 0)), (60, 39, (0, 20001, 1000000, 0, 0, 0))]), (some (1, 0, 0, 0, 0, 0), [(4, 0, 0, 0, 0, 0), (0, 0, 5, 0, 0, 0)], [(60, 0, (0, 1, 6, 0, 0, 0)), (60, 3, (0, 9, 9, 0, 0, 0)), (60, 16, (0, 9, 9, 0, 0, 0)), (60, 17, (0, 0, 0, 0, 0, 0)), (60, 39, (0, 1, 20000, 0, 0, 0)), (60, 40, (0, 0, 1000000, 0, 0, 0)), (69, 8, (0, -2147483648, 2147483647, 0, 0, 0))])] := ha
  simp only [List.mem_cons, List.not_mem_nil, or_false] at ha
  rcases ha with rfl | rfl | rfl | rfl
  · obtain ⟨z2, e2, r⟩ := gW_int (show gW _ _ from q) (Nat.le_of_ble_eq_true rfl)
    cases e2
    have := gR0 r
    exact Or.inl ⟨this.1, this.2⟩
  · obtain ⟨z2, e2, r⟩ := gW_int (show gW _ _ from q) (Nat.le_of_ble_eq_true rfl)
    cases e2
    have := gR0 r
    exact Or.inr (Or.inl ⟨this.1, this.2⟩)
  · obtain ⟨z2, e2, r⟩ := gW_int (show gW _ _ from q) (Nat.le_of_ble_eq_true rfl)
    cases e2
    have := gR0 r
    exact Or.inr (Or.inr (Or.inl ⟨this.1, this.2⟩))
  · have w := gR0 (show gR (0, 9, 9, 0, 0, 0) (M' 60 16) from (p _ (List.mem_cons_of_mem _ (List.mem_cons_of_mem _ List.mem_cons_self))).1)
    exact Or.inr (Or.inr (Or.inr ⟨w.1, w.2⟩))
theorem nt_M_fullest1_10 {d : Nat} (hd : 4 ≤ d) {M : pM} {a1 : Int} (hM : gM gAll M) (h1 : -2147483648 ≤ a1 ∧ a1 ≤ 2147483647) (p0 : 1 ≤ M 60 0 ∧ M 60 0 ≤ 6) (p1 : 10 ≤ M 60 3 ∧ M 60 3 ≤ 10) : ∃ z M', xF d 244 [.inr 62, .inl a1] M = rI z M' ∧ ((-1 ≤ z ∧ z ≤ -1) ∨ (-2 ≤ z ∧ z ≤ -2) ∨ (-3 ≤ z ∧ z ≤ -3) ∨ (10 ≤ M' 60 16 ∧ M' 60 16 ≤ 10)) := by
  have c0 : cOK gAll (xF d) 244 K_1111 := (ct_of (d := d) ct_ok (show K_1111 ∈ CT.getD 244 [] from (show CT.getD 244 [] = [K_567, K_1101, K_1102, K_1103, K_1104, K_1105, K_1106, K_1107, K_1108, K_1109, K_1110, K_1111, K_566] from rfl) ▸ by simp) hd)
  obtain ⟨z, M', e, -, -, alt, ha, q, p⟩ := cOK_I c0 (A := [.inr 62, .inl a1]) (show aF2 gW [aRef 62, (0, -2147483648, 2147483647, 0, 0, 0)] [.inr 62, .inl a1] from ⟨gW_o, gW_i h1.1 h1.2, trivial⟩) hM (show gP0 [(60, 0, (0, 1, 6, 0, 0, 0)), (60, 3, (0, 10, 10, 0, 0, 0))] M from fun e he => by
    simp only [List.mem_cons, List.not_mem_nil, or_false] at he
    rcases he with rfl | rfl
    · exact gR_i p0.1 p0.2
    · exact gR_i p1.1 p1.2) rfl
  refine ⟨z, M', e, ?_⟩
  have ha : alt ∈ [(some (0, -1, -1, 0, 0, 0), [], [(60, 0, (0, 1, 6, 0, 0, 0)), (60, 3, (0, 10, 10, 0, 0, 0)), (60, 17, (0, 0, 0, 0, 0, 0))]), (some (0, -2, -2, 0, 0, 0), [(4, 0, 0, 0, 0, 0), (0, 0, 5, 0, 0, 0)], [(60, 0, (0, 1, 6, 0, 0, 0)), (60, 3, (0, 10, 10, 0, 0, 0)), (60, 17, (0, 0, 0, 0, 0, 0)), (60, 39, (0, 1, 20000, 0, 0, 0)), (60, 40, (0, 0, 1000000, 0, 0, 0))]), (some (0, -3, -3, 0, 0, 0), [(4, 0, 0, 0, 0, 0), (0, 0, 5, 0, 0, 0)], [(60, 0, (0, 1, 6, 0, 0, 0)), (60, 3, (0, 10, 10, 0, 0, 0)), (60, 17, (0, 0, 0, 0, 0, 0)), (60, 39, (0, 20001, 1000000, 0, 0, 0))]), (some (1, 0, 0, 0, 0, 0), [(4, 0, 0, 0, 0, 0), (0, 0, 5, 0, 0, 0)], [(60, 0, (0, 1, 6, 0, 0, 0)), (60, 3, (0, 10, 10, 0, 0, 0)), (60, 16, (0, 10, 10, 0, 0, 0)), (60, 17, (0, 0, 0, 0, 0, 0)), (60, 39, (0, 1, 20000, 0, 0, 0)), (60, 40, (0, 0, 1000000, 0, 0, 0)), (69, 9, (0, -2147483648, 2147483647, 0, 0, 0))])] := ha
  simp only [List.mem_cons, List.not_mem_nil, or_false] at ha
  rcases ha with rfl | rfl | rfl | rfl
  · obtain ⟨z2, e2, r⟩ := gW_int (show gW _ _ from q) (Nat.le_of_ble_eq_true rfl)
    cases e2
    have := gR0 r
    exact Or.inl ⟨this.1, this.2⟩
  · obtain ⟨z2, e2, r⟩ := gW_int (show gW _ _ from q) (Nat.le_of_ble_eq_true rfl)
    cases e2
    have := gR0 r
    exact Or.inr (Or.inl ⟨this.1, this.2⟩)
  · obtain ⟨z2, e2, r⟩ := gW_int (show gW _ _ from q) (Nat.le_of_ble_eq_true rfl)
    cases e2
    have := gR0 r
    exact Or.inr (Or.inr (Or.inl ⟨this.1, this.2⟩))
  · have w := gR0 (show gR (0, 10, 10, 0, 0, 0) (M' 60 16) from (p _ (List.mem_cons_of_mem _ (List.mem_cons_of_mem _ List.mem_cons_self))).1)
    exact Or.inr (Or.inr (Or.inr ⟨w.1, w.2⟩))
theorem nt_M_fullest1 {d : Nat} (hd : 4 ≤ d) {M M' : pM} {a1 : Int} {v : Int} (hM : gM gAll M) (h1 : -2147483648 ≤ a1 ∧ a1 ≤ 2147483647) (p0 : 1 ≤ M 60 0 ∧ M 60 0 ≤ 6) {n : Nat} (hn : n ≤ 10) (hc : M 60 3 = (n : Int)) (e : xF d 244 [.inr 62, .inl a1] M = rI v M') : (-1 ≤ v ∧ v ≤ -1) ∨ (-2 ≤ v ∧ v ≤ -2) ∨ (M' 60 16 = (n : Int)) ∨ (-3 ≤ v ∧ v ≤ -3) := by
  rcases (show n = 0 ∨ n = 1 ∨ n = 2 ∨ n = 3 ∨ n = 4 ∨ n = 5 ∨ n = 6 ∨ n = 7 ∨ n = 8 ∨ n = 9 ∨ n = 10 by omega) with rfl | rfl | rfl | rfl | rfl | rfl | rfl | rfl | rfl | rfl | rfl
  · obtain ⟨z, M2, e2, r⟩ := nt_M_fullest1_0 (d := d) (by omega) hM h1 p0 (by omega)
    obtain ⟨y1, y2⟩ := rI_inj (e.symm.trans e2)
    rw [y1, y2]
    rcases r with r | r | r
    · exact Or.inl (by omega)
    · exact Or.inr (Or.inl (by omega))
    · exact Or.inr (Or.inr (Or.inl (by omega)))
  · obtain ⟨z, M2, e2, r⟩ := nt_M_fullest1_1 (d := d) (by omega) hM h1 p0 (by omega)
    obtain ⟨y1, y2⟩ := rI_inj (e.symm.trans e2)
    rw [y1, y2]
    rcases r with r | r | r | r
    · exact Or.inl (by omega)
    · exact Or.inr (Or.inl (by omega))
    · exact Or.inr (Or.inr (Or.inr ((by omega))))
    · exact Or.inr (Or.inr (Or.inl (by omega)))
  · obtain ⟨z, M2, e2, r⟩ := nt_M_fullest1_2 (d := d) (by omega) hM h1 p0 (by omega)
    obtain ⟨y1, y2⟩ := rI_inj (e.symm.trans e2)
    rw [y1, y2]
    rcases r with r | r | r | r
    · exact Or.inl (by omega)
    · exact Or.inr (Or.inl (by omega))
    · exact Or.inr (Or.inr (Or.inr ((by omega))))
    · exact Or.inr (Or.inr (Or.inl (by omega)))
  · obtain ⟨z, M2, e2, r⟩ := nt_M_fullest1_3 (d := d) (by omega) hM h1 p0 (by omega)
    obtain ⟨y1, y2⟩ := rI_inj (e.symm.trans e2)
    rw [y1, y2]
    rcases r with r | r | r | r
    · exact Or.inl (by omega)
    · exact Or.inr (Or.inl (by omega))
    · exact Or.inr (Or.inr (Or.inr ((by omega))))
    · exact Or.inr (Or.inr (Or.inl (by omega)))
  · obtain ⟨z, M2, e2, r⟩ := nt_M_fullest1_4 (d := d) (by omega) hM h1 p0 (by omega)
    obtain ⟨y1, y2⟩ := rI_inj (e.symm.trans e2)
    rw [y1, y2]
    rcases r with r | r | r | r
    · exact Or.inl (by omega)
    · exact Or.inr (Or.inl (by omega))
    · exact Or.inr (Or.inr (Or.inr ((by omega))))
    · exact Or.inr (Or.inr (Or.inl (by omega)))
  · obtain ⟨z, M2, e2, r⟩ := nt_M_fullest1_5 (d := d) (by omega) hM h1 p0 (by omega)
    obtain ⟨y1, y2⟩ := rI_inj (e.symm.trans e2)
    rw [y1, y2]
    rcases r with r | r | r | r
    · exact Or.inl (by omega)
    · exact Or.inr (Or.inl (by omega))
    · exact Or.inr (Or.inr (Or.inr ((by omega))))
    · exact Or.inr (Or.inr (Or.inl (by omega)))
  · obtain ⟨z, M2, e2, r⟩ := nt_M_fullest1_6 (d := d) (by omega) hM h1 p0 (by omega)
    obtain ⟨y1, y2⟩ := rI_inj (e.symm.trans e2)
    rw [y1, y2]
    rcases r with r | r | r | r
    · exact Or.inl (by omega)
    · exact Or.inr (Or.inl (by omega))
    · exact Or.inr (Or.inr (Or.inr ((by omega))))
    · exact Or.inr (Or.inr (Or.inl (by omega)))
  · obtain ⟨z, M2, e2, r⟩ := nt_M_fullest1_7 (d := d) (by omega) hM h1 p0 (by omega)
    obtain ⟨y1, y2⟩ := rI_inj (e.symm.trans e2)
    rw [y1, y2]
    rcases r with r | r | r | r
    · exact Or.inl (by omega)
    · exact Or.inr (Or.inl (by omega))
    · exact Or.inr (Or.inr (Or.inr ((by omega))))
    · exact Or.inr (Or.inr (Or.inl (by omega)))
  · obtain ⟨z, M2, e2, r⟩ := nt_M_fullest1_8 (d := d) (by omega) hM h1 p0 (by omega)
    obtain ⟨y1, y2⟩ := rI_inj (e.symm.trans e2)
    rw [y1, y2]
    rcases r with r | r | r | r
    · exact Or.inl (by omega)
    · exact Or.inr (Or.inl (by omega))
    · exact Or.inr (Or.inr (Or.inr ((by omega))))
    · exact Or.inr (Or.inr (Or.inl (by omega)))
  · obtain ⟨z, M2, e2, r⟩ := nt_M_fullest1_9 (d := d) (by omega) hM h1 p0 (by omega)
    obtain ⟨y1, y2⟩ := rI_inj (e.symm.trans e2)
    rw [y1, y2]
    rcases r with r | r | r | r
    · exact Or.inl (by omega)
    · exact Or.inr (Or.inl (by omega))
    · exact Or.inr (Or.inr (Or.inr ((by omega))))
    · exact Or.inr (Or.inr (Or.inl (by omega)))
  · obtain ⟨z, M2, e2, r⟩ := nt_M_fullest1_10 (d := d) (by omega) hM h1 p0 (by omega)
    obtain ⟨y1, y2⟩ := rI_inj (e.symm.trans e2)
    rw [y1, y2]
    rcases r with r | r | r | r
    · exact Or.inl (by omega)
    · exact Or.inr (Or.inl (by omega))
    · exact Or.inr (Or.inr (Or.inr ((by omega))))
    · exact Or.inr (Or.inr (Or.inl (by omega)))
theorem nt_M_space1_0 {d : Nat} (hd : 4 ≤ d) {M : pM} (hM : gM gAll M) (p0 : 1 ≤ M 60 0 ∧ M 60 0 ≤ 6) (p1 : 0 ≤ M 60 3 ∧ M 60 3 ≤ 0) : ∃ z M', xF d 240 [.inr 62] M = rI z M' ∧ ((-2 ≤ z ∧ z ≤ -2) ∨ (1 ≤ M' 60 16 ∧ M' 60 16 ≤ 1)) := by
  have c0 : cOK gAll (xF d) 240 K_1112 := (ct_of (d := d) ct_ok (show K_1112 ∈ CT.getD 240 [] from (show CT.getD 240 [] = [K_1112, K_1114, K_1116, K_1118, K_1120, K_1122, K_1124, K_1126, K_1128, K_1130, K_1132, K_559] from rfl) ▸ by simp) hd)
  obtain ⟨z, M', e, -, -, alt, ha, q, p⟩ := cOK_I c0 (A := [.inr 62]) (show aF2 gW [aRef 62] [.inr 62] from ⟨gW_o, trivial⟩) hM (show gP0 [(60, 0, (0, 1, 6, 0, 0, 0)), (60, 3, (0, 0, 0, 0, 0, 0))] M from fun e he => by
    simp only [List.mem_cons, List.not_mem_nil, or_false] at he
    rcases he with rfl | rfl
    · exact gR_i p0.1 p0.2
    · exact gR_i p1.1 p1.2) rfl
  refine ⟨z, M', e, ?_⟩
  have ha : alt ∈ [(some (0, -2, -2, 0, 0, 0), [], [(60, 0, (0, 1, 6, 0, 0, 0)), (60, 3, (0, 0, 0, 0, 0, 0)), (60, 17, (0, 0, 0, 0, 0, 0)), (60, 30, (0, 0, 0, 0, 0, 0)), (60, 39, (0, 1, 1, 0, 0, 0)), (60, 40, (0, 0, 1000000, 0, 0, 0))]), (some (1, 0, 0, 0, 0, 0), [], [(60, 0, (0, 1, 6, 0, 0, 0)), (60, 3, (0, 0, 0, 0, 0, 0)), (60, 16, (0, 1, 1, 0, 0, 0)), (60, 17, (0, 0, 0, 0, 0, 0)), (60, 30, (0, 0, 0, 0, 0, 0)), (60, 39, (0, 1, 1, 0, 0, 0)), (60, 40, (0, 0, 1000000, 0, 0, 0)), (69, 0, (0, -2147483648, 2147483647, 0, 0, 0))])] := ha
  simp only [List.mem_cons, List.not_mem_nil, or_false] at ha
  rcases ha with rfl | rfl
  · obtain ⟨z2, e2, r⟩ := gW_int (show gW _ _ from q) (Nat.le_of_ble_eq_true rfl)
    cases e2
    have := gR0 r
    exact Or.inl ⟨this.1, this.2⟩
  · have w := gR0 (show gR (0, 1, 1, 0, 0, 0) (M' 60 16) from (p _ (List.mem_cons_of_mem _ (List.mem_cons_of_mem _ List.mem_cons_self))).1)
    exact Or.inr ⟨w.1, w.2⟩
theorem nt_M_space1_1 {d : Nat} (hd : 4 ≤ d) {M : pM} (hM : gM gAll M) (p0 : 1 ≤ M 60 0 ∧ M 60 0 ≤ 6) (p1 : 1 ≤ M 60 3 ∧ M 60 3 ≤ 1) : ∃ z M', xF d 240 [.inr 62] M = rI z M' ∧ ((-2 ≤ z ∧ z ≤ -2) ∨ (-3 ≤ z ∧ z ≤ -3) ∨ (2 ≤ M' 60 16 ∧ M' 60 16 ≤ 2)) := by
  have c0 : cOK gAll (xF d) 240 K_1114 := (ct_of (d := d) ct_ok (show K_1114 ∈ CT.getD 240 [] from (show CT.getD 240 [] = [K_1112, K_1114, K_1116, K_1118, K_1120, K_1122, K_1124, K_1126, K_1128, K_1130, K_1132, K_559] from rfl) ▸ by simp) hd)
  obtain ⟨z, M', e, -, -, alt, ha, q, p⟩ := cOK_I c0 (A := [.inr 62]) (show aF2 gW [aRef 62] [.inr 62] from ⟨gW_o, trivial⟩) hM (show gP0 [(60, 0, (0, 1, 6, 0, 0, 0)), (60, 3, (0, 1, 1, 0, 0, 0))] M from fun e he => by
    simp only [List.mem_cons, List.not_mem_nil, or_false] at he
    rcases he with rfl | rfl
    · exact gR_i p0.1 p0.2
    · exact gR_i p1.1 p1.2) rfl
  refine ⟨z, M', e, ?_⟩
  have ha : alt ∈ [(some (0, -2, -2, 0, 0, 0), [], [(60, 0, (0, 1, 6, 0, 0, 0)), (60, 3, (0, 1, 1, 0, 0, 0)), (60, 17, (0, 0, 0, 0, 0, 0)), (60, 39, (0, 1, 20000, 0, 0, 0)), (60, 40, (0, 0, 1000000, 0, 0, 0))]), (some (0, -3, -3, 0, 0, 0), [], [(60, 0, (0, 1, 6, 0, 0, 0)), (60, 3, (0, 1, 1, 0, 0, 0)), (60, 17, (0, 0, 0, 0, 0, 0)), (60, 39, (0, 20001, 1000000, 0, 0, 0))]), (some (1, 0, 0, 0, 0, 0), [], [(60, 0, (0, 1, 6, 0, 0, 0)), (60, 3, (0, 1, 1, 0, 0, 0)), (60, 16, (0, 2, 2, 0, 0, 0)), (60, 17, (0, 0, 0, 0, 0, 0)), (60, 39, (0, 1, 20000, 0, 0, 0)), (60, 40, (0, 0, 1000000, 0, 0, 0)), (69, 1, (0, -2147483648, 2147483647, 0, 0, 0))])] := ha
  simp only [List.mem_cons, List.not_mem_nil, or_false] at ha
  rcases ha with rfl | rfl | rfl
  · obtain ⟨z2, e2, r⟩ := gW_int (show gW _ _ from q) (Nat.le_of_ble_eq_true rfl)
    cases e2
    have := gR0 r
    exact Or.inl ⟨this.1, this.2⟩
  · obtain ⟨z2, e2, r⟩ := gW_int (show gW _ _ from q) (Nat.le_of_ble_eq_true rfl)
    cases e2
    have := gR0 r
    exact Or.inr (Or.inl ⟨this.1, this.2⟩)
  · have w := gR0 (show gR (0, 2, 2, 0, 0, 0) (M' 60 16) from (p _ (List.mem_cons_of_mem _ (List.mem_cons_of_mem _ List.mem_cons_self))).1)
    exact Or.inr (Or.inr ⟨w.1, w.2⟩)
theorem nt_M_space1_2 {d : Nat} (hd : 4 ≤ d) {M : pM} (hM : gM gAll M) (p0 : 1 ≤ M 60 0 ∧ M 60 0 ≤ 6) (p1 : 2 ≤ M 60 3 ∧ M 60 3 ≤ 2) : ∃ z M', xF d 240 [.inr 62] M = rI z M' ∧ ((-2 ≤ z ∧ z ≤ -2) ∨ (-3 ≤ z ∧ z ≤ -3) ∨ (3 ≤ M' 60 16 ∧ M' 60 16 ≤ 3)) := by
  have c0 : cOK gAll (xF d) 240 K_1116 := (ct_of (d := d) ct_ok (show K_1116 ∈ CT.getD 240 [] from (show CT.getD 240 [] = [K_1112, K_1114, K_1116, K_1118, K_1120, K_1122, K_1124, K_1126, K_1128, K_1130, K_1132, K_559] from rfl) ▸ by simp) hd)
  obtain ⟨z, M', e, -, -, alt, ha, q, p⟩ := cOK_I c0 (A := [.inr 62]) (show aF2 gW [aRef 62] [.inr 62] from ⟨gW_o, trivial⟩) hM (show gP0 [(60, 0, (0, 1, 6, 0, 0, 0)), (60, 3, (0, 2, 2, 0, 0, 0))] M from fun e he => by
    simp only [List.mem_cons, List.not_mem_nil, or_false] at he
    rcases he with rfl | rfl
    · exact gR_i p0.1 p0.2
    · exact gR_i p1.1 p1.2) rfl
  refine ⟨z, M', e, ?_⟩
  have ha : alt ∈ [(some (0, -2, -2, 0, 0, 0), [], [(60, 0, (0, 1, 6, 0, 0, 0)), (60, 3, (0, 2, 2, 0, 0, 0)), (60, 17, (0, 0, 0, 0, 0, 0)), (60, 39, (0, 1, 20000, 0, 0, 0)), (60, 40, (0, 0, 1000000, 0, 0, 0))]), (some (0, -3, -3, 0, 0, 0), [], [(60, 0, (0, 1, 6, 0, 0, 0)), (60, 3, (0, 2, 2, 0, 0, 0)), (60, 17, (0, 0, 0, 0, 0, 0)), (60, 39, (0, 20001, 1000000, 0, 0, 0))]), (some (1, 0, 0, 0, 0, 0), [], [(60, 0, (0, 1, 6, 0, 0, 0)), (60, 3, (0, 2, 2, 0, 0, 0)), (60, 16, (0, 3, 3, 0, 0, 0)), (60, 17, (0, 0, 0, 0, 0, 0)), (60, 39, (0, 1, 20000, 0, 0, 0)), (60, 40, (0, 0, 1000000, 0, 0, 0)), (69, 2, (0, -2147483648, 2147483647, 0, 0, 0))])] := ha
  simp only [List.mem_cons, List.not_mem_nil, or_false] at ha
  rcases ha with rfl | rfl | rfl
  · obtain ⟨z2, e2, r⟩ := gW_int (show gW _ _ from q) (Nat.le_of_ble_eq_true rfl)
    cases e2
    have := gR0 r
    exact Or.inl ⟨this.1, this.2⟩
  · obtain ⟨z2, e2, r⟩ := gW_int (show gW _ _ from q) (Nat.le_of_ble_eq_true rfl)
    cases e2
    have := gR0 r
    exact Or.inr (Or.inl ⟨this.1, this.2⟩)
  · have w := gR0 (show gR (0, 3, 3, 0, 0, 0) (M' 60 16) from (p _ (List.mem_cons_of_mem _ (List.mem_cons_of_mem _ List.mem_cons_self))).1)
    exact Or.inr (Or.inr ⟨w.1, w.2⟩)
theorem nt_M_space1_3 {d : Nat} (hd : 4 ≤ d) {M : pM} (hM : gM gAll M) (p0 : 1 ≤ M 60 0 ∧ M 60 0 ≤ 6) (p1 : 3 ≤ M 60 3 ∧ M 60 3 ≤ 3) : ∃ z M', xF d 240 [.inr 62] M = rI z M' ∧ ((-2 ≤ z ∧ z ≤ -2) ∨ (-3 ≤ z ∧ z ≤ -3) ∨ (4 ≤ M' 60 16 ∧ M' 60 16 ≤ 4)) := by
  have c0 : cOK gAll (xF d) 240 K_1118 := (ct_of (d := d) ct_ok (show K_1118 ∈ CT.getD 240 [] from (show CT.getD 240 [] = [K_1112, K_1114, K_1116, K_1118, K_1120, K_1122, K_1124, K_1126, K_1128, K_1130, K_1132, K_559] from rfl) ▸ by simp) hd)
  obtain ⟨z, M', e, -, -, alt, ha, q, p⟩ := cOK_I c0 (A := [.inr 62]) (show aF2 gW [aRef 62] [.inr 62] from ⟨gW_o, trivial⟩) hM (show gP0 [(60, 0, (0, 1, 6, 0, 0, 0)), (60, 3, (0, 3, 3, 0, 0, 0))] M from fun e he => by
    simp only [List.mem_cons, List.not_mem_nil, or_false] at he
    rcases he with rfl | rfl
    · exact gR_i p0.1 p0.2
    · exact gR_i p1.1 p1.2) rfl
  refine ⟨z, M', e, ?_⟩
  have ha : alt ∈ [(some (0, -2, -2, 0, 0, 0), [], [(60, 0, (0, 1, 6, 0, 0, 0)), (60, 3, (0, 3, 3, 0, 0, 0)), (60, 17, (0, 0, 0, 0, 0, 0)), (60, 39, (0, 1, 20000, 0, 0, 0)), (60, 40, (0, 0, 1000000, 0, 0, 0))]), (some (0, -3, -3, 0, 0, 0), [], [(60, 0, (0, 1, 6, 0, 0, 0)), (60, 3, (0, 3, 3, 0, 0, 0)), (60, 17, (0, 0, 0, 0, 0, 0)), (60, 39, (0, 20001, 1000000, 0, 0, 0))]), (some (1, 0, 0, 0, 0, 0), [], [(60, 0, (0, 1, 6, 0, 0, 0)), (60, 3, (0, 3, 3, 0, 0, 0)), (60, 16, (0, 4, 4, 0, 0, 0)), (60, 17, (0, 0, 0, 0, 0, 0)), (60, 39, (0, 1, 20000, 0, 0, 0)), (60, 40, (0, 0, 1000000, 0, 0, 0)), (69, 3, (0, -2147483648, 2147483647, 0, 0, 0))])] := ha
  simp only [List.mem_cons, List.not_mem_nil, or_false] at ha
  rcases ha with rfl | rfl | rfl
  · obtain ⟨z2, e2, r⟩ := gW_int (show gW _ _ from q) (Nat.le_of_ble_eq_true rfl)
    cases e2
    have := gR0 r
    exact Or.inl ⟨this.1, this.2⟩
  · obtain ⟨z2, e2, r⟩ := gW_int (show gW _ _ from q) (Nat.le_of_ble_eq_true rfl)
    cases e2
    have := gR0 r
    exact Or.inr (Or.inl ⟨this.1, this.2⟩)
  · have w := gR0 (show gR (0, 4, 4, 0, 0, 0) (M' 60 16) from (p _ (List.mem_cons_of_mem _ (List.mem_cons_of_mem _ List.mem_cons_self))).1)
    exact Or.inr (Or.inr ⟨w.1, w.2⟩)
theorem nt_M_space1_4 {d : Nat} (hd : 4 ≤ d) {M : pM} (hM : gM gAll M) (p0 : 1 ≤ M 60 0 ∧ M 60 0 ≤ 6) (p1 : 4 ≤ M 60 3 ∧ M 60 3 ≤ 4) : ∃ z M', xF d 240 [.inr 62] M = rI z M' ∧ ((-2 ≤ z ∧ z ≤ -2) ∨ (-3 ≤ z ∧ z ≤ -3) ∨ (5 ≤ M' 60 16 ∧ M' 60 16 ≤ 5)) := by
  have c0 : cOK gAll (xF d) 240 K_1120 := (ct_of (d := d) ct_ok (show K_1120 ∈ CT.getD 240 [] from (show CT.getD 240 [] = [K_1112, K_1114, K_1116, K_1118, K_1120, K_1122, K_1124, K_1126, K_1128, K_1130, K_1132, K_559] from rfl) ▸ by simp) hd)
  obtain ⟨z, M', e, -, -, alt, ha, q, p⟩ := cOK_I c0 (A := [.inr 62]) (show aF2 gW [aRef 62] [.inr 62] from ⟨gW_o, trivial⟩) hM (show gP0 [(60, 0, (0, 1, 6, 0, 0, 0)), (60, 3, (0, 4, 4, 0, 0, 0))] M from fun e he => by
    simp only [List.mem_cons, List.not_mem_nil, or_false] at he
    rcases he with rfl | rfl
    · exact gR_i p0.1 p0.2
    · exact gR_i p1.1 p1.2) rfl
  refine ⟨z, M', e, ?_⟩
  have ha : alt ∈ [(some (0, -2, -2, 0, 0, 0), [], [(60, 0, (0, 1, 6, 0, 0, 0)), (60, 3, (0, 4, 4, 0, 0, 0)), (60, 17, (0, 0, 0, 0, 0, 0)), (60, 39, (0, 1, 20000, 0, 0, 0)), (60, 40, (0, 0, 1000000, 0, 0, 0))]), (some (0, -3, -3, 0, 0, 0), [], [(60, 0, (0, 1, 6, 0, 0, 0)), (60, 3, (0, 4, 4, 0, 0, 0)), (60, 17, (0, 0, 0, 0, 0, 0)), (60, 39, (0, 20001, 1000000, 0, 0, 0))]), (some (1, 0, 0, 0, 0, 0), [], [(60, 0, (0, 1, 6, 0, 0, 0)), (60, 3, (0, 4, 4, 0, 0, 0)), (60, 16, (0, 5, 5, 0, 0, 0)), (60, 17, (0, 0, 0, 0, 0, 0)), (60, 39, (0, 1, 20000, 0, 0, 0)), (60, 40, (0, 0, 1000000, 0, 0, 0)), (69, 4, (0, -2147483648, 2147483647, 0, 0, 0))])] := ha
  simp only [List.mem_cons, List.not_mem_nil, or_false] at ha
  rcases ha with rfl | rfl | rfl
  · obtain ⟨z2, e2, r⟩ := gW_int (show gW _ _ from q) (Nat.le_of_ble_eq_true rfl)
    cases e2
    have := gR0 r
    exact Or.inl ⟨this.1, this.2⟩
  · obtain ⟨z2, e2, r⟩ := gW_int (show gW _ _ from q) (Nat.le_of_ble_eq_true rfl)
    cases e2
    have := gR0 r
    exact Or.inr (Or.inl ⟨this.1, this.2⟩)
  · have w := gR0 (show gR (0, 5, 5, 0, 0, 0) (M' 60 16) from (p _ (List.mem_cons_of_mem _ (List.mem_cons_of_mem _ List.mem_cons_self))).1)
    exact Or.inr (Or.inr ⟨w.1, w.2⟩)
theorem nt_M_space1_5 {d : Nat} (hd : 4 ≤ d) {M : pM} (hM : gM gAll M) (p0 : 1 ≤ M 60 0 ∧ M 60 0 ≤ 6) (p1 : 5 ≤ M 60 3 ∧ M 60 3 ≤ 5) : ∃ z M', xF d 240 [.inr 62] M = rI z M' ∧ ((-2 ≤ z ∧ z ≤ -2) ∨ (-3 ≤ z ∧ z ≤ -3) ∨ (6 ≤ M' 60 16 ∧ M' 60 16 ≤ 6)) := by
  have c0 : cOK gAll (xF d) 240 K_1122 := (ct_of (d := d) ct_ok (show K_1122 ∈ CT.getD 240 [] from (show CT.getD 240 [] = [K_1112, K_1114, K_1116, K_1118, K_1120, K_1122, K_1124, K_1126, K_1128, K_1130, K_1132, K_559] from rfl) ▸ by simp) hd)
  obtain ⟨z, M', e, -, -, alt, ha, q, p⟩ := cOK_I c0 (A := [.inr 62]) (show aF2 gW [aRef 62] [.inr 62] from ⟨gW_o, trivial⟩) hM (show gP0 [(60, 0, (0, 1, 6, 0, 0, 0)), (60, 3, (0, 5, 5, 0, 0, 0))] M from fun e he => by
    simp only [List.mem_cons, List.not_mem_nil, or_false] at he
    rcases he with rfl | rfl
    · exact gR_i p0.1 p0.2
    · exact gR_i p1.1 p1.2) rfl
  refine ⟨z, M', e, ?_⟩
  have ha : alt ∈ [(some (0, -2, -2, 0, 0, 0), [], [(60, 0, (0, 1, 6, 0, 0, 0)), (60, 3, (0, 5, 5, 0, 0, 0)), (60, 17, (0, 0, 0, 0, 0, 0)), (60, 39, (0, 1, 20000, 0, 0, 0)), (60, 40, (0, 0, 1000000, 0, 0, 0))]), (some (0, -3, -3, 0, 0, 0), [], [(60, 0, (0, 1, 6, 0, 0, 0)), (60, 3, (0, 5, 5, 0, 0, 0)), (60, 17, (0, 0, 0, 0, 0, 0)), (60, 39, (0, 20001, 1000000, 0, 0, 0))]), (some (1, 0, 0, 0, 0, 0), [], [(60, 0, (0, 1, 6, 0, 0, 0)), (60, 3, (0, 5, 5, 0, 0, 0)), (60, 16, (0, 6, 6, 0, 0, 0)), (60, 17, (0, 0, 0, 0, 0, 0)), (60, 39, (0, 1, 20000, 0, 0, 0)), (60, 40, (0, 0, 1000000, 0, 0, 0)), (69, 5, (0, -2147483648, 2147483647, 0, 0, 0))])] := ha
  simp only [List.mem_cons, List.not_mem_nil, or_false] at ha
  rcases ha with rfl | rfl | rfl
  · obtain ⟨z2, e2, r⟩ := gW_int (show gW _ _ from q) (Nat.le_of_ble_eq_true rfl)
    cases e2
    have := gR0 r
    exact Or.inl ⟨this.1, this.2⟩
  · obtain ⟨z2, e2, r⟩ := gW_int (show gW _ _ from q) (Nat.le_of_ble_eq_true rfl)
    cases e2
    have := gR0 r
    exact Or.inr (Or.inl ⟨this.1, this.2⟩)
  · have w := gR0 (show gR (0, 6, 6, 0, 0, 0) (M' 60 16) from (p _ (List.mem_cons_of_mem _ (List.mem_cons_of_mem _ List.mem_cons_self))).1)
    exact Or.inr (Or.inr ⟨w.1, w.2⟩)
theorem nt_M_space1_6 {d : Nat} (hd : 4 ≤ d) {M : pM} (hM : gM gAll M) (p0 : 1 ≤ M 60 0 ∧ M 60 0 ≤ 6) (p1 : 6 ≤ M 60 3 ∧ M 60 3 ≤ 6) : ∃ z M', xF d 240 [.inr 62] M = rI z M' ∧ ((-2 ≤ z ∧ z ≤ -2) ∨ (-3 ≤ z ∧ z ≤ -3) ∨ (7 ≤ M' 60 16 ∧ M' 60 16 ≤ 7)) := by
  have c0 : cOK gAll (xF d) 240 K_1124 := (ct_of (d := d) ct_ok (show K_1124 ∈ CT.getD 240 [] from (show CT.getD 240 [] = [K_1112, K_1114, K_1116, K_1118, K_1120, K_1122, K_1124, K_1126, K_1128, K_1130, K_1132, K_559] from rfl) ▸ by simp) hd)
  obtain ⟨z, M', e, -, -, alt, ha, q, p⟩ := cOK_I c0 (A := [.inr 62]) (show aF2 gW [aRef 62] [.inr 62] from ⟨gW_o, trivial⟩) hM (show gP0 [(60, 0, (0, 1, 6, 0, 0, 0)), (60, 3, (0, 6, 6, 0, 0, 0))] M from fun e he => by
    simp only [List.mem_cons, List.not_mem_nil, or_false] at he
    rcases he with rfl | rfl
    · exact gR_i p0.1 p0.2
    · exact gR_i p1.1 p1.2) rfl
  refine ⟨z, M', e, ?_⟩
  have ha : alt ∈ [(some (0, -2, -2, 0, 0, 0), [], [(60, 0, (0, 1, 6, 0, 0, 0)), (60, 3, (0, 6, 6, 0, 0, 0)), (60, 17, (0, 0, 0, 0, 0, 0)), (60, 39, (0, 1, 20000, 0, 0, 0)), (60, 40, (0, 0, 1000000, 0, 0, 0))]), (some (0, -3, -3, 0, 0, 0), [], [(60, 0, (0, 1, 6, 0, 0, 0)), (60, 3, (0, 6, 6, 0, 0, 0)), (60, 17, (0, 0, 0, 0, 0, 0)), (60, 39, (0, 20001, 1000000, 0, 0, 0))]), (some (1, 0, 0, 0, 0, 0), [], [(60, 0, (0, 1, 6, 0, 0, 0)), (60, 3, (0, 6, 6, 0, 0, 0)), (60, 16, (0, 7, 7, 0, 0, 0)), (60, 17, (0, 0, 0, 0, 0, 0)), (60, 39, (0, 1, 20000, 0, 0, 0)), (60, 40, (0, 0, 1000000, 0, 0, 0)), (69, 6, (0, -2147483648, 2147483647, 0, 0, 0))])] := ha
  simp only [List.mem_cons, List.not_mem_nil, or_false] at ha
  rcases ha with rfl | rfl | rfl
  · obtain ⟨z2, e2, r⟩ := gW_int (show gW _ _ from q) (Nat.le_of_ble_eq_true rfl)
    cases e2
    have := gR0 r
    exact Or.inl ⟨this.1, this.2⟩
  · obtain ⟨z2, e2, r⟩ := gW_int (show gW _ _ from q) (Nat.le_of_ble_eq_true rfl)
    cases e2
    have := gR0 r
    exact Or.inr (Or.inl ⟨this.1, this.2⟩)
  · have w := gR0 (show gR (0, 7, 7, 0, 0, 0) (M' 60 16) from (p _ (List.mem_cons_of_mem _ (List.mem_cons_of_mem _ List.mem_cons_self))).1)
    exact Or.inr (Or.inr ⟨w.1, w.2⟩)
theorem nt_M_space1_7 {d : Nat} (hd : 4 ≤ d) {M : pM} (hM : gM gAll M) (p0 : 1 ≤ M 60 0 ∧ M 60 0 ≤ 6) (p1 : 7 ≤ M 60 3 ∧ M 60 3 ≤ 7) : ∃ z M', xF d 240 [.inr 62] M = rI z M' ∧ ((-2 ≤ z ∧ z ≤ -2) ∨ (-3 ≤ z ∧ z ≤ -3) ∨ (8 ≤ M' 60 16 ∧ M' 60 16 ≤ 8)) := by
  have c0 : cOK gAll (xF d) 240 K_1126 := (ct_of (d := d) ct_ok (show K_1126 ∈ CT.getD 240 [] from (show CT.getD 240 [] = [K_1112, K_1114, K_1116, K_1118, K_1120, K_1122, K_1124, K_1126, K_1128, K_1130, K_1132, K_559] from rfl) ▸ by simp) hd)
  obtain ⟨z, M', e, -, -, alt, ha, q, p⟩ := cOK_I c0 (A := [.inr 62]) (show aF2 gW [aRef 62] [.inr 62] from ⟨gW_o, trivial⟩) hM (show gP0 [(60, 0, (0, 1, 6, 0, 0, 0)), (60, 3, (0, 7, 7, 0, 0, 0))] M from fun e he => by
    simp only [List.mem_cons, List.not_mem_nil, or_false] at he
    rcases he with rfl | rfl
    · exact gR_i p0.1 p0.2
    · exact gR_i p1.1 p1.2) rfl
  refine ⟨z, M', e, ?_⟩
  have ha : alt ∈ [(some (0, -2, -2, 0, 0, 0), [], [(60, 0, (0, 1, 6, 0, 0, 0)), (60, 3, (0, 7, 7, 0, 0, 0)), (60, 17, (0, 0, 0, 0, 0, 0)), (60, 39, (0, 1, 20000, 0, 0, 0)), (60, 40, (0, 0, 1000000, 0, 0, 0))]), (some (0, -3, -3, 0, 0, 0), [], [(60, 0, (0, 1, 6, 0, 0, 0)), (60, 3, (0, 7, 7, 0, 0, 0)), (60, 17, (0, 0, 0, 0, 0, 0)), (60, 39, (0, 20001, 1000000, 0, 0, 0))]), (some (1, 0, 0, 0, 0, 0), [], [(60, 0, (0, 1, 6, 0, 0, 0)), (60, 3, (0, 7, 7, 0, 0, 0)), (60, 16, (0, 8, 8, 0, 0, 0)), (60, 17, (0, 0, 0, 0, 0, 0)), (60, 39, (0, 1, 20000, 0, 0, 0)), (60, 40, (0, 0, 1000000, 0, 0, 0)), (69, 7, (0, -2147483648, 2147483647, 0, 0, 0))])] := ha
  simp only [List.mem_cons, List.not_mem_nil, or_false] at ha
  rcases ha with rfl | rfl | rfl
  · obtain ⟨z2, e2, r⟩ := gW_int (show gW _ _ from q) (Nat.le_of_ble_eq_true rfl)
    cases e2
    have := gR0 r
    exact Or.inl ⟨this.1, this.2⟩
  · obtain ⟨z2, e2, r⟩ := gW_int (show gW _ _ from q) (Nat.le_of_ble_eq_true rfl)
    cases e2
    have := gR0 r
    exact Or.inr (Or.inl ⟨this.1, this.2⟩)
  · have w := gR0 (show gR (0, 8, 8, 0, 0, 0) (M' 60 16) from (p _ (List.mem_cons_of_mem _ (List.mem_cons_of_mem _ List.mem_cons_self))).1)
    exact Or.inr (Or.inr ⟨w.1, w.2⟩)
theorem nt_M_space1_8 {d : Nat} (hd : 4 ≤ d) {M : pM} (hM : gM gAll M) (p0 : 1 ≤ M 60 0 ∧ M 60 0 ≤ 6) (p1 : 8 ≤ M 60 3 ∧ M 60 3 ≤ 8) : ∃ z M', xF d 240 [.inr 62] M = rI z M' ∧ ((-2 ≤ z ∧ z ≤ -2) ∨ (-3 ≤ z ∧ z ≤ -3) ∨ (9 ≤ M' 60 16 ∧ M' 60 16 ≤ 9)) := by
  have c0 : cOK gAll (xF d) 240 K_1128 := (ct_of (d := d) ct_ok (show K_1128 ∈ CT.getD 240 [] from (show CT.getD 240 [] = [K_1112, K_1114, K_1116, K_1118, K_1120, K_1122, K_1124, K_1126, K_1128, K_1130, K_1132, K_559] from rfl) ▸ by simp) hd)
  obtain ⟨z, M', e, -, -, alt, ha, q, p⟩ := cOK_I c0 (A := [.inr 62]) (show aF2 gW [aRef 62] [.inr 62] from ⟨gW_o, trivial⟩) hM (show gP0 [(60, 0, (0, 1, 6, 0, 0, 0)), (60, 3, (0, 8, 8, 0, 0, 0))] M from fun e he => by
    simp only [List.mem_cons, List.not_mem_nil, or_false] at he
    rcases he with rfl | rfl
    · exact gR_i p0.1 p0.2
    · exact gR_i p1.1 p1.2) rfl
  refine ⟨z, M', e, ?_⟩
  have ha : alt ∈ [(some (0, -2, -2, 0, 0, 0), [], [(60, 0, (0, 1, 6, 0, 0, 0)), (60, 3, (0, 8, 8, 0, 0, 0)), (60, 17, (0, 0, 0, 0, 0, 0)), (60, 39, (0, 1, 20000, 0, 0, 0)), (60, 40, (0, 0, 1000000, 0, 0, 0))]), (some (0, -3, -3, 0, 0, 0), [], [(60, 0, (0, 1, 6, 0, 0, 0)), (60, 3, (0, 8, 8, 0, 0, 0)), (60, 17, (0, 0, 0, 0, 0, 0)), (60, 39, (0, 20001, 1000000, 0, 0, 0))]), (some (1, 0, 0, 0, 0, 0), [], [(60, 0, (0, 1, 6, 0, 0, 0)), (60, 3, (0, 8, 8, 0, 0, 0)), (60, 16, (0, 9, 9, 0, 0, 0)), (60, 17, (0, 0, 0, 0, 0, 0)), (60, 39, (0, 1, 20000, 0, 0, 0)), (60, 40, (0, 0, 1000000, 0, 0, 0)), (69, 8, (0, -2147483648, 2147483647, 0, 0, 0))])] := ha
  simp only [List.mem_cons, List.not_mem_nil, or_false] at ha
  rcases ha with rfl | rfl | rfl
  · obtain ⟨z2, e2, r⟩ := gW_int (show gW _ _ from q) (Nat.le_of_ble_eq_true rfl)
    cases e2
    have := gR0 r
    exact Or.inl ⟨this.1, this.2⟩
  · obtain ⟨z2, e2, r⟩ := gW_int (show gW _ _ from q) (Nat.le_of_ble_eq_true rfl)
    cases e2
    have := gR0 r
    exact Or.inr (Or.inl ⟨this.1, this.2⟩)
  · have w := gR0 (show gR (0, 9, 9, 0, 0, 0) (M' 60 16) from (p _ (List.mem_cons_of_mem _ (List.mem_cons_of_mem _ List.mem_cons_self))).1)
    exact Or.inr (Or.inr ⟨w.1, w.2⟩)
theorem nt_M_space1_9 {d : Nat} (hd : 4 ≤ d) {M : pM} (hM : gM gAll M) (p0 : 1 ≤ M 60 0 ∧ M 60 0 ≤ 6) (p1 : 9 ≤ M 60 3 ∧ M 60 3 ≤ 9) : ∃ z M', xF d 240 [.inr 62] M = rI z M' ∧ ((-2 ≤ z ∧ z ≤ -2) ∨ (-3 ≤ z ∧ z ≤ -3) ∨ (10 ≤ M' 60 16 ∧ M' 60 16 ≤ 10)) := by
  have c0 : cOK gAll (xF d) 240 K_1130 := (ct_of (d := d) ct_ok (show K_1130 ∈ CT.getD 240 [] from (show CT.getD 240 [] = [K_1112, K_1114, K_1116, K_1118, K_1120, K_1122, K_1124, K_1126, K_1128, K_1130, K_1132, K_559] from rfl) ▸ by simp) hd)
  obtain ⟨z, M', e, -, -, alt, ha, q, p⟩ := cOK_I c0 (A := [.inr 62]) (show aF2 gW [aRef 62] [.inr 62] from ⟨gW_o, trivial⟩) hM (show gP0 [(60, 0, (0, 1, 6, 0, 0, 0)), (60, 3, (0, 9, 9, 0, 0, 0))] M from fun e he => by
    simp only [List.mem_cons, List.not_mem_nil, or_false] at he
    rcases he with rfl | rfl
    · exact gR_i p0.1 p0.2
    · exact gR_i p1.1 p1.2) rfl
  refine ⟨z, M', e, ?_⟩
  have ha : alt ∈ [(some (0, -2, -2, 0, 0, 0), [], [(60, 0, (0, 1, 6, 0, 0, 0)), (60, 3, (0, 9, 9, 0, 0, 0)), (60, 17, (0, 0, 0, 0, 0, 0)), (60, 39, (0, 1, 20000, 0, 0, 0)), (60, 40, (0, 0, 1000000, 0, 0, 0))]), (some (0, -3, -3, 0, 0, 0), [], [(60, 0, (0, 1, 6, 0, 0, 0)), (60, 3, (0, 9, 9, 0, 0, 0)), (60, 17, (0, 0, 0, 0, 0, 0)), (60, 39, (0, 20001, 1000000, 0, 0, 0))]), (some (1, 0, 0, 0, 0, 0), [], [(60, 0, (0, 1, 6, 0, 0, 0)), (60, 3, (0, 9, 9, 0, 0, 0)), (60, 16, (0, 10, 10, 0, 0, 0)), (60, 17, (0, 0, 0, 0, 0, 0)), (60, 39, (0, 1, 20000, 0, 0, 0)), (60, 40, (0, 0, 1000000, 0, 0, 0)), (69, 9, (0, -2147483648, 2147483647, 0, 0, 0))])] := ha
  simp only [List.mem_cons, List.not_mem_nil, or_false] at ha
  rcases ha with rfl | rfl | rfl
  · obtain ⟨z2, e2, r⟩ := gW_int (show gW _ _ from q) (Nat.le_of_ble_eq_true rfl)
    cases e2
    have := gR0 r
    exact Or.inl ⟨this.1, this.2⟩
  · obtain ⟨z2, e2, r⟩ := gW_int (show gW _ _ from q) (Nat.le_of_ble_eq_true rfl)
    cases e2
    have := gR0 r
    exact Or.inr (Or.inl ⟨this.1, this.2⟩)
  · have w := gR0 (show gR (0, 10, 10, 0, 0, 0) (M' 60 16) from (p _ (List.mem_cons_of_mem _ (List.mem_cons_of_mem _ List.mem_cons_self))).1)
    exact Or.inr (Or.inr ⟨w.1, w.2⟩)
theorem nt_M_space1_10 {d : Nat} (hd : 4 ≤ d) {M : pM} (hM : gM gAll M) (p0 : 1 ≤ M 60 0 ∧ M 60 0 ≤ 6) (p1 : 10 ≤ M 60 3 ∧ M 60 3 ≤ 10) : ∃ z M', xF d 240 [.inr 62] M = rI z M' ∧ ((-2 ≤ z ∧ z ≤ -2) ∨ (-3 ≤ z ∧ z ≤ -3) ∨ (11 ≤ M' 60 16 ∧ M' 60 16 ≤ 11)) := by
  have c0 : cOK gAll (xF d) 240 K_1132 := (ct_of (d := d) ct_ok (show K_1132 ∈ CT.getD 240 [] from (show CT.getD 240 [] = [K_1112, K_1114, K_1116, K_1118, K_1120, K_1122, K_1124, K_1126, K_1128, K_1130, K_1132, K_559] from rfl) ▸ by simp) hd)
  obtain ⟨z, M', e, -, -, alt, ha, q, p⟩ := cOK_I c0 (A := [.inr 62]) (show aF2 gW [aRef 62] [.inr 62] from ⟨gW_o, trivial⟩) hM (show gP0 [(60, 0, (0, 1, 6, 0, 0, 0)), (60, 3, (0, 10, 10, 0, 0, 0))] M from fun e he => by
    simp only [List.mem_cons, List.not_mem_nil, or_false] at he
    rcases he with rfl | rfl
    · exact gR_i p0.1 p0.2
    · exact gR_i p1.1 p1.2) rfl
  refine ⟨z, M', e, ?_⟩
  have ha : alt ∈ [(some (0, -2, -2, 0, 0, 0), [], [(60, 0, (0, 1, 6, 0, 0, 0)), (60, 3, (0, 10, 10, 0, 0, 0)), (60, 17, (0, 0, 0, 0, 0, 0)), (60, 39, (0, 1, 20000, 0, 0, 0)), (60, 40, (0, 0, 1000000, 0, 0, 0))]), (some (0, -3, -3, 0, 0, 0), [], [(60, 0, (0, 1, 6, 0, 0, 0)), (60, 3, (0, 10, 10, 0, 0, 0)), (60, 17, (0, 0, 0, 0, 0, 0)), (60, 39, (0, 20001, 1000000, 0, 0, 0))]), (some (1, 0, 0, 0, 0, 0), [], [(60, 0, (0, 1, 6, 0, 0, 0)), (60, 3, (0, 10, 10, 0, 0, 0)), (60, 16, (0, 11, 11, 0, 0, 0)), (60, 17, (0, 0, 0, 0, 0, 0)), (60, 39, (0, 1, 20000, 0, 0, 0)), (60, 40, (0, 0, 1000000, 0, 0, 0)), (69, 10, (0, -2147483648, 2147483647, 0, 0, 0))])] := ha
  simp only [List.mem_cons, List.not_mem_nil, or_false] at ha
  rcases ha with rfl | rfl | rfl
  · obtain ⟨z2, e2, r⟩ := gW_int (show gW _ _ from q) (Nat.le_of_ble_eq_true rfl)
    cases e2
    have := gR0 r
    exact Or.inl ⟨this.1, this.2⟩
  · obtain ⟨z2, e2, r⟩ := gW_int (show gW _ _ from q) (Nat.le_of_ble_eq_true rfl)
    cases e2
    have := gR0 r
    exact Or.inr (Or.inl ⟨this.1, this.2⟩)
  · have w := gR0 (show gR (0, 11, 11, 0, 0, 0) (M' 60 16) from (p _ (List.mem_cons_of_mem _ (List.mem_cons_of_mem _ List.mem_cons_self))).1)
    exact Or.inr (Or.inr ⟨w.1, w.2⟩)
theorem nt_M_space1 {d : Nat} (hd : 4 ≤ d) {M M' : pM} {v : Int} (hM : gM gAll M) (p0 : 1 ≤ M 60 0 ∧ M 60 0 ≤ 6) {n : Nat} (hn : n ≤ 10) (hc : M 60 3 = (n : Int)) (e : xF d 240 [.inr 62] M = rI v M') : (-2 ≤ v ∧ v ≤ -2) ∨ (M' 60 16 = (n : Int) + 1) ∨ (-3 ≤ v ∧ v ≤ -3) := by
  rcases (show n = 0 ∨ n = 1 ∨ n = 2 ∨ n = 3 ∨ n = 4 ∨ n = 5 ∨ n = 6 ∨ n = 7 ∨ n = 8 ∨ n = 9 ∨ n = 10 by omega) with rfl | rfl | rfl | rfl | rfl | rfl | rfl | rfl | rfl | rfl | rfl
  · obtain ⟨z, M2, e2, r⟩ := nt_M_space1_0 (d := d) (by omega) hM p0 (by omega)
    obtain ⟨y1, y2⟩ := rI_inj (e.symm.trans e2)
    rw [y1, y2]
    rcases r with r | r
    · exact Or.inl (by omega)
    · exact Or.inr (Or.inl (by omega))
  · obtain ⟨z, M2, e2, r⟩ := nt_M_space1_1 (d := d) (by omega) hM p0 (by omega)
    obtain ⟨y1, y2⟩ := rI_inj (e.symm.trans e2)
    rw [y1, y2]
    rcases r with r | r | r
    · exact Or.inl (by omega)
    · exact Or.inr (Or.inr ((by omega)))
    · exact Or.inr (Or.inl (by omega))
  · obtain ⟨z, M2, e2, r⟩ := nt_M_space1_2 (d := d) (by omega) hM p0 (by omega)
    obtain ⟨y1, y2⟩ := rI_inj (e.symm.trans e2)
    rw [y1, y2]
    rcases r with r | r | r
    · exact Or.inl (by omega)
    · exact Or.inr (Or.inr ((by omega)))
    · exact Or.inr (Or.inl (by omega))
  · obtain ⟨z, M2, e2, r⟩ := nt_M_space1_3 (d := d) (by omega) hM p0 (by omega)
    obtain ⟨y1, y2⟩ := rI_inj (e.symm.trans e2)
    rw [y1, y2]
    rcases r with r | r | r
    · exact Or.inl (by omega)
    · exact Or.inr (Or.inr ((by omega)))
    · exact Or.inr (Or.inl (by omega))
  · obtain ⟨z, M2, e2, r⟩ := nt_M_space1_4 (d := d) (by omega) hM p0 (by omega)
    obtain ⟨y1, y2⟩ := rI_inj (e.symm.trans e2)
    rw [y1, y2]
    rcases r with r | r | r
    · exact Or.inl (by omega)
    · exact Or.inr (Or.inr ((by omega)))
    · exact Or.inr (Or.inl (by omega))
  · obtain ⟨z, M2, e2, r⟩ := nt_M_space1_5 (d := d) (by omega) hM p0 (by omega)
    obtain ⟨y1, y2⟩ := rI_inj (e.symm.trans e2)
    rw [y1, y2]
    rcases r with r | r | r
    · exact Or.inl (by omega)
    · exact Or.inr (Or.inr ((by omega)))
    · exact Or.inr (Or.inl (by omega))
  · obtain ⟨z, M2, e2, r⟩ := nt_M_space1_6 (d := d) (by omega) hM p0 (by omega)
    obtain ⟨y1, y2⟩ := rI_inj (e.symm.trans e2)
    rw [y1, y2]
    rcases r with r | r | r
    · exact Or.inl (by omega)
    · exact Or.inr (Or.inr ((by omega)))
    · exact Or.inr (Or.inl (by omega))
  · obtain ⟨z, M2, e2, r⟩ := nt_M_space1_7 (d := d) (by omega) hM p0 (by omega)
    obtain ⟨y1, y2⟩ := rI_inj (e.symm.trans e2)
    rw [y1, y2]
    rcases r with r | r | r
    · exact Or.inl (by omega)
    · exact Or.inr (Or.inr ((by omega)))
    · exact Or.inr (Or.inl (by omega))
  · obtain ⟨z, M2, e2, r⟩ := nt_M_space1_8 (d := d) (by omega) hM p0 (by omega)
    obtain ⟨y1, y2⟩ := rI_inj (e.symm.trans e2)
    rw [y1, y2]
    rcases r with r | r | r
    · exact Or.inl (by omega)
    · exact Or.inr (Or.inr ((by omega)))
    · exact Or.inr (Or.inl (by omega))
  · obtain ⟨z, M2, e2, r⟩ := nt_M_space1_9 (d := d) (by omega) hM p0 (by omega)
    obtain ⟨y1, y2⟩ := rI_inj (e.symm.trans e2)
    rw [y1, y2]
    rcases r with r | r | r
    · exact Or.inl (by omega)
    · exact Or.inr (Or.inr ((by omega)))
    · exact Or.inr (Or.inl (by omega))
  · obtain ⟨z, M2, e2, r⟩ := nt_M_space1_10 (d := d) (by omega) hM p0 (by omega)
    obtain ⟨y1, y2⟩ := rI_inj (e.symm.trans e2)
    rw [y1, y2]
    rcases r with r | r | r
    · exact Or.inl (by omega)
    · exact Or.inr (Or.inr ((by omega)))
    · exact Or.inr (Or.inl (by omega))
theorem ns_M_near0_0 {d : Nat} (hd : 5 ≤ d) {M : pM} (hM : gM gAll M) (p0 : 0 ≤ M 60 0 ∧ M 60 0 ≤ 0) (p1 : 0 ≤ M 60 3 ∧ M 60 3 ≤ 0) : ∃ z M', xF d 238 [.inr 62] M = rI z M' ∧ ((-2 ≤ z ∧ z ≤ -2) ∨ (0 ≤ z ∧ z ≤ 999999 ∧ 0 ≤ M' 60 16 ∧ M' 60 16 ≤ 0)) := by
  have c0 : cOK gAll (xF d) 238 K_551 := (ct_of (d := d) ct_ok (show K_551 ∈ CT.getD 238 [] from (show CT.getD 238 [] = [K_919, K_921, K_923, K_925, K_927, K_929, K_931, K_933, K_935, K_937, K_939, K_941, K_551, K_1018, K_895, K_897, K_899, K_901, K_903, K_905, K_907, K_909, K_911, K_913, K_915, K_917, K_1024, K_1030, K_1036, K_1042, K_1048, K_1054, K_1060, K_1066, K_1072, K_1078, K_549] from rfl) ▸ by simp) hd)
  obtain ⟨z, M', e, -, -, alt, ha, q, p⟩ := cOK_I c0 (A := [.inr 62]) (show aF2 gW [aRef 62] [.inr 62] from ⟨gW_o, trivial⟩) hM (show gP0 [(60, 0, (0, 0, 0, 0, 0, 0)), (60, 3, (0, 0, 0, 0, 0, 0))] M from fun e he => by
    simp only [List.mem_cons, List.not_mem_nil, or_false] at he
    rcases he with rfl | rfl
    · exact gR_i p0.1 p0.2
    · exact gR_i p1.1 p1.2) rfl
  refine ⟨z, M', e, ?_⟩
  have ha : alt ∈ [(some (0, -2, -2, 0, 0, 0), [], [(60, 0, (0, 0, 0, 0, 0, 0)), (60, 3, (0, 0, 0, 0, 0, 0)), (60, 17, (0, 0, 0, 0, 0, 0)), (60, 30, (0, 0, 0, 0, 0, 0)), (60, 39, (0, 1, 1, 0, 0, 0)), (60, 40, (0, 0, 1000000, 0, 0, 0))]), (some (0, 0, 999999, 0, 0, 0), [], [(60, 0, (0, 0, 0, 0, 0, 0)), (60, 3, (0, 0, 0, 0, 0, 0)), (60, 16, (0, 0, 0, 0, 0, 0)), (60, 17, (0, 0, 0, 0, 0, 0)), (60, 30, (0, 0, 0, 0, 0, 0)), (60, 39, (0, 1, 1, 0, 0, 0)), (60, 40, (0, 0, 1000000, 0, 0, 0))])] := ha
  simp only [List.mem_cons, List.not_mem_nil, or_false] at ha
  rcases ha with rfl | rfl
  · obtain ⟨z2, e2, r⟩ := gW_int (show gW _ _ from q) (Nat.le_of_ble_eq_true rfl)
    cases e2
    have := gR0 r
    exact Or.inl ⟨this.1, this.2⟩
  · obtain ⟨z2, e2, r⟩ := gW_int (show gW _ _ from q) (Nat.le_of_ble_eq_true rfl)
    cases e2
    have := gR0 r
    have w := gR0 (show gR (0, 0, 0, 0, 0, 0) (M' 60 16) from (p _ (List.mem_cons_of_mem _ (List.mem_cons_of_mem _ List.mem_cons_self))).1)
    exact Or.inr ⟨this.1, this.2, w.1, w.2⟩
theorem ns_M_near0 {d : Nat} (hd : 5 ≤ d) {M M' : pM} {v : Int} (hM : gM gAll M) (p0 : 0 ≤ M 60 0 ∧ M 60 0 ≤ 0) (p1 : 0 ≤ M 60 3 ∧ M 60 3 ≤ 0) (e : xF d 238 [.inr 62] M = rI v M') : (-2 ≤ v ∧ v ≤ -2) ∨ (0 ≤ v ∧ v ≤ 999999 ∧ M' 60 16 = 0) := by
  obtain ⟨z, M2, e2, r⟩ := ns_M_near0_0 (d := d) (by omega) hM p0 p1
  obtain ⟨y1, y2⟩ := rI_inj (e.symm.trans e2)
  rw [y1, y2]
  rcases r with r | r
  · exact Or.inl (by omega)
  · exact Or.inr ((by omega))
theorem ns_M_guest0_0 {d : Nat} (hd : 5 ≤ d) {M : pM} {a1 : Int} {a2 : Int} (hM : gM gAll M) (h1 : -2147483648 ≤ a1 ∧ a1 ≤ 2147483647) (h2 : -2147483648 ≤ a2 ∧ a2 ≤ 2147483647) (p0 : 0 ≤ M 60 0 ∧ M 60 0 ≤ 0) (p1 : 0 ≤ M 60 3 ∧ M 60 3 ≤ 0) : ∃ z M', xF d 239 [.inr 62, .inl a1, .inl a2] M = rI z M' ∧ ((-1 ≤ z ∧ z ≤ -1) ∨ (-2 ≤ z ∧ z ≤ -2) ∨ (0 ≤ z ∧ z ≤ 999999 ∧ 0 ≤ M' 60 16 ∧ M' 60 16 ≤ 0)) := by
  have c0 : cOK gAll (xF d) 239 K_556 := (ct_of (d := d) ct_ok (show K_556 ∈ CT.getD 239 [] from (show CT.getD 239 [] = [K_967, K_969, K_971, K_973, K_975, K_977, K_979, K_981, K_983, K_985, K_987, K_989, K_556, K_1080, K_943, K_945, K_947, K_949, K_951, K_953, K_955, K_957, K_959, K_961, K_963, K_965, K_1082, K_1084, K_1086, K_1088, K_1090, K_1092, K_1094, K_1096, K_1098, K_1100, K_554] from rfl) ▸ by simp) hd)
  obtain ⟨z, M', e, -, -, alt, ha, q, p⟩ := cOK_I c0 (A := [.inr 62, .inl a1, .inl a2]) (show aF2 gW [aRef 62, (0, -2147483648, 2147483647, 0, 0, 0), (0, -2147483648, 2147483647, 0, 0, 0)] [.inr 62, .inl a1, .inl a2] from ⟨gW_o, gW_i h1.1 h1.2, gW_i h2.1 h2.2, trivial⟩) hM (show gP0 [(60, 0, (0, 0, 0, 0, 0, 0)), (60, 3, (0, 0, 0, 0, 0, 0))] M from fun e he => by
    simp only [List.mem_cons, List.not_mem_nil, or_false] at he
    rcases he with rfl | rfl
    · exact gR_i p0.1 p0.2
    · exact gR_i p1.1 p1.2) rfl
  refine ⟨z, M', e, ?_⟩
  have ha : alt ∈ [(some (0, -1, -1, 0, 0, 0), [], [(60, 0, (0, 0, 0, 0, 0, 0)), (60, 3, (0, 0, 0, 0, 0, 0)), (60, 17, (0, 0, 0, 0, 0, 0))]), (some (0, -2, -2, 0, 0, 0), [(4, 0, 0, 0, 0, 0), (0, 0, 5, 0, 0, 0), (0, 0, 99, 0, 0, 0)], [(60, 0, (0, 0, 0, 0, 0, 0)), (60, 3, (0, 0, 0, 0, 0, 0)), (60, 17, (0, 0, 0, 0, 0, 0)), (60, 30, (0, 0, 0, 0, 0, 0)), (60, 39, (0, 1, 1, 0, 0, 0)), (60, 40, (0, 0, 1000000, 0, 0, 0))]), (some (0, 0, 999999, 0, 0, 0), [(4, 0, 0, 0, 0, 0), (0, 0, 5, 0, 0, 0), (0, 0, 99, 0, 0, 0)], [(60, 0, (0, 0, 0, 0, 0, 0)), (60, 3, (0, 0, 0, 0, 0, 0)), (60, 16, (0, 0, 0, 0, 0, 0)), (60, 17, (0, 0, 0, 0, 0, 0)), (60, 30, (0, 0, 0, 0, 0, 0)), (60, 39, (0, 1, 1, 0, 0, 0)), (60, 40, (0, 0, 1000000, 0, 0, 0))])] := ha
  simp only [List.mem_cons, List.not_mem_nil, or_false] at ha
  rcases ha with rfl | rfl | rfl
  · obtain ⟨z2, e2, r⟩ := gW_int (show gW _ _ from q) (Nat.le_of_ble_eq_true rfl)
    cases e2
    have := gR0 r
    exact Or.inl ⟨this.1, this.2⟩
  · obtain ⟨z2, e2, r⟩ := gW_int (show gW _ _ from q) (Nat.le_of_ble_eq_true rfl)
    cases e2
    have := gR0 r
    exact Or.inr (Or.inl ⟨this.1, this.2⟩)
  · obtain ⟨z2, e2, r⟩ := gW_int (show gW _ _ from q) (Nat.le_of_ble_eq_true rfl)
    cases e2
    have := gR0 r
    have w := gR0 (show gR (0, 0, 0, 0, 0, 0) (M' 60 16) from (p _ (List.mem_cons_of_mem _ (List.mem_cons_of_mem _ List.mem_cons_self))).1)
    exact Or.inr (Or.inr ⟨this.1, this.2, w.1, w.2⟩)
theorem ns_M_guest0 {d : Nat} (hd : 5 ≤ d) {M M' : pM} {a1 : Int} {a2 : Int} {v : Int} (hM : gM gAll M) (h1 : -2147483648 ≤ a1 ∧ a1 ≤ 2147483647) (h2 : -2147483648 ≤ a2 ∧ a2 ≤ 2147483647) (p0 : 0 ≤ M 60 0 ∧ M 60 0 ≤ 0) (p1 : 0 ≤ M 60 3 ∧ M 60 3 ≤ 0) (e : xF d 239 [.inr 62, .inl a1, .inl a2] M = rI v M') : (-1 ≤ v ∧ v ≤ -1) ∨ (-2 ≤ v ∧ v ≤ -2) ∨ (0 ≤ v ∧ v ≤ 999999 ∧ M' 60 16 = 0) := by
  obtain ⟨z, M2, e2, r⟩ := ns_M_guest0_0 (d := d) (by omega) hM h1 h2 p0 p1
  obtain ⟨y1, y2⟩ := rI_inj (e.symm.trans e2)
  rw [y1, y2]
  rcases r with r | r | r
  · exact Or.inl (by omega)
  · exact Or.inr (Or.inl (by omega))
  · exact Or.inr (Or.inr ((by omega)))
theorem ns_M_fullest0_0 {d : Nat} (hd : 4 ≤ d) {M : pM} {a1 : Int} (hM : gM gAll M) (h1 : -2147483648 ≤ a1 ∧ a1 ≤ 2147483647) (p0 : 0 ≤ M 60 0 ∧ M 60 0 ≤ 0) (p1 : 0 ≤ M 60 3 ∧ M 60 3 ≤ 0) : ∃ z M', xF d 244 [.inr 62, .inl a1] M = rI z M' ∧ ((-1 ≤ z ∧ z ≤ -1) ∨ (-2 ≤ z ∧ z ≤ -2) ∨ (0 ≤ M' 60 16 ∧ M' 60 16 ≤ 0)) := by
  have c0 : cOK gAll (xF d) 244 K_567 := (ct_of (d := d) ct_ok (show K_567 ∈ CT.getD 244 [] from (show CT.getD 244 [] = [K_567, K_1101, K_1102, K_1103, K_1104, K_1105, K_1106, K_1107, K_1108, K_1109, K_1110, K_1111, K_566] from rfl) ▸ by simp) hd)
  obtain ⟨z, M', e, -, -, alt, ha, q, p⟩ := cOK_I c0 (A := [.inr 62, .inl a1]) (show aF2 gW [aRef 62, (0, -2147483648, 2147483647, 0, 0, 0)] [.inr 62, .inl a1] from ⟨gW_o, gW_i h1.1 h1.2, trivial⟩) hM (show gP0 [(60, 0, (0, 0, 0, 0, 0, 0)), (60, 3, (0, 0, 0, 0, 0, 0))] M from fun e he => by
    simp only [List.mem_cons, List.not_mem_nil, or_false] at he
    rcases he with rfl | rfl
    · exact gR_i p0.1 p0.2
    · exact gR_i p1.1 p1.2) rfl
  refine ⟨z, M', e, ?_⟩
  have ha : alt ∈ [(some (0, -1, -1, 0, 0, 0), [], [(60, 0, (0, 0, 0, 0, 0, 0)), (60, 3, (0, 0, 0, 0, 0, 0)), (60, 17, (0, 0, 0, 0, 0, 0))]), (some (0, -2, -2, 0, 0, 0), [(4, 0, 0, 0, 0, 0), (0, 0, 5, 0, 0, 0)], [(60, 0, (0, 0, 0, 0, 0, 0)), (60, 3, (0, 0, 0, 0, 0, 0)), (60, 17, (0, 0, 0, 0, 0, 0)), (60, 30, (0, 0, 0, 0, 0, 0)), (60, 39, (0, 1, 1, 0, 0, 0)), (60, 40, (0, 0, 1000000, 0, 0, 0))]), (some (1, 0, 0, 0, 0, 0), [(4, 0, 0, 0, 0, 0), (0, 0, 5, 0, 0, 0)], [(60, 0, (0, 0, 0, 0, 0, 0)), (60, 3, (0, 0, 0, 0, 0, 0)), (60, 16, (0, 0, 0, 0, 0, 0)), (60, 17, (0, 0, 0, 0, 0, 0)), (60, 30, (0, 0, 0, 0, 0, 0)), (60, 39, (0, 1, 1, 0, 0, 0)), (60, 40, (0, 0, 1000000, 0, 0, 0))])] := ha
  simp only [List.mem_cons, List.not_mem_nil, or_false] at ha
  rcases ha with rfl | rfl | rfl
  · obtain ⟨z2, e2, r⟩ := gW_int (show gW _ _ from q) (Nat.le_of_ble_eq_true rfl)
    cases e2
    have := gR0 r
    exact Or.inl ⟨this.1, this.2⟩
  · obtain ⟨z2, e2, r⟩ := gW_int (show gW _ _ from q) (Nat.le_of_ble_eq_true rfl)
    cases e2
    have := gR0 r
    exact Or.inr (Or.inl ⟨this.1, this.2⟩)
  · have w := gR0 (show gR (0, 0, 0, 0, 0, 0) (M' 60 16) from (p _ (List.mem_cons_of_mem _ (List.mem_cons_of_mem _ List.mem_cons_self))).1)
    exact Or.inr (Or.inr ⟨w.1, w.2⟩)
theorem ns_M_fullest0 {d : Nat} (hd : 4 ≤ d) {M M' : pM} {a1 : Int} {v : Int} (hM : gM gAll M) (h1 : -2147483648 ≤ a1 ∧ a1 ≤ 2147483647) (p0 : 0 ≤ M 60 0 ∧ M 60 0 ≤ 0) (p1 : 0 ≤ M 60 3 ∧ M 60 3 ≤ 0) (e : xF d 244 [.inr 62, .inl a1] M = rI v M') : (-1 ≤ v ∧ v ≤ -1) ∨ (-2 ≤ v ∧ v ≤ -2) ∨ (M' 60 16 = 0) := by
  obtain ⟨z, M2, e2, r⟩ := ns_M_fullest0_0 (d := d) (by omega) hM h1 p0 p1
  obtain ⟨y1, y2⟩ := rI_inj (e.symm.trans e2)
  rw [y1, y2]
  rcases r with r | r | r
  · exact Or.inl (by omega)
  · exact Or.inr (Or.inl (by omega))
  · exact Or.inr (Or.inr ((by omega)))
theorem ns_M_together1_0 {d : Nat} (hd : 4 ≤ d) {M : pM} {a1 : Int} {a2 : Int} (hM : gM gAll M) (h1 : -2147483648 ≤ a1 ∧ a1 ≤ 2147483647) (h2 : -2147483648 ≤ a2 ∧ a2 ≤ 2147483647) (p0 : 1 ≤ M 60 0 ∧ M 60 0 ≤ 6) : ∃ z M', xF d 243 [.inr 62, .inl a1, .inl a2] M = rI z M' ∧ ((-1 ≤ z ∧ z ≤ -1) ∨ (-3 ≤ z ∧ z ≤ -3) ∨ (1 ≤ M' 60 16 ∧ M' 60 16 ≤ 1)) := by
  have c0 : cOK gAll (xF d) 243 K_564 := (ct_of (d := d) ct_ok (show K_564 ∈ CT.getD 243 [] from (show CT.getD 243 [] = [K_565, K_564] from rfl) ▸ by simp) hd)
  obtain ⟨z, M', e, -, -, alt, ha, q, p⟩ := cOK_I c0 (A := [.inr 62, .inl a1, .inl a2]) (show aF2 gW [aRef 62, (0, -2147483648, 2147483647, 0, 0, 0), (0, -2147483648, 2147483647, 0, 0, 0)] [.inr 62, .inl a1, .inl a2] from ⟨gW_o, gW_i h1.1 h1.2, gW_i h2.1 h2.2, trivial⟩) hM (show gP0 [(60, 0, (0, 1, 6, 0, 0, 0))] M from fun e he => by
    simp only [List.mem_cons, List.not_mem_nil, or_false] at he
    rcases he with rfl
    · exact gR_i p0.1 p0.2) rfl
  refine ⟨z, M', e, ?_⟩
  have ha : alt ∈ [(some (0, -1, -1, 0, 0, 0), [], [(60, 0, (0, 1, 6, 0, 0, 0)), (60, 17, (0, 0, 0, 0, 0, 0))]), (some (0, -3, -3, 0, 0, 0), [(4, 0, 0, 0, 0, 0), (0, 0, 9, 0, 0, 0), (0, 0, 9, 0, 0, 0)], [(60, 0, (0, 1, 6, 0, 0, 0)), (60, 17, (0, 0, 0, 0, 0, 0)), (60, 39, (0, 20001, 1000000, 0, 0, 0))]), (some (1, 0, 0, 0, 0, 0), [(4, 0, 0, 0, 0, 0), (0, 0, 9, 0, 0, 0), (0, 0, 9, 0, 0, 0)], [(60, 0, (0, 1, 6, 0, 0, 0)), (60, 16, (0, 1, 1, 0, 0, 0)), (60, 17, (0, 0, 0, 0, 0, 0)), (60, 39, (0, 1, 20000, 0, 0, 0)), (60, 40, (0, 0, 1000000, 0, 0, 0))])] := ha
  simp only [List.mem_cons, List.not_mem_nil, or_false] at ha
  rcases ha with rfl | rfl | rfl
  · obtain ⟨z2, e2, r⟩ := gW_int (show gW _ _ from q) (Nat.le_of_ble_eq_true rfl)
    cases e2
    have := gR0 r
    exact Or.inl ⟨this.1, this.2⟩
  · obtain ⟨z2, e2, r⟩ := gW_int (show gW _ _ from q) (Nat.le_of_ble_eq_true rfl)
    cases e2
    have := gR0 r
    exact Or.inr (Or.inl ⟨this.1, this.2⟩)
  · have w := gR0 (show gR (0, 1, 1, 0, 0, 0) (M' 60 16) from (p _ (List.mem_cons_of_mem _ List.mem_cons_self)).1)
    exact Or.inr (Or.inr ⟨w.1, w.2⟩)
theorem ns_M_together1 {d : Nat} (hd : 4 ≤ d) {M M' : pM} {a1 : Int} {a2 : Int} {v : Int} (hM : gM gAll M) (h1 : -2147483648 ≤ a1 ∧ a1 ≤ 2147483647) (h2 : -2147483648 ≤ a2 ∧ a2 ≤ 2147483647) (p0 : 1 ≤ M 60 0 ∧ M 60 0 ≤ 6) (e : xF d 243 [.inr 62, .inl a1, .inl a2] M = rI v M') : (-1 ≤ v ∧ v ≤ -1) ∨ (-3 ≤ v ∧ v ≤ -3) ∨ (M' 60 16 = 1) := by
  obtain ⟨z, M2, e2, r⟩ := ns_M_together1_0 (d := d) (by omega) hM h1 h2 p0
  obtain ⟨y1, y2⟩ := rI_inj (e.symm.trans e2)
  rw [y1, y2]
  rcases r with r | r | r
  · exact Or.inl (by omega)
  · exact Or.inr (Or.inl (by omega))
  · exact Or.inr (Or.inr ((by omega)))
theorem ns_M_together0_0 {d : Nat} (hd : 4 ≤ d) {M : pM} {a1 : Int} {a2 : Int} (hM : gM gAll M) (h1 : -2147483648 ≤ a1 ∧ a1 ≤ 2147483647) (h2 : -2147483648 ≤ a2 ∧ a2 ≤ 2147483647) (p0 : 0 ≤ M 60 0 ∧ M 60 0 ≤ 0) (p1 : 0 ≤ M 60 3 ∧ M 60 3 ≤ 0) : ∃ z M', xF d 243 [.inr 62, .inl a1, .inl a2] M = rI z M' ∧ ((-1 ≤ z ∧ z ≤ -1) ∨ (1 ≤ M' 60 16 ∧ M' 60 16 ≤ 1)) := by
  have c0 : cOK gAll (xF d) 243 K_565 := (ct_of (d := d) ct_ok (show K_565 ∈ CT.getD 243 [] from (show CT.getD 243 [] = [K_565, K_564] from rfl) ▸ by simp) hd)
  obtain ⟨z, M', e, -, -, alt, ha, q, p⟩ := cOK_I c0 (A := [.inr 62, .inl a1, .inl a2]) (show aF2 gW [aRef 62, (0, -2147483648, 2147483647, 0, 0, 0), (0, -2147483648, 2147483647, 0, 0, 0)] [.inr 62, .inl a1, .inl a2] from ⟨gW_o, gW_i h1.1 h1.2, gW_i h2.1 h2.2, trivial⟩) hM (show gP0 [(60, 0, (0, 0, 0, 0, 0, 0)), (60, 3, (0, 0, 0, 0, 0, 0))] M from fun e he => by
    simp only [List.mem_cons, List.not_mem_nil, or_false] at he
    rcases he with rfl | rfl
    · exact gR_i p0.1 p0.2
    · exact gR_i p1.1 p1.2) rfl
  refine ⟨z, M', e, ?_⟩
  have ha : alt ∈ [(some (0, -1, -1, 0, 0, 0), [], [(60, 0, (0, 0, 0, 0, 0, 0)), (60, 3, (0, 0, 0, 0, 0, 0)), (60, 17, (0, 0, 0, 0, 0, 0))]), (some (1, 0, 0, 0, 0, 0), [(4, 0, 0, 0, 0, 0), (0, 0, 9, 0, 0, 0), (0, 0, 9, 0, 0, 0)], [(60, 0, (0, 0, 0, 0, 0, 0)), (60, 3, (0, 0, 0, 0, 0, 0)), (60, 16, (0, 1, 1, 0, 0, 0)), (60, 17, (0, 0, 0, 0, 0, 0)), (60, 30, (0, 0, 0, 0, 0, 0)), (60, 39, (0, 1, 1, 0, 0, 0)), (60, 40, (0, 0, 1000000, 0, 0, 0))])] := ha
  simp only [List.mem_cons, List.not_mem_nil, or_false] at ha
  rcases ha with rfl | rfl
  · obtain ⟨z2, e2, r⟩ := gW_int (show gW _ _ from q) (Nat.le_of_ble_eq_true rfl)
    cases e2
    have := gR0 r
    exact Or.inl ⟨this.1, this.2⟩
  · have w := gR0 (show gR (0, 1, 1, 0, 0, 0) (M' 60 16) from (p _ (List.mem_cons_of_mem _ (List.mem_cons_of_mem _ List.mem_cons_self))).1)
    exact Or.inr ⟨w.1, w.2⟩
theorem ns_M_together0 {d : Nat} (hd : 4 ≤ d) {M M' : pM} {a1 : Int} {a2 : Int} {v : Int} (hM : gM gAll M) (h1 : -2147483648 ≤ a1 ∧ a1 ≤ 2147483647) (h2 : -2147483648 ≤ a2 ∧ a2 ≤ 2147483647) (p0 : 0 ≤ M 60 0 ∧ M 60 0 ≤ 0) (p1 : 0 ≤ M 60 3 ∧ M 60 3 ≤ 0) (e : xF d 243 [.inr 62, .inl a1, .inl a2] M = rI v M') : (-1 ≤ v ∧ v ≤ -1) ∨ (M' 60 16 = 1) := by
  obtain ⟨z, M2, e2, r⟩ := ns_M_together0_0 (d := d) (by omega) hM h1 h2 p0 p1
  obtain ⟨y1, y2⟩ := rI_inj (e.symm.trans e2)
  rw [y1, y2]
  rcases r with r | r
  · exact Or.inl (by omega)
  · exact Or.inr ((by omega))
theorem ns_M_evening_0 {d : Nat} (hd : 5 ≤ d) {M : pM} (hM : gM gAll M)  : ∃ z M', xF d 218 [.inr 62] M = rI z M' ∧ ((0 ≤ z ∧ z ≤ 0 ∧ 2 ≤ M' 60 16 ∧ M' 60 16 ≤ 2) ∨ (1 ≤ z ∧ z ≤ 1 ∧ 2 ≤ M' 60 16 ∧ M' 60 16 ≤ 2)) := by
  have c0 : cOK gAll (xF d) 218 K_1135 := (ct_of (d := d) ct_ok (show K_1135 ∈ CT.getD 218 [] from (show CT.getD 218 [] = [K_1135] from rfl) ▸ by simp) hd)
  obtain ⟨z, M', e, -, -, alt, ha, q, p⟩ := cOK_I c0 (A := [.inr 62]) (show aF2 gW [aRef 62] [.inr 62] from ⟨gW_o, trivial⟩) hM (show gP0 [] M from fun e he => by cases he) rfl
  refine ⟨z, M', e, ?_⟩
  have ha : alt ∈ [(some (0, 0, 0, 0, 0, 0), [], [(60, 16, (0, 2, 2, 0, 0, 0)), (60, 17, (0, 0, 0, 0, 0, 0)), (69, 1, (0, -2147483648, 2147483647, 0, 0, 0))]), (some (0, 1, 1, 0, 0, 0), [], [(60, 11, (0, 0, 0, 0, 0, 0)), (60, 16, (0, 2, 2, 0, 0, 0)), (60, 17, (0, 0, 0, 0, 0, 0)), (60, 33, (0, 0, 0, 0, 0, 0)), (69, 1, (0, -2147483648, 2147483647, 0, 0, 0))])] := ha
  simp only [List.mem_cons, List.not_mem_nil, or_false] at ha
  rcases ha with rfl | rfl
  · obtain ⟨z2, e2, r⟩ := gW_int (show gW _ _ from q) (Nat.le_of_ble_eq_true rfl)
    cases e2
    have := gR0 r
    have w := gR0 (show gR (0, 2, 2, 0, 0, 0) (M' 60 16) from (p _ List.mem_cons_self).1)
    exact Or.inl ⟨this.1, this.2, w.1, w.2⟩
  · obtain ⟨z2, e2, r⟩ := gW_int (show gW _ _ from q) (Nat.le_of_ble_eq_true rfl)
    cases e2
    have := gR0 r
    have w := gR0 (show gR (0, 2, 2, 0, 0, 0) (M' 60 16) from (p _ (List.mem_cons_of_mem _ List.mem_cons_self)).1)
    exact Or.inr ⟨this.1, this.2, w.1, w.2⟩
theorem ns_M_evening {d : Nat} (hd : 5 ≤ d) {M M' : pM} {v : Int} (hM : gM gAll M)  (e : xF d 218 [.inr 62] M = rI v M') : (0 ≤ v ∧ v ≤ 0 ∧ M' 60 16 = 2) ∨ (1 ≤ v ∧ v ≤ 1 ∧ M' 60 16 = 2) := by
  obtain ⟨z, M2, e2, r⟩ := ns_M_evening_0 (d := d) (by omega) hM 
  obtain ⟨y1, y2⟩ := rI_inj (e.symm.trans e2)
  rw [y1, y2]
  rcases r with r | r
  · exact Or.inl (by omega)
  · exact Or.inr ((by omega))
theorem ns_M_day_0 {d : Nat} (hd : 5 ≤ d) {M : pM} (hM : gM gAll M)  : ∃ z M', xF d 219 [.inr 62] M = rI z M' ∧ ((0 ≤ z ∧ z ≤ 0 ∧ 2 ≤ M' 60 16 ∧ M' 60 16 ≤ 2) ∨ (1 ≤ z ∧ z ≤ 1 ∧ 2 ≤ M' 60 16 ∧ M' 60 16 ≤ 2) ∨ (2 ≤ z ∧ z ≤ 15 ∧ 2 ≤ M' 60 16 ∧ M' 60 16 ≤ 2) ∨ (-81 ≤ z ∧ z ≤ -1)) := by
  have c0 : cOK gAll (xF d) 219 K_1163 := (ct_of (d := d) ct_ok (show K_1163 ∈ CT.getD 219 [] from (show CT.getD 219 [] = [K_1163] from rfl) ▸ by simp) hd)
  obtain ⟨z, M', e, -, -, alt, ha, q, p⟩ := cOK_I c0 (A := [.inr 62]) (show aF2 gW [aRef 62] [.inr 62] from ⟨gW_o, trivial⟩) hM (show gP0 [] M from fun e he => by cases he) rfl
  refine ⟨z, M', e, ?_⟩
  have ha : alt ∈ [(some (0, 0, 0, 0, 0, 0), [], [(60, 14, (0, 0, 0, 0, 0, 0)), (60, 16, (0, 2, 2, 0, 0, 0)), (60, 17, (0, 0, 0, 0, 0, 0)), (60, 18, (0, 70, 70, 0, 0, 0)), (60, 19, (0, 0, 40, 0, 0, 0)), (60, 20, (0, 40, 40, 0, 0, 0)), (60, 21, (0, 0, 40, 0, 0, 0)), (60, 22, (0, -1, -1, 0, 0, 0)), (69, 1, (0, -2147483648, 2147483647, 0, 0, 0))]), (some (0, 1, 1, 0, 0, 0), [], [(60, 14, (0, 0, 0, 0, 0, 0)), (60, 16, (0, 2, 2, 0, 0, 0)), (60, 17, (0, 0, 0, 0, 0, 0)), (60, 18, (0, 70, 70, 0, 0, 0)), (60, 19, (0, 0, 40, 0, 0, 0)), (60, 20, (0, 40, 40, 0, 0, 0)), (60, 21, (0, 0, 40, 0, 0, 0)), (60, 22, (0, -1, -1, 0, 0, 0)), (69, 1, (0, -2147483648, 2147483647, 0, 0, 0)), (76, 0, (0, 0, 9, 0, 0, 0)), (76, 1, (0, 0, 5, 0, 0, 0))]), (some (0, 2, 15, 0, 0, 0), [], [(60, 14, (0, 0, 0, 0, 0, 0)), (60, 16, (0, 2, 2, 0, 0, 0)), (60, 17, (0, 0, 0, 0, 0, 0)), (60, 18, (0, 70, 70, 0, 0, 0)), (60, 19, (0, 0, 40, 0, 0, 0)), (60, 20, (0, 40, 40, 0, 0, 0)), (60, 21, (0, 0, 40, 0, 0, 0)), (60, 22, (0, -1, -1, 0, 0, 0)), (69, 1, (0, -2147483648, 2147483647, 0, 0, 0)), (76, 0, (0, 0, 9, 0, 0, 0)), (76, 1, (0, 0, 5, 0, 0, 0)), (76, 2, (0, 0, 9, 0, 0, 0)), (76, 3, (0, 0, 5, 0, 0, 0))]), (some (0, -81, -1, 0, 0, 0), [], [(60, 14, (0, 0, 0, 0, 0, 0)), (60, 17, (0, 0, 0, 0, 0, 0)), (60, 18, (0, 70, 70, 0, 0, 0)), (60, 20, (0, 40, 40, 0, 0, 0)), (60, 21, (0, 0, 75, 0, 0, 0)), (60, 22, (0, 0, 80, 0, 0, 0))])] := ha
  simp only [List.mem_cons, List.not_mem_nil, or_false] at ha
  rcases ha with rfl | rfl | rfl | rfl
  · obtain ⟨z2, e2, r⟩ := gW_int (show gW _ _ from q) (Nat.le_of_ble_eq_true rfl)
    cases e2
    have := gR0 r
    have w := gR0 (show gR (0, 2, 2, 0, 0, 0) (M' 60 16) from (p _ (List.mem_cons_of_mem _ List.mem_cons_self)).1)
    exact Or.inl ⟨this.1, this.2, w.1, w.2⟩
  · obtain ⟨z2, e2, r⟩ := gW_int (show gW _ _ from q) (Nat.le_of_ble_eq_true rfl)
    cases e2
    have := gR0 r
    have w := gR0 (show gR (0, 2, 2, 0, 0, 0) (M' 60 16) from (p _ (List.mem_cons_of_mem _ List.mem_cons_self)).1)
    exact Or.inr (Or.inl ⟨this.1, this.2, w.1, w.2⟩)
  · obtain ⟨z2, e2, r⟩ := gW_int (show gW _ _ from q) (Nat.le_of_ble_eq_true rfl)
    cases e2
    have := gR0 r
    have w := gR0 (show gR (0, 2, 2, 0, 0, 0) (M' 60 16) from (p _ (List.mem_cons_of_mem _ List.mem_cons_self)).1)
    exact Or.inr (Or.inr (Or.inl ⟨this.1, this.2, w.1, w.2⟩))
  · obtain ⟨z2, e2, r⟩ := gW_int (show gW _ _ from q) (Nat.le_of_ble_eq_true rfl)
    cases e2
    have := gR0 r
    exact Or.inr (Or.inr (Or.inr ⟨this.1, this.2⟩))
theorem ns_M_day {d : Nat} (hd : 5 ≤ d) {M M' : pM} {v : Int} (hM : gM gAll M)  (e : xF d 219 [.inr 62] M = rI v M') : (0 ≤ v ∧ v ≤ 0 ∧ M' 60 16 = 2) ∨ (1 ≤ v ∧ v ≤ 1 ∧ M' 60 16 = 2) ∨ (2 ≤ v ∧ v ≤ 15 ∧ M' 60 16 = 2) ∨ (-81 ≤ v ∧ v ≤ -1) := by
  obtain ⟨z, M2, e2, r⟩ := ns_M_day_0 (d := d) (by omega) hM 
  obtain ⟨y1, y2⟩ := rI_inj (e.symm.trans e2)
  rw [y1, y2]
  rcases r with r | r | r | r
  · exact Or.inl (by omega)
  · exact Or.inr (Or.inl (by omega))
  · exact Or.inr (Or.inr (Or.inl (by omega)))
  · exact Or.inr (Or.inr (Or.inr ((by omega))))
theorem ns_M_judge_0 {d : Nat} (hd : 4 ≤ d) {M : pM} {a1 : Int} {a2 : Int} (hM : gM gAll M) (h1 : 0 ≤ a1 ∧ a1 ≤ 4) (h2 : -2147483648 ≤ a2 ∧ a2 ≤ 2147483647) : ∃ z M', xF d 221 [.inr 62, .inl a1, .inl a2] M = rI z M' ∧ ((-2 ≤ z ∧ z ≤ 3 ∧ 2 ≤ M' 60 16 ∧ M' 60 16 ≤ 2)) := by
  have c0 : cOK gAll (xF d) 221 K_1165 := (ct_of (d := d) ct_ok (show K_1165 ∈ CT.getD 221 [] from (show CT.getD 221 [] = [K_1165] from rfl) ▸ by simp) hd)
  obtain ⟨z, M', e, -, -, alt, ha, q, p⟩ := cOK_I c0 (A := [.inr 62, .inl a1, .inl a2]) (show aF2 gW [aRef 62, (0, 0, 4, 0, 0, 0), (0, -2147483648, 2147483647, 0, 0, 0)] [.inr 62, .inl a1, .inl a2] from ⟨gW_o, gW_i h1.1 h1.2, gW_i h2.1 h2.2, trivial⟩) hM (show gP0 [] M from fun e he => by cases he) rfl
  refine ⟨z, M', e, ?_⟩
  have ha : alt ∈ [(some (0, -2, 3, 0, 0, 0), [], [(60, 16, (0, 2, 2, 0, 0, 0)), (60, 17, (0, 0, 0, 0, 0, 0)), (69, 1, (0, -2147483648, 2147483647, 0, 0, 0))])] := ha
  simp only [List.mem_cons, List.not_mem_nil, or_false] at ha
  rcases ha with rfl
  · obtain ⟨z2, e2, r⟩ := gW_int (show gW _ _ from q) (Nat.le_of_ble_eq_true rfl)
    cases e2
    have := gR0 r
    have w := gR0 (show gR (0, 2, 2, 0, 0, 0) (M' 60 16) from (p _ List.mem_cons_self).1)
    exact ⟨this.1, this.2, w.1, w.2⟩
theorem ns_M_judge {d : Nat} (hd : 4 ≤ d) {M M' : pM} {a1 : Int} {a2 : Int} {v : Int} (hM : gM gAll M) (h1 : 0 ≤ a1 ∧ a1 ≤ 4) (h2 : -2147483648 ≤ a2 ∧ a2 ≤ 2147483647) (e : xF d 221 [.inr 62, .inl a1, .inl a2] M = rI v M') : (-2 ≤ v ∧ v ≤ 3 ∧ M' 60 16 = 2) := by
  obtain ⟨z, M2, e2, r⟩ := ns_M_judge_0 (d := d) (by omega) hM h1 h2
  obtain ⟨y1, y2⟩ := rI_inj (e.symm.trans e2)
  rw [y1, y2]
  exact by omega
