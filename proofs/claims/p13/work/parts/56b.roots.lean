/-! the calls that need no hand (by program) -/
theorem q_X_sign_c {d : Nat} (hd : 2 ≤ d) : cOK gAll (xF d) 0 K_1 := ct_of ct_ok (show K_1 ∈ CT.getD 0 [] from (show CT.getD 0 [] = [K_1] from rfl) ▸ by simp) hd
theorem q_X_sign {d : Nat} (hd : 2 ≤ d) {M : pM} {a1 : Int} (hM : gM gAll M) (h1 : -2147483648 ≤ a1 ∧ a1 ≤ 2147483647) : ∃ z M', xF d 0 [.inr 2, .inl a1] M = rI z M' ∧ gM gAll M' ∧ Fr [(1, 1), (2, 999)] M M' ∧ (-1 ≤ z ∧ z ≤ 80) := by
  obtain ⟨z, M', e, g, f, alt, ha, q, -⟩ := cOK_I (q_X_sign_c hd) (A := [.inr 2, .inl a1]) (show aF2 gW [aRef 2, (0, -2147483648, 2147483647, 0, 0, 0)] [.inr 2, .inl a1] from ⟨gW_o, gW_i h1.1 h1.2, trivial⟩) hM (show gP0 [] M from fun e he => by cases he) rfl
  refine ⟨z, M', e, g, f, ?_⟩
  have ha : alt ∈ [(some (0, -1, -1, 0, 0, 0), [], [(1, 1, (0, 77, 80, 0, 0, 0))]), (some (0, 4, 80, 0, 0, 0), [], [(1, 1, (0, 4, 80, 0, 0, 0))])] := ha
  simp only [List.mem_cons, List.not_mem_nil, or_false] at ha
  rcases ha with rfl | rfl
  · obtain ⟨z2, e2, r⟩ := gW_int (show gW _ _ from q) (Nat.le_of_ble_eq_true rfl)
    cases e2
    have := gR0 r
    omega
  · obtain ⟨z2, e2, r⟩ := gW_int (show gW _ _ from q) (Nat.le_of_ble_eq_true rfl)
    cases e2
    have := gR0 r
    omega
theorem q_X_end_c {d : Nat} (hd : 2 ≤ d) : cOK gAll (xF d) 1 K_3 := ct_of ct_ok (show K_3 ∈ CT.getD 1 [] from (show CT.getD 1 [] = [K_3] from rfl) ▸ by simp) hd
theorem q_X_end {d : Nat} (hd : 2 ≤ d) {M : pM} {a1 : Int} (hM : gM gAll M) (h1 : -2147483648 ≤ a1 ∧ a1 ≤ 2147483647) : ∃ z M', xF d 1 [.inr 2, .inl a1] M = rI z M' ∧ gM gAll M' ∧ Fr [(1, 1)] M M' ∧ (0 ≤ z ∧ z ≤ 1) := by
  obtain ⟨z, M', e, g, f, alt, ha, q, -⟩ := cOK_I (q_X_end_c hd) (A := [.inr 2, .inl a1]) (show aF2 gW [aRef 2, (0, -2147483648, 2147483647, 0, 0, 0)] [.inr 2, .inl a1] from ⟨gW_o, gW_i h1.1 h1.2, trivial⟩) hM (show gP0 [] M from fun e he => by cases he) rfl
  refine ⟨z, M', e, g, f, ?_⟩
  have ha : alt ∈ [(some (0, 0, 0, 0, 0, 0), [], []), (some (0, 1, 1, 0, 0, 0), [(4, 0, 0, 0, 0, 0), (0, 0, 80, 0, 0, 0)], [])] := ha
  simp only [List.mem_cons, List.not_mem_nil, or_false] at ha
  rcases ha with rfl | rfl
  · obtain ⟨z2, e2, r⟩ := gW_int (show gW _ _ from q) (Nat.le_of_ble_eq_true rfl)
    cases e2
    have := gR0 r
    omega
  · obtain ⟨z2, e2, r⟩ := gW_int (show gW _ _ from q) (Nat.le_of_ble_eq_true rfl)
    cases e2
    have := gR0 r
    omega
theorem q_X_house_c {d : Nat} (hd : 8 ≤ d) : cOK gAll (xF d) 2 K_166 := ct_of ct_ok (show K_166 ∈ CT.getD 2 [] from (show CT.getD 2 [] = [K_166] from rfl) ▸ by simp) hd
theorem q_X_house {d : Nat} (hd : 8 ≤ d) {M : pM} (hM : gM gAll M)  : ∃ z M', xF d 2 [.inr 2] M = rI z M' ∧ gM gAll M' ∧ Fr [(1, 1), (3, 1), (3, 2), (3, 3), (7, 9), (7, 10), (7, 11), (7, 12), (8, 999), (9, 999), (10, 999), (11, 999), (12, 999), (13, 999), (14, 999), (15, 999), (16, 999), (17, 9), (17, 10), (17, 11), (17, 12), (18, 999), (19, 999), (20, 999), (21, 999), (22, 999), (23, 999), (24, 999), (25, 999), (26, 999), (39, 3)] M M' := by
  obtain ⟨z, M', e, g, f, alt, ha, q, -⟩ := cOK_I (q_X_house_c hd) (A := [.inr 2]) (show aF2 gW [aRef 2] [.inr 2] from ⟨gW_o, trivial⟩) hM (show gP0 [] M from fun e he => by cases he) rfl
  exact ⟨z, M', e, g, f⟩
theorem q_X_rule_c {d : Nat} (hd : 32 ≤ d) : cOK gAll (xF d) 3 K_214 := ct_of ct_ok (show K_214 ∈ CT.getD 3 [] from (show CT.getD 3 [] = [K_214] from rfl) ▸ by simp) hd
theorem q_X_rule {d : Nat} (hd : 32 ≤ d) {M : pM} (hM : gM gAll M)  : ∃ z M', xF d 3 [.inr 2] M = rI z M' ∧ gM gAll M' ∧ Fr [(1, 1), (3, 1), (3, 2), (3, 3), (28, 1), (29, 999)] M M' ∧ (-81 ≤ z ∧ z ≤ 0) := by
  obtain ⟨z, M', e, g, f, alt, ha, q, -⟩ := cOK_I (q_X_rule_c hd) (A := [.inr 2]) (show aF2 gW [aRef 2] [.inr 2] from ⟨gW_o, trivial⟩) hM (show gP0 [] M from fun e he => by cases he) rfl
  refine ⟨z, M', e, g, f, ?_⟩
  have ha : alt ∈ [(some (0, 0, 0, 0, 0, 0), [], [(3, 2, (0, 0, 40, 0, 0, 0)), (3, 3, (0, -1, -1, 0, 0, 0))]), (some (0, -81, -1, 0, 0, 0), [], [(3, 2, (0, 0, 40, 0, 0, 0))])] := ha
  simp only [List.mem_cons, List.not_mem_nil, or_false] at ha
  rcases ha with rfl | rfl
  · obtain ⟨z2, e2, r⟩ := gW_int (show gW _ _ from q) (Nat.le_of_ble_eq_true rfl)
    cases e2
    have := gR0 r
    omega
  · obtain ⟨z2, e2, r⟩ := gW_int (show gW _ _ from q) (Nat.le_of_ble_eq_true rfl)
    cases e2
    have := gR0 r
    omega
theorem q_X_set_c {d : Nat} (hd : 1 ≤ d) : cOK gAll (xF d) 6 K_215 := ct_of ct_ok (show K_215 ∈ CT.getD 6 [] from (show CT.getD 6 [] = [K_215] from rfl) ▸ by simp) hd
theorem q_X_set {d : Nat} (hd : 1 ≤ d) {M : pM} {a1 : Int} (hM : gM gAll M) (h1 : -2147483648 ≤ a1 ∧ a1 ≤ 2147483647) : ∃ z M', xF d 6 [.inr 2, .inl a1] M = rI z M' ∧ gM gAll M' ∧ Fr [] M M' ∧ (-1 ≤ z ∧ z ≤ 1023) := by
  obtain ⟨z, M', e, g, f, alt, ha, q, -⟩ := cOK_I (q_X_set_c hd) (A := [.inr 2, .inl a1]) (show aF2 gW [aRef 2, (0, -2147483648, 2147483647, 0, 0, 0)] [.inr 2, .inl a1] from ⟨gW_o, gW_i h1.1 h1.2, trivial⟩) hM (show gP0 [] M from fun e he => by cases he) rfl
  refine ⟨z, M', e, g, f, ?_⟩
  have ha : alt ∈ [(some (0, -1, -1, 0, 0, 0), [], []), (some (0, 0, 1023, 0, 0, 0), [(4, 0, 0, 0, 0, 0), (0, 0, 7, 0, 0, 0)], [(7, 11, (0, 1, 8, 0, 0, 0))])] := ha
  simp only [List.mem_cons, List.not_mem_nil, or_false] at ha
  rcases ha with rfl | rfl
  · obtain ⟨z2, e2, r⟩ := gW_int (show gW _ _ from q) (Nat.le_of_ble_eq_true rfl)
    cases e2
    have := gR0 r
    omega
  · obtain ⟨z2, e2, r⟩ := gW_int (show gW _ _ from q) (Nat.le_of_ble_eq_true rfl)
    cases e2
    have := gR0 r
    omega
theorem q_X_door_c {d : Nat} (hd : 4 ≤ d) : cOK gAll (xF d) 7 K_219 := ct_of ct_ok (show K_219 ∈ CT.getD 7 [] from (show CT.getD 7 [] = [K_219] from rfl) ▸ by simp) hd
theorem q_X_door {d : Nat} (hd : 4 ≤ d) {M : pM} {a1 : Int} {a2 : Int} (hM : gM gAll M) (h1 : -2147483648 ≤ a1 ∧ a1 ≤ 2147483647) (h2 : -2147483648 ≤ a2 ∧ a2 ≤ 2147483647) : ∃ z M', xF d 7 [.inr 2, .inl a1, .inl a2] M = rI z M' ∧ gM gAll M' ∧ Fr [] M M' ∧ (-2 ≤ z ∧ z ≤ 9) := by
  obtain ⟨z, M', e, g, f, alt, ha, q, -⟩ := cOK_I (q_X_door_c hd) (A := [.inr 2, .inl a1, .inl a2]) (show aF2 gW [aRef 2, (0, -2147483648, 2147483647, 0, 0, 0), (0, -2147483648, 2147483647, 0, 0, 0)] [.inr 2, .inl a1, .inl a2] from ⟨gW_o, gW_i h1.1 h1.2, gW_i h2.1 h2.2, trivial⟩) hM (show gP0 [] M from fun e he => by cases he) rfl
  refine ⟨z, M', e, g, f, ?_⟩
  have ha : alt ∈ [(some (0, -1, -1, 0, 0, 0), [], []), (some (0, -2, -2, 0, 0, 0), [(4, 0, 0, 0, 0, 0), (0, 0, 5, 0, 0, 0), (0, 0, 5, 0, 0, 0)], [(7, 9, (0, 1, 6, 0, 0, 0))]), (some (0, 1, 9, 0, 0, 0), [(4, 0, 0, 0, 0, 0), (0, 0, 5, 0, 0, 0), (0, 0, 5, 0, 0, 0)], [(7, 9, (0, 1, 6, 0, 0, 0))])] := ha
  simp only [List.mem_cons, List.not_mem_nil, or_false] at ha
  rcases ha with rfl | rfl | rfl
  · obtain ⟨z2, e2, r⟩ := gW_int (show gW _ _ from q) (Nat.le_of_ble_eq_true rfl)
    cases e2
    have := gR0 r
    omega
  · obtain ⟨z2, e2, r⟩ := gW_int (show gW _ _ from q) (Nat.le_of_ble_eq_true rfl)
    cases e2
    have := gR0 r
    omega
  · obtain ⟨z2, e2, r⟩ := gW_int (show gW _ _ from q) (Nat.le_of_ble_eq_true rfl)
    cases e2
    have := gR0 r
    omega
theorem q_X_widen_c {d : Nat} (hd : 4 ≤ d) : cOK gAll (xF d) 8 K_221 := ct_of ct_ok (show K_221 ∈ CT.getD 8 [] from (show CT.getD 8 [] = [K_221] from rfl) ▸ by simp) hd
theorem q_X_widen {d : Nat} (hd : 4 ≤ d) {M : pM} {a1 : Int} {a2 : Int} {a3 : Int} (hM : gM gAll M) (h1 : -2147483648 ≤ a1 ∧ a1 ≤ 2147483647) (h2 : -2147483648 ≤ a2 ∧ a2 ≤ 2147483647) (h3 : -2147483648 ≤ a3 ∧ a3 ≤ 2147483647) : ∃ z M', xF d 8 [.inr 2, .inl a1, .inl a2, .inl a3] M = rI z M' ∧ gM gAll M' ∧ Fr [(9, 999)] M M' ∧ (-1 ≤ z ∧ z ≤ 9) := by
  obtain ⟨z, M', e, g, f, alt, ha, q, -⟩ := cOK_I (q_X_widen_c hd) (A := [.inr 2, .inl a1, .inl a2, .inl a3]) (show aF2 gW [aRef 2, (0, -2147483648, 2147483647, 0, 0, 0), (0, -2147483648, 2147483647, 0, 0, 0), (0, -2147483648, 2147483647, 0, 0, 0)] [.inr 2, .inl a1, .inl a2, .inl a3] from ⟨gW_o, gW_i h1.1 h1.2, gW_i h2.1 h2.2, gW_i h3.1 h3.2, trivial⟩) hM (show gP0 [] M from fun e he => by cases he) rfl
  refine ⟨z, M', e, g, f, ?_⟩
  have ha : alt ∈ [(some (0, -1, -1, 0, 0, 0), [], []), (some (0, 0, 0, 0, 0, 0), [(4, 0, 0, 0, 0, 0), (0, 0, 5, 0, 0, 0), (0, 0, 5, 0, 0, 0), (0, 0, 9, 0, 0, 0)], [(7, 9, (0, 1, 6, 0, 0, 0))]), (some (0, 0, 9, 0, 0, 0), [(4, 0, 0, 0, 0, 0), (0, 0, 5, 0, 0, 0), (0, 0, 5, 0, 0, 0), (0, 0, 9, 0, 0, 0)], [(7, 9, (0, 1, 6, 0, 0, 0))])] := ha
  simp only [List.mem_cons, List.not_mem_nil, or_false] at ha
  rcases ha with rfl | rfl | rfl
  · obtain ⟨z2, e2, r⟩ := gW_int (show gW _ _ from q) (Nat.le_of_ble_eq_true rfl)
    cases e2
    have := gR0 r
    omega
  · obtain ⟨z2, e2, r⟩ := gW_int (show gW _ _ from q) (Nat.le_of_ble_eq_true rfl)
    cases e2
    have := gR0 r
    omega
  · obtain ⟨z2, e2, r⟩ := gW_int (show gW _ _ from q) (Nat.le_of_ble_eq_true rfl)
    cases e2
    have := gR0 r
    omega
theorem q_X_strength_c {d : Nat} (hd : 1 ≤ d) : cOK gAll (xF d) 9 K_222 := ct_of ct_ok (show K_222 ∈ CT.getD 9 [] from (show CT.getD 9 [] = [K_222] from rfl) ▸ by simp) hd
theorem q_X_strength {d : Nat} (hd : 1 ≤ d) {M : pM} {a1 : Int} (hM : gM gAll M) (h1 : -2147483648 ≤ a1 ∧ a1 ≤ 2147483647) : ∃ z M', xF d 9 [.inr 2, .inl a1] M = rI z M' ∧ gM gAll M' ∧ Fr [(0, 17)] M M' ∧ (-1 ≤ z ∧ z ≤ 999) := by
  obtain ⟨z, M', e, g, f, alt, ha, q, -⟩ := cOK_I (q_X_strength_c hd) (A := [.inr 2, .inl a1]) (show aF2 gW [aRef 2, (0, -2147483648, 2147483647, 0, 0, 0)] [.inr 2, .inl a1] from ⟨gW_o, gW_i h1.1 h1.2, trivial⟩) hM (show gP0 [] M from fun e he => by cases he) rfl
  refine ⟨z, M', e, g, f, ?_⟩
  have ha : alt ∈ [(some (0, -1, -1, 0, 0, 0), [], []), (some (0, 1, 999, 0, 0, 0), [(4, 0, 0, 0, 0, 0), (0, 1, 999, 0, 0, 0)], [])] := ha
  simp only [List.mem_cons, List.not_mem_nil, or_false] at ha
  rcases ha with rfl | rfl
  · obtain ⟨z2, e2, r⟩ := gW_int (show gW _ _ from q) (Nat.le_of_ble_eq_true rfl)
    cases e2
    have := gR0 r
    omega
  · obtain ⟨z2, e2, r⟩ := gW_int (show gW _ _ from q) (Nat.le_of_ble_eq_true rfl)
    cases e2
    have := gR0 r
    omega
theorem q_X_sheet_c {d : Nat} (hd : 2 ≤ d) : cOK gAll (xF d) 10 K_224 := ct_of ct_ok (show K_224 ∈ CT.getD 10 [] from (show CT.getD 10 [] = [K_224] from rfl) ▸ by simp) hd
theorem q_X_sheet {d : Nat} (hd : 2 ≤ d) {M : pM} {a1 : Int} {a2 : Int} {a3 : Int} {a4 : Int} (hM : gM gAll M) (h1 : -2147483648 ≤ a1 ∧ a1 ≤ 2147483647) (h2 : -2147483648 ≤ a2 ∧ a2 ≤ 2147483647) (h3 : -2147483648 ≤ a3 ∧ a3 ≤ 2147483647) (h4 : -2147483648 ≤ a4 ∧ a4 ≤ 2147483647) : ∃ z M', xF d 10 [.inr 2, .inl a1, .inl a2, .inl a3, .inl a4] M = rI z M' ∧ gM gAll M' ∧ Fr [(12, 999)] M M' := by
  obtain ⟨z, M', e, g, f, alt, ha, q, -⟩ := cOK_I (q_X_sheet_c hd) (A := [.inr 2, .inl a1, .inl a2, .inl a3, .inl a4]) (show aF2 gW [aRef 2, (0, -2147483648, 2147483647, 0, 0, 0), (0, -2147483648, 2147483647, 0, 0, 0), (0, -2147483648, 2147483647, 0, 0, 0), (0, -2147483648, 2147483647, 0, 0, 0)] [.inr 2, .inl a1, .inl a2, .inl a3, .inl a4] from ⟨gW_o, gW_i h1.1 h1.2, gW_i h2.1 h2.2, gW_i h3.1 h3.2, gW_i h4.1 h4.2, trivial⟩) hM (show gP0 [] M from fun e he => by cases he) rfl
  exact ⟨z, M', e, g, f⟩
theorem q_X_carry_c {d : Nat} (hd : 6 ≤ d) : cOK gAll (xF d) 11 K_234 := ct_of ct_ok (show K_234 ∈ CT.getD 11 [] from (show CT.getD 11 [] = [K_234] from rfl) ▸ by simp) hd
theorem q_X_carry {d : Nat} (hd : 6 ≤ d) {M : pM} {a1 : Int} {a2 : Int} (hM : gM gAll M) (h1 : -2147483648 ≤ a1 ∧ a1 ≤ 2147483647) (h2 : -2147483648 ≤ a2 ∧ a2 ≤ 2147483647) : ∃ z M', xF d 11 [.inr 2, .inl a1, .inl a2] M = rI z M' ∧ gM gAll M' ∧ Fr [(0, 16), (13, 999), (39, 3), (40, 999), (41, 999), (42, 999)] M M' ∧ (-3 ≤ z ∧ z ≤ 45) := by
  obtain ⟨z, M', e, g, f, alt, ha, q, -⟩ := cOK_I (q_X_carry_c hd) (A := [.inr 2, .inl a1, .inl a2]) (show aF2 gW [aRef 2, (0, -2147483648, 2147483647, 0, 0, 0), (0, -2147483648, 2147483647, 0, 0, 0)] [.inr 2, .inl a1, .inl a2] from ⟨gW_o, gW_i h1.1 h1.2, gW_i h2.1 h2.2, trivial⟩) hM (show gP0 [] M from fun e he => by cases he) rfl
  refine ⟨z, M', e, g, f, ?_⟩
  have ha : alt ∈ [(some (0, -1, -1, 0, 0, 0), [], []), (some (0, -2, -2, 0, 0, 0), [(4, 0, 0, 0, 0, 0), (0, 0, 9, 0, 0, 0), (0, 0, 5, 0, 0, 0)], [(7, 9, (0, 1, 6, 0, 0, 0)), (7, 10, (0, 1, 10, 0, 0, 0))]), (some (0, -3, -3, 0, 0, 0), [(4, 0, 0, 0, 0, 0), (0, 0, 9, 0, 0, 0), (0, 0, 5, 0, 0, 0)], [(7, 9, (0, 1, 6, 0, 0, 0)), (7, 10, (0, 1, 10, 0, 0, 0))]), (some (0, 0, 45, 0, 0, 0), [(4, 0, 0, 0, 0, 0), (0, 0, 9, 0, 0, 0), (0, 0, 5, 0, 0, 0)], [(7, 9, (0, 1, 6, 0, 0, 0)), (7, 10, (0, 1, 10, 0, 0, 0))])] := ha
  simp only [List.mem_cons, List.not_mem_nil, or_false] at ha
  rcases ha with rfl | rfl | rfl | rfl
  · obtain ⟨z2, e2, r⟩ := gW_int (show gW _ _ from q) (Nat.le_of_ble_eq_true rfl)
    cases e2
    have := gR0 r
    omega
  · obtain ⟨z2, e2, r⟩ := gW_int (show gW _ _ from q) (Nat.le_of_ble_eq_true rfl)
    cases e2
    have := gR0 r
    omega
  · obtain ⟨z2, e2, r⟩ := gW_int (show gW _ _ from q) (Nat.le_of_ble_eq_true rfl)
    cases e2
    have := gR0 r
    omega
  · obtain ⟨z2, e2, r⟩ := gW_int (show gW _ _ from q) (Nat.le_of_ble_eq_true rfl)
    cases e2
    have := gR0 r
    omega
theorem q_X_evening_c {d : Nat} (hd : 5 ≤ d) : cOK gAll (xF d) 12 K_244 := ct_of ct_ok (show K_244 ∈ CT.getD 12 [] from (show CT.getD 12 [] = [K_244] from rfl) ▸ by simp) hd
theorem q_X_evening {d : Nat} (hd : 5 ≤ d) {M : pM} (hM : gM gAll M)  : ∃ z M', xF d 12 [.inr 2] M = rI z M' ∧ gM gAll M' ∧ Fr [(0, 15), (0, 16), (5, 1), (6, 999), (39, 3)] M M' ∧ (0 ≤ z ∧ z ≤ 1) := by
  obtain ⟨z, M', e, g, f, alt, ha, q, -⟩ := cOK_I (q_X_evening_c hd) (A := [.inr 2]) (show aF2 gW [aRef 2] [.inr 2] from ⟨gW_o, trivial⟩) hM (show gP0 [] M from fun e he => by cases he) rfl
  refine ⟨z, M', e, g, f, ?_⟩
  have ha : alt ∈ [(some (0, 0, 0, 0, 0, 0), [], [(5, 1, (0, 1, 12, 0, 0, 0))]), (some (0, 1, 1, 0, 0, 0), [], [(0, 16, (0, 0, 0, 0, 0, 0)), (5, 1, (0, 1, 12, 0, 0, 0)), (39, 3, (0, 0, 0, 0, 0, 0))])] := ha
  simp only [List.mem_cons, List.not_mem_nil, or_false] at ha
  rcases ha with rfl | rfl
  · obtain ⟨z2, e2, r⟩ := gW_int (show gW _ _ from q) (Nat.le_of_ble_eq_true rfl)
    cases e2
    have := gR0 r
    omega
  · obtain ⟨z2, e2, r⟩ := gW_int (show gW _ _ from q) (Nat.le_of_ble_eq_true rfl)
    cases e2
    have := gR0 r
    omega
theorem q_X_day_c {d : Nat} (hd : 7 ≤ d) : cOK gAll (xF d) 13 K_260 := ct_of ct_ok (show K_260 ∈ CT.getD 13 [] from (show CT.getD 13 [] = [K_260] from rfl) ▸ by simp) hd
theorem q_X_day {d : Nat} (hd : 7 ≤ d) {M : pM} (hM : gM gAll M)  : ∃ z M', xF d 13 [.inr 2] M = rI z M' ∧ gM gAll M' ∧ Fr [(0, 15), (0, 16), (1, 1), (3, 1), (3, 2), (3, 3), (5, 1), (6, 999), (13, 999), (39, 3), (40, 999), (41, 999), (42, 999)] M M' := by
  obtain ⟨z, M', e, g, f, alt, ha, q, -⟩ := cOK_I (q_X_day_c hd) (A := [.inr 2]) (show aF2 gW [aRef 2] [.inr 2] from ⟨gW_o, trivial⟩) hM (show gP0 [] M from fun e he => by cases he) rfl
  exact ⟨z, M', e, g, f⟩
theorem q_X_undo_c {d : Nat} (hd : 2 ≤ d) : cOK gAll (xF d) 14 K_264 := ct_of ct_ok (show K_264 ∈ CT.getD 14 [] from (show CT.getD 14 [] = [K_264] from rfl) ▸ by simp) hd
theorem q_X_undo {d : Nat} (hd : 2 ≤ d) {M : pM} (hM : gM gAll M)  : ∃ z M', xF d 14 [.inr 2] M = rI z M' ∧ gM gAll M' ∧ Fr [(0, 16), (13, 999), (39, 3)] M M' ∧ (-1 ≤ z ∧ z ≤ 19) := by
  obtain ⟨z, M', e, g, f, alt, ha, q, -⟩ := cOK_I (q_X_undo_c hd) (A := [.inr 2]) (show aF2 gW [aRef 2] [.inr 2] from ⟨gW_o, trivial⟩) hM (show gP0 [] M from fun e he => by cases he) rfl
  refine ⟨z, M', e, g, f, ?_⟩
  have ha : alt ∈ [(some (0, -1, -1, 0, 0, 0), [], [(39, 3, (0, 0, 0, 0, 0, 0))]), (some (0, 0, 19, 0, 0, 0), [], [(39, 3, (0, 0, 19, 0, 0, 0))])] := ha
  simp only [List.mem_cons, List.not_mem_nil, or_false] at ha
  rcases ha with rfl | rfl
  · obtain ⟨z2, e2, r⟩ := gW_int (show gW _ _ from q) (Nat.le_of_ble_eq_true rfl)
    cases e2
    have := gR0 r
    omega
  · obtain ⟨z2, e2, r⟩ := gW_int (show gW _ _ from q) (Nat.le_of_ble_eq_true rfl)
    cases e2
    have := gR0 r
    omega
theorem q_X_judge_c {d : Nat} (hd : 6 ≤ d) : cOK gAll (xF d) 15 K_274 := ct_of ct_ok (show K_274 ∈ CT.getD 15 [] from (show CT.getD 15 [] = [K_274] from rfl) ▸ by simp) hd
theorem q_X_judge {d : Nat} (hd : 6 ≤ d) {M : pM} {a1 : Int} {a2 : Int} (hM : gM gAll M) (h1 : -2147483648 ≤ a1 ∧ a1 ≤ 2147483647) (h2 : -2147483648 ≤ a2 ∧ a2 ≤ 2147483647) : ∃ z M', xF d 15 [.inr 2, .inl a1, .inl a2] M = rI z M' ∧ gM gAll M' ∧ Fr [(5, 1), (6, 999), (59, 999)] M M' ∧ (-2 ≤ z ∧ z ≤ 3) := by
  obtain ⟨z, M', e, g, f, alt, ha, q, -⟩ := cOK_I (q_X_judge_c hd) (A := [.inr 2, .inl a1, .inl a2]) (show aF2 gW [aRef 2, (0, -2147483648, 2147483647, 0, 0, 0), (0, -2147483648, 2147483647, 0, 0, 0)] [.inr 2, .inl a1, .inl a2] from ⟨gW_o, gW_i h1.1 h1.2, gW_i h2.1 h2.2, trivial⟩) hM (show gP0 [] M from fun e he => by cases he) rfl
  refine ⟨z, M', e, g, f, ?_⟩
  have ha : alt ∈ [(some (0, -1, -1, 0, 0, 0), [], []), (some (0, -2, 3, 0, 0, 0), [(4, 0, 0, 0, 0, 0), (0, 0, 4, 0, 0, 0)], [(5, 1, (0, 1, 12, 0, 0, 0))])] := ha
  simp only [List.mem_cons, List.not_mem_nil, or_false] at ha
  rcases ha with rfl | rfl
  · obtain ⟨z2, e2, r⟩ := gW_int (show gW _ _ from q) (Nat.le_of_ble_eq_true rfl)
    cases e2
    have := gR0 r
    omega
  · obtain ⟨z2, e2, r⟩ := gW_int (show gW _ _ from q) (Nat.le_of_ble_eq_true rfl)
    cases e2
    have := gR0 r
    omega
theorem q_X_clumps_c {d : Nat} (hd : 2 ≤ d) : cOK gAll (xF d) 16 K_275 := ct_of ct_ok (show K_275 ∈ CT.getD 16 [] from (show CT.getD 16 [] = [K_275] from rfl) ▸ by simp) hd
theorem q_X_clumps {d : Nat} (hd : 2 ≤ d) {M : pM} (hM : gM gAll M)  : ∃ z M', xF d 16 [.inr 2] M = rI z M' ∧ gM gAll M' ∧ Fr [(5, 1), (6, 999)] M M' ∧ (0 ≤ z ∧ z ≤ 10) := by
  obtain ⟨z, M', e, g, f, alt, ha, q, -⟩ := cOK_I (q_X_clumps_c hd) (A := [.inr 2]) (show aF2 gW [aRef 2] [.inr 2] from ⟨gW_o, trivial⟩) hM (show gP0 [] M from fun e he => by cases he) rfl
  refine ⟨z, M', e, g, f, ?_⟩
  have ha : alt ∈ [(some (0, 0, 10, 0, 0, 0), [], [])] := ha
  simp only [List.mem_cons, List.not_mem_nil, or_false] at ha
  rcases ha with rfl
  · obtain ⟨z2, e2, r⟩ := gW_int (show gW _ _ from q) (Nat.le_of_ble_eq_true rfl)
    cases e2
    have := gR0 r
    omega
theorem q_X_heaviest_c {d : Nat} (hd : 4 ≤ d) : cOK gAll (xF d) 17 K_279 := ct_of ct_ok (show K_279 ∈ CT.getD 17 [] from (show CT.getD 17 [] = [K_279] from rfl) ▸ by simp) hd
theorem q_X_heaviest {d : Nat} (hd : 4 ≤ d) {M : pM} (hM : gM gAll M)  : ∃ z M', xF d 17 [.inr 2] M = rI z M' ∧ gM gAll M' ∧ Fr [(5, 1), (6, 999)] M M' ∧ (-2 ≤ z ∧ z ≤ 9) := by
  obtain ⟨z, M', e, g, f, alt, ha, q, -⟩ := cOK_I (q_X_heaviest_c hd) (A := [.inr 2]) (show aF2 gW [aRef 2] [.inr 2] from ⟨gW_o, trivial⟩) hM (show gP0 [] M from fun e he => by cases he) rfl
  refine ⟨z, M', e, g, f, ?_⟩
  have ha : alt ∈ [(some (0, -2, -2, 0, 0, 0), [], [(7, 10, (0, 0, 0, 0, 0, 0))]), (some (0, 0, 9, 0, 0, 0), [], [(5, 1, (0, 1, 12, 0, 0, 0)), (7, 10, (0, 1, 10, 0, 0, 0))])] := ha
  simp only [List.mem_cons, List.not_mem_nil, or_false] at ha
  rcases ha with rfl | rfl
  · obtain ⟨z2, e2, r⟩ := gW_int (show gW _ _ from q) (Nat.le_of_ble_eq_true rfl)
    cases e2
    have := gR0 r
    omega
  · obtain ⟨z2, e2, r⟩ := gW_int (show gW _ _ from q) (Nat.le_of_ble_eq_true rfl)
    cases e2
    have := gR0 r
    omega
theorem q_X_without_c {d : Nat} (hd : 4 ≤ d) : cOK gAll (xF d) 18 K_283 := ct_of ct_ok (show K_283 ∈ CT.getD 18 [] from (show CT.getD 18 [] = [K_283] from rfl) ▸ by simp) hd
theorem q_X_without {d : Nat} (hd : 4 ≤ d) {M : pM} {a1 : Int} (hM : gM gAll M) (h1 : -2147483648 ≤ a1 ∧ a1 ≤ 2147483647) : ∃ z M', xF d 18 [.inr 2, .inl a1] M = rI z M' ∧ gM gAll M' ∧ Fr [(5, 1), (6, 999)] M M' := by
  obtain ⟨z, M', e, g, f, alt, ha, q, -⟩ := cOK_I (q_X_without_c hd) (A := [.inr 2, .inl a1]) (show aF2 gW [aRef 2, (0, -2147483648, 2147483647, 0, 0, 0)] [.inr 2, .inl a1] from ⟨gW_o, gW_i h1.1 h1.2, trivial⟩) hM (show gP0 [] M from fun e he => by cases he) rfl
  exact ⟨z, M', e, g, f⟩
theorem q_X_breaks_c {d : Nat} (hd : 4 ≤ d) : cOK gAll (xF d) 19 K_285 := ct_of ct_ok (show K_285 ∈ CT.getD 19 [] from (show CT.getD 19 [] = [K_285] from rfl) ▸ by simp) hd
theorem q_X_breaks {d : Nat} (hd : 4 ≤ d) {M : pM} {a1 : Int} (hM : gM gAll M) (h1 : -2147483648 ≤ a1 ∧ a1 ≤ 2147483647) : ∃ z M', xF d 19 [.inr 2, .inl a1] M = rI z M' ∧ gM gAll M' ∧ Fr [(7, 12), (14, 999), (15, 999), (16, 999)] M M' ∧ (-1 ≤ z ∧ z ≤ 10) := by
  obtain ⟨z, M', e, g, f, alt, ha, q, -⟩ := cOK_I (q_X_breaks_c hd) (A := [.inr 2, .inl a1]) (show aF2 gW [aRef 2, (0, -2147483648, 2147483647, 0, 0, 0)] [.inr 2, .inl a1] from ⟨gW_o, gW_i h1.1 h1.2, trivial⟩) hM (show gP0 [] M from fun e he => by cases he) rfl
  refine ⟨z, M', e, g, f, ?_⟩
  have ha : alt ∈ [(some (0, -1, -1, 0, 0, 0), [], []), (some (0, 0, 10, 0, 0, 0), [(4, 0, 0, 0, 0, 0), (0, 0, 9, 0, 0, 0)], [(7, 10, (0, 1, 10, 0, 0, 0))])] := ha
  simp only [List.mem_cons, List.not_mem_nil, or_false] at ha
  rcases ha with rfl | rfl
  · obtain ⟨z2, e2, r⟩ := gW_int (show gW _ _ from q) (Nat.le_of_ble_eq_true rfl)
    cases e2
    have := gR0 r
    omega
  · obtain ⟨z2, e2, r⟩ := gW_int (show gW _ _ from q) (Nat.le_of_ble_eq_true rfl)
    cases e2
    have := gR0 r
    omega
theorem q_X_ties_c {d : Nat} (hd : 4 ≤ d) : cOK gAll (xF d) 20 K_286 := ct_of ct_ok (show K_286 ∈ CT.getD 20 [] from (show CT.getD 20 [] = [K_286] from rfl) ▸ by simp) hd
theorem q_X_ties {d : Nat} (hd : 4 ≤ d) {M : pM} (hM : gM gAll M)  : ∃ z M', xF d 20 [.inr 2] M = rI z M' ∧ gM gAll M' ∧ Fr [] M M' ∧ (0 ≤ z ∧ z ≤ 255) := by
  obtain ⟨z, M', e, g, f, alt, ha, q, -⟩ := cOK_I (q_X_ties_c hd) (A := [.inr 2]) (show aF2 gW [aRef 2] [.inr 2] from ⟨gW_o, trivial⟩) hM (show gP0 [] M from fun e he => by cases he) rfl
  refine ⟨z, M', e, g, f, ?_⟩
  have ha : alt ∈ [(some (0, 0, 255, 0, 0, 0), [], [])] := ha
  simp only [List.mem_cons, List.not_mem_nil, or_false] at ha
  rcases ha with rfl
  · obtain ⟨z2, e2, r⟩ := gW_int (show gW _ _ from q) (Nat.le_of_ble_eq_true rfl)
    cases e2
    have := gR0 r
    omega
theorem q_X_fits_c {d : Nat} (hd : 5 ≤ d) : cOK gAll (xF d) 21 K_300 := ct_of ct_ok (show K_300 ∈ CT.getD 21 [] from (show CT.getD 21 [] = [K_300] from rfl) ▸ by simp) hd
theorem q_X_fits {d : Nat} (hd : 5 ≤ d) {M : pM} (hM : gM gAll M)  : ∃ z M', xF d 21 [.inr 2] M = rI z M' ∧ gM gAll M' ∧ Fr [(5, 1), (6, 999), (32, 6), (32, 7), (32, 8), (32, 9), (32, 10), (32, 11), (33, 999), (34, 999), (35, 999), (36, 999), (37, 999), (38, 999)] M M' := by
  obtain ⟨z, M', e, g, f, alt, ha, q, -⟩ := cOK_I (q_X_fits_c hd) (A := [.inr 2]) (show aF2 gW [aRef 2] [.inr 2] from ⟨gW_o, trivial⟩) hM (show gP0 [] M from fun e he => by cases he) rfl
  exact ⟨z, M', e, g, f⟩
theorem q_X_worth_c {d : Nat} (hd : 32 ≤ d) : cOK gAll (xF d) 22 K_365 := ct_of ct_ok (show K_365 ∈ CT.getD 22 [] from (show CT.getD 22 [] = [K_365] from rfl) ▸ by simp) hd
theorem q_X_worth {d : Nat} (hd : 32 ≤ d) {M : pM} (hM : gM gAll M)  : ∃ z M', xF d 22 [.inr 2] M = rI z M' ∧ gM gAll M' ∧ Fr [(30, 1), (30, 2), (30, 3), (31, 999)] M M' := by
  obtain ⟨z, M', e, g, f, alt, ha, q, -⟩ := cOK_I (q_X_worth_c hd) (A := [.inr 2]) (show aF2 gW [aRef 2] [.inr 2] from ⟨gW_o, trivial⟩) hM (show gP0 [] M from fun e he => by cases he) rfl
  exact ⟨z, M', e, g, f⟩
theorem q_X_best_c {d : Nat} (hd : 32 ≤ d) : cOK gAll (xF d) 23 K_367 := ct_of ct_ok (show K_367 ∈ CT.getD 23 [] from (show CT.getD 23 [] = [K_367] from rfl) ▸ by simp) hd
theorem q_X_best {d : Nat} (hd : 32 ≤ d) {M : pM} (hM : gM gAll M)  : ∃ z M', xF d 23 [.inr 2] M = rI z M' ∧ gM gAll M' ∧ Fr [(5, 1), (6, 999), (30, 1), (30, 2), (30, 3), (31, 999), (32, 6), (32, 7), (32, 8), (32, 9), (32, 10), (32, 11), (33, 999), (34, 999), (35, 999), (36, 999), (37, 999), (38, 999)] M M' ∧ (-3 ≤ z ∧ z ≤ 1) := by
  obtain ⟨z, M', e, g, f, alt, ha, q, -⟩ := cOK_I (q_X_best_c hd) (A := [.inr 2]) (show aF2 gW [aRef 2] [.inr 2] from ⟨gW_o, trivial⟩) hM (show gP0 [] M from fun e he => by cases he) rfl
  refine ⟨z, M', e, g, f, ?_⟩
  have ha : alt ∈ [(some (0, -2, -2, 0, 0, 0), [], []), (some (0, -3, -3, 0, 0, 0), [], []), (some (0, 1, 1, 0, 0, 0), [], [])] := ha
  simp only [List.mem_cons, List.not_mem_nil, or_false] at ha
  rcases ha with rfl | rfl | rfl
  · obtain ⟨z2, e2, r⟩ := gW_int (show gW _ _ from q) (Nat.le_of_ble_eq_true rfl)
    cases e2
    have := gR0 r
    omega
  · obtain ⟨z2, e2, r⟩ := gW_int (show gW _ _ from q) (Nat.le_of_ble_eq_true rfl)
    cases e2
    have := gR0 r
    omega
  · obtain ⟨z2, e2, r⟩ := gW_int (show gW _ _ from q) (Nat.le_of_ble_eq_true rfl)
    cases e2
    have := gR0 r
    omega
theorem q_X_near_c {d : Nat} (hd : 6 ≤ d) : cOK gAll (xF d) 24 K_370 := ct_of ct_ok (show K_370 ∈ CT.getD 24 [] from (show CT.getD 24 [] = [K_370] from rfl) ▸ by simp) hd
theorem q_X_near {d : Nat} (hd : 6 ≤ d) {M : pM} (hM : gM gAll M)  : ∃ z M', xF d 24 [.inr 2] M = rI z M' ∧ gM gAll M' ∧ Fr [(5, 1), (6, 999), (32, 6), (32, 7), (32, 8), (32, 9), (32, 10), (32, 11), (33, 999), (34, 999), (35, 999), (36, 999), (37, 999), (38, 999)] M M' := by
  obtain ⟨z, M', e, g, f, alt, ha, q, -⟩ := cOK_I (q_X_near_c hd) (A := [.inr 2]) (show aF2 gW [aRef 2] [.inr 2] from ⟨gW_o, trivial⟩) hM (show gP0 [] M from fun e he => by cases he) rfl
  exact ⟨z, M', e, g, f⟩
theorem q_X_guest_c {d : Nat} (hd : 6 ≤ d) : cOK gAll (xF d) 25 K_371 := ct_of ct_ok (show K_371 ∈ CT.getD 25 [] from (show CT.getD 25 [] = [K_371] from rfl) ▸ by simp) hd
theorem q_X_guest {d : Nat} (hd : 6 ≤ d) {M : pM} {a1 : Int} {a2 : Int} (hM : gM gAll M) (h1 : -2147483648 ≤ a1 ∧ a1 ≤ 2147483647) (h2 : -2147483648 ≤ a2 ∧ a2 ≤ 2147483647) : ∃ z M', xF d 25 [.inr 2, .inl a1, .inl a2] M = rI z M' ∧ gM gAll M' ∧ Fr [(5, 1), (6, 999), (32, 6), (32, 7), (32, 8), (32, 9), (32, 10), (32, 11), (33, 999), (34, 999), (35, 999), (36, 999), (37, 999), (38, 999)] M M' := by
  obtain ⟨z, M', e, g, f, alt, ha, q, -⟩ := cOK_I (q_X_guest_c hd) (A := [.inr 2, .inl a1, .inl a2]) (show aF2 gW [aRef 2, (0, -2147483648, 2147483647, 0, 0, 0), (0, -2147483648, 2147483647, 0, 0, 0)] [.inr 2, .inl a1, .inl a2] from ⟨gW_o, gW_i h1.1 h1.2, gW_i h2.1 h2.2, trivial⟩) hM (show gP0 [] M from fun e he => by cases he) rfl
  exact ⟨z, M', e, g, f⟩
theorem q_X_space_c {d : Nat} (hd : 6 ≤ d) : cOK gAll (xF d) 26 K_375 := ct_of ct_ok (show K_375 ∈ CT.getD 26 [] from (show CT.getD 26 [] = [K_375] from rfl) ▸ by simp) hd
theorem q_X_space {d : Nat} (hd : 6 ≤ d) {M : pM} (hM : gM gAll M)  : ∃ z M', xF d 26 [.inr 2] M = rI z M' ∧ gM gAll M' ∧ Fr [(5, 1), (6, 999), (32, 6), (32, 7), (32, 8), (32, 9), (32, 10), (32, 11), (33, 999), (34, 999), (35, 999), (36, 999), (37, 999), (38, 999)] M M' := by
  obtain ⟨z, M', e, g, f, alt, ha, q, -⟩ := cOK_I (q_X_space_c hd) (A := [.inr 2]) (show aF2 gW [aRef 2] [.inr 2] from ⟨gW_o, trivial⟩) hM (show gP0 [] M from fun e he => by cases he) rfl
  exact ⟨z, M', e, g, f⟩
theorem q_X_could_c {d : Nat} (hd : 5 ≤ d) : cOK gAll (xF d) 27 K_378 := ct_of ct_ok (show K_378 ∈ CT.getD 27 [] from (show CT.getD 27 [] = [K_378] from rfl) ▸ by simp) hd
theorem q_X_could {d : Nat} (hd : 5 ≤ d) {M : pM} {a1 : Int} {a2 : Int} (hM : gM gAll M) (h1 : -2147483648 ≤ a1 ∧ a1 ≤ 2147483647) (h2 : -2147483648 ≤ a2 ∧ a2 ≤ 2147483647) : ∃ z M', xF d 27 [.inr 2, .inl a1, .inl a2] M = rI z M' ∧ gM gAll M' ∧ Fr [(32, 6), (32, 7), (32, 8), (32, 9), (33, 999), (34, 999), (35, 999), (36, 999), (37, 999)] M M' ∧ (-3 ≤ z ∧ z ≤ 63) := by
  obtain ⟨z, M', e, g, f, alt, ha, q, -⟩ := cOK_I (q_X_could_c hd) (A := [.inr 2, .inl a1, .inl a2]) (show aF2 gW [aRef 2, (0, -2147483648, 2147483647, 0, 0, 0), (0, -2147483648, 2147483647, 0, 0, 0)] [.inr 2, .inl a1, .inl a2] from ⟨gW_o, gW_i h1.1 h1.2, gW_i h2.1 h2.2, trivial⟩) hM (show gP0 [] M from fun e he => by cases he) rfl
  refine ⟨z, M', e, g, f, ?_⟩
  have ha : alt ∈ [(some (0, -1, -1, 0, 0, 0), [], []), (some (0, -3, -3, 0, 0, 0), [(4, 0, 0, 0, 0, 0), (0, 1, 99, 0, 0, 0), (0, 0, 255, 0, 0, 0)], []), (some (0, 0, 63, 0, 0, 0), [(4, 0, 0, 0, 0, 0), (0, 1, 99, 0, 0, 0), (0, 0, 255, 0, 0, 0)], [])] := ha
  simp only [List.mem_cons, List.not_mem_nil, or_false] at ha
  rcases ha with rfl | rfl | rfl
  · obtain ⟨z2, e2, r⟩ := gW_int (show gW _ _ from q) (Nat.le_of_ble_eq_true rfl)
    cases e2
    have := gR0 r
    omega
  · obtain ⟨z2, e2, r⟩ := gW_int (show gW _ _ from q) (Nat.le_of_ble_eq_true rfl)
    cases e2
    have := gR0 r
    omega
  · obtain ⟨z2, e2, r⟩ := gW_int (show gW _ _ from q) (Nat.le_of_ble_eq_true rfl)
    cases e2
    have := gR0 r
    omega
theorem q_X_may_c {d : Nat} (hd : 5 ≤ d) : cOK gAll (xF d) 28 K_381 := ct_of ct_ok (show K_381 ∈ CT.getD 28 [] from (show CT.getD 28 [] = [K_381] from rfl) ▸ by simp) hd
theorem q_X_may {d : Nat} (hd : 5 ≤ d) {M : pM} {a1 : Int} (hM : gM gAll M) (h1 : -2147483648 ≤ a1 ∧ a1 ≤ 2147483647) : ∃ z M', xF d 28 [.inr 2, .inl a1] M = rI z M' ∧ gM gAll M' ∧ Fr [(5, 1), (6, 999), (32, 6), (32, 7), (32, 8), (32, 9), (33, 999), (34, 999), (35, 999), (36, 999), (37, 999)] M M' ∧ (-2147483648 ≤ z ∧ z ≤ 2147483647) := by
  obtain ⟨z, M', e, g, f, alt, ha, q, -⟩ := cOK_I (q_X_may_c hd) (A := [.inr 2, .inl a1]) (show aF2 gW [aRef 2, (0, -2147483648, 2147483647, 0, 0, 0)] [.inr 2, .inl a1] from ⟨gW_o, gW_i h1.1 h1.2, trivial⟩) hM (show gP0 [] M from fun e he => by cases he) rfl
  refine ⟨z, M', e, g, f, ?_⟩
  have ha : alt ∈ [(some (0, -1, -1, 0, 0, 0), [], []), (some (0, -3, -3, 0, 0, 0), [(4, 0, 0, 0, 0, 0), (0, 0, 9, 0, 0, 0)], [(7, 12, (0, 1, 10, 0, 0, 0))]), (some (0, -2147483648, 2147483647, 0, 0, 0), [(4, 0, 0, 0, 0, 0), (0, 0, 9, 0, 0, 0)], [(5, 1, (0, 1, 12, 0, 0, 0)), (7, 12, (0, 1, 10, 0, 0, 0))])] := ha
  simp only [List.mem_cons, List.not_mem_nil, or_false] at ha
  rcases ha with rfl | rfl | rfl
  · obtain ⟨z2, e2, r⟩ := gW_int (show gW _ _ from q) (Nat.le_of_ble_eq_true rfl)
    cases e2
    have := gR0 r
    omega
  · obtain ⟨z2, e2, r⟩ := gW_int (show gW _ _ from q) (Nat.le_of_ble_eq_true rfl)
    cases e2
    have := gR0 r
    omega
  · obtain ⟨z2, e2, r⟩ := gW_int (show gW _ _ from q) (Nat.le_of_ble_eq_true rfl)
    cases e2
    have := gR0 r
    omega
theorem q_X_together_c {d : Nat} (hd : 5 ≤ d) : cOK gAll (xF d) 29 K_383 := ct_of ct_ok (show K_383 ∈ CT.getD 29 [] from (show CT.getD 29 [] = [K_383] from rfl) ▸ by simp) hd
theorem q_X_together {d : Nat} (hd : 5 ≤ d) {M : pM} {a1 : Int} {a2 : Int} (hM : gM gAll M) (h1 : -2147483648 ≤ a1 ∧ a1 ≤ 2147483647) (h2 : -2147483648 ≤ a2 ∧ a2 ≤ 2147483647) : ∃ z M', xF d 29 [.inr 2, .inl a1, .inl a2] M = rI z M' ∧ gM gAll M' ∧ Fr [(5, 1), (6, 999), (32, 6), (32, 7), (32, 8), (32, 9), (33, 999), (34, 999), (35, 999), (36, 999), (37, 999)] M M' := by
  obtain ⟨z, M', e, g, f, alt, ha, q, -⟩ := cOK_I (q_X_together_c hd) (A := [.inr 2, .inl a1, .inl a2]) (show aF2 gW [aRef 2, (0, -2147483648, 2147483647, 0, 0, 0), (0, -2147483648, 2147483647, 0, 0, 0)] [.inr 2, .inl a1, .inl a2] from ⟨gW_o, gW_i h1.1 h1.2, gW_i h2.1 h2.2, trivial⟩) hM (show gP0 [] M from fun e he => by cases he) rfl
  exact ⟨z, M', e, g, f⟩
theorem q_X_fullest_c {d : Nat} (hd : 6 ≤ d) : cOK gAll (xF d) 30 K_384 := ct_of ct_ok (show K_384 ∈ CT.getD 30 [] from (show CT.getD 30 [] = [K_384] from rfl) ▸ by simp) hd
theorem q_X_fullest {d : Nat} (hd : 6 ≤ d) {M : pM} {a1 : Int} (hM : gM gAll M) (h1 : -2147483648 ≤ a1 ∧ a1 ≤ 2147483647) : ∃ z M', xF d 30 [.inr 2, .inl a1] M = rI z M' ∧ gM gAll M' ∧ Fr [(5, 1), (6, 999), (32, 6), (32, 7), (32, 8), (32, 9), (32, 10), (32, 11), (33, 999), (34, 999), (35, 999), (36, 999), (37, 999), (38, 999)] M M' := by
  obtain ⟨z, M', e, g, f, alt, ha, q, -⟩ := cOK_I (q_X_fullest_c hd) (A := [.inr 2, .inl a1]) (show aF2 gW [aRef 2, (0, -2147483648, 2147483647, 0, 0, 0)] [.inr 2, .inl a1] from ⟨gW_o, gW_i h1.1 h1.2, trivial⟩) hM (show gP0 [] M from fun e he => by cases he) rfl
  exact ⟨z, M', e, g, f⟩
theorem q_X_swap_c {d : Nat} (hd : 6 ≤ d) : cOK gAll (xF d) 31 K_386 := ct_of ct_ok (show K_386 ∈ CT.getD 31 [] from (show CT.getD 31 [] = [K_386] from rfl) ▸ by simp) hd
theorem q_X_swap {d : Nat} (hd : 6 ≤ d) {M : pM} {a1 : Int} {a2 : Int} (hM : gM gAll M) (h1 : -2147483648 ≤ a1 ∧ a1 ≤ 2147483647) (h2 : -2147483648 ≤ a2 ∧ a2 ≤ 2147483647) : ∃ z M', xF d 31 [.inr 2, .inl a1, .inl a2] M = rI z M' ∧ gM gAll M' ∧ Fr [(5, 1), (6, 999), (59, 999)] M M' ∧ (-1 ≤ z ∧ z ≤ 1) := by
  obtain ⟨z, M', e, g, f, alt, ha, q, -⟩ := cOK_I (q_X_swap_c hd) (A := [.inr 2, .inl a1, .inl a2]) (show aF2 gW [aRef 2, (0, -2147483648, 2147483647, 0, 0, 0), (0, -2147483648, 2147483647, 0, 0, 0)] [.inr 2, .inl a1, .inl a2] from ⟨gW_o, gW_i h1.1 h1.2, gW_i h2.1 h2.2, trivial⟩) hM (show gP0 [] M from fun e he => by cases he) rfl
  refine ⟨z, M', e, g, f, ?_⟩
  have ha : alt ∈ [(some (0, -1, -1, 0, 0, 0), [], []), (some (0, 0, 0, 0, 0, 0), [(4, 0, 0, 0, 0, 0), (0, 0, 5, 0, 0, 0), (0, 0, 5, 0, 0, 0)], [(5, 1, (0, 1, 12, 0, 0, 0)), (7, 9, (0, 1, 6, 0, 0, 0))]), (some (0, 1, 1, 0, 0, 0), [(4, 0, 0, 0, 0, 0), (0, 0, 5, 0, 0, 0), (0, 0, 5, 0, 0, 0)], [(5, 1, (0, 1, 12, 0, 0, 0)), (7, 9, (0, 1, 6, 0, 0, 0))])] := ha
  simp only [List.mem_cons, List.not_mem_nil, or_false] at ha
  rcases ha with rfl | rfl | rfl
  · obtain ⟨z2, e2, r⟩ := gW_int (show gW _ _ from q) (Nat.le_of_ble_eq_true rfl)
    cases e2
    have := gR0 r
    omega
  · obtain ⟨z2, e2, r⟩ := gW_int (show gW _ _ from q) (Nat.le_of_ble_eq_true rfl)
    cases e2
    have := gR0 r
    omega
  · obtain ⟨z2, e2, r⟩ := gW_int (show gW _ _ from q) (Nat.le_of_ble_eq_true rfl)
    cases e2
    have := gR0 r
    omega
theorem q_X_sell_c {d : Nat} (hd : 5 ≤ d) : cOK gAll (xF d) 32 K_388 := ct_of ct_ok (show K_388 ∈ CT.getD 32 [] from (show CT.getD 32 [] = [K_388] from rfl) ▸ by simp) hd
theorem q_X_sell {d : Nat} (hd : 5 ≤ d) {M : pM} (hM : gM gAll M)  : ∃ z M', xF d 32 [.inr 2] M = rI z M' ∧ gM gAll M' ∧ Fr [(5, 1), (6, 999), (32, 6), (32, 7), (32, 8), (32, 9), (33, 999), (34, 999), (35, 999), (36, 999), (37, 999)] M M' ∧ (-3 ≤ z ∧ z ≤ 63) := by
  obtain ⟨z, M', e, g, f, alt, ha, q, -⟩ := cOK_I (q_X_sell_c hd) (A := [.inr 2]) (show aF2 gW [aRef 2] [.inr 2] from ⟨gW_o, trivial⟩) hM (show gP0 [] M from fun e he => by cases he) rfl
  refine ⟨z, M', e, g, f, ?_⟩
  have ha : alt ∈ [(some (0, -3, -3, 0, 0, 0), [], []), (some (0, 0, 63, 0, 0, 0), [], [(5, 1, (0, 1, 12, 0, 0, 0))])] := ha
  simp only [List.mem_cons, List.not_mem_nil, or_false] at ha
  rcases ha with rfl | rfl
  · obtain ⟨z2, e2, r⟩ := gW_int (show gW _ _ from q) (Nat.le_of_ble_eq_true rfl)
    cases e2
    have := gR0 r
    omega
  · obtain ⟨z2, e2, r⟩ := gW_int (show gW _ _ from q) (Nat.le_of_ble_eq_true rfl)
    cases e2
    have := gR0 r
    omega
theorem q_X_build_c {d : Nat} (hd : 6 ≤ d) : cOK gAll (xF d) 33 K_389 := ct_of ct_ok (show K_389 ∈ CT.getD 33 [] from (show CT.getD 33 [] = [K_389] from rfl) ▸ by simp) hd
theorem q_X_build {d : Nat} (hd : 6 ≤ d) {M : pM} (hM : gM gAll M)  : ∃ z M', xF d 33 [.inr 2] M = rI z M' ∧ gM gAll M' ∧ Fr [(5, 1), (6, 999), (32, 6), (32, 7), (32, 8), (32, 9), (32, 10), (32, 11), (33, 999), (34, 999), (35, 999), (36, 999), (37, 999), (38, 999)] M M' := by
  obtain ⟨z, M', e, g, f, alt, ha, q, -⟩ := cOK_I (q_X_build_c hd) (A := [.inr 2]) (show aF2 gW [aRef 2] [.inr 2] from ⟨gW_o, trivial⟩) hM (show gP0 [] M from fun e he => by cases he) rfl
  exact ⟨z, M', e, g, f⟩
theorem q_X_way_c {d : Nat} (hd : 5 ≤ d) : cOK gAll (xF d) 34 K_391 := ct_of ct_ok (show K_391 ∈ CT.getD 34 [] from (show CT.getD 34 [] = [K_391] from rfl) ▸ by simp) hd
theorem q_X_way {d : Nat} (hd : 5 ≤ d) {M : pM} {a1 : Int} {a2 : Int} (hM : gM gAll M) (h1 : -2147483648 ≤ a1 ∧ a1 ≤ 2147483647) (h2 : -2147483648 ≤ a2 ∧ a2 ≤ 2147483647) : ∃ z M', xF d 34 [.inr 2, .inl a1, .inl a2] M = rI z M' ∧ gM gAll M' ∧ Fr [(5, 1), (6, 999)] M M' ∧ (-2 ≤ z ∧ z ≤ 5) := by
  obtain ⟨z, M', e, g, f, alt, ha, q, -⟩ := cOK_I (q_X_way_c hd) (A := [.inr 2, .inl a1, .inl a2]) (show aF2 gW [aRef 2, (0, -2147483648, 2147483647, 0, 0, 0), (0, -2147483648, 2147483647, 0, 0, 0)] [.inr 2, .inl a1, .inl a2] from ⟨gW_o, gW_i h1.1 h1.2, gW_i h2.1 h2.2, trivial⟩) hM (show gP0 [] M from fun e he => by cases he) rfl
  refine ⟨z, M', e, g, f, ?_⟩
  have ha : alt ∈ [(some (0, -1, -1, 0, 0, 0), [], []), (some (0, -2, -2, 0, 0, 0), [(4, 0, 0, 0, 0, 0), (0, 0, 9, 0, 0, 0), (0, 0, 5, 0, 0, 0)], [(7, 9, (0, 1, 6, 0, 0, 0)), (7, 10, (0, 1, 10, 0, 0, 0))]), (some (0, 0, 5, 0, 0, 0), [(4, 0, 0, 0, 0, 0), (0, 0, 9, 0, 0, 0), (0, 0, 5, 0, 0, 0)], [(7, 9, (0, 1, 6, 0, 0, 0)), (7, 10, (0, 1, 10, 0, 0, 0))])] := ha
  simp only [List.mem_cons, List.not_mem_nil, or_false] at ha
  rcases ha with rfl | rfl | rfl
  · obtain ⟨z2, e2, r⟩ := gW_int (show gW _ _ from q) (Nat.le_of_ble_eq_true rfl)
    cases e2
    have := gR0 r
    omega
  · obtain ⟨z2, e2, r⟩ := gW_int (show gW _ _ from q) (Nat.le_of_ble_eq_true rfl)
    cases e2
    have := gR0 r
    omega
  · obtain ⟨z2, e2, r⟩ := gW_int (show gW _ _ from q) (Nat.le_of_ble_eq_true rfl)
    cases e2
    have := gR0 r
    omega
theorem q_X_widest_c {d : Nat} (hd : 4 ≤ d) : cOK gAll (xF d) 35 K_392 := ct_of ct_ok (show K_392 ∈ CT.getD 35 [] from (show CT.getD 35 [] = [K_392] from rfl) ▸ by simp) hd
theorem q_X_widest {d : Nat} (hd : 4 ≤ d) {M : pM} {a1 : Int} {a2 : Int} (hM : gM gAll M) (h1 : -2147483648 ≤ a1 ∧ a1 ≤ 2147483647) (h2 : -2147483648 ≤ a2 ∧ a2 ≤ 2147483647) : ∃ z M', xF d 35 [.inr 2, .inl a1, .inl a2] M = rI z M' ∧ gM gAll M' ∧ Fr [] M M' ∧ (-1 ≤ z ∧ z ≤ 9) := by
  obtain ⟨z, M', e, g, f, alt, ha, q, -⟩ := cOK_I (q_X_widest_c hd) (A := [.inr 2, .inl a1, .inl a2]) (show aF2 gW [aRef 2, (0, -2147483648, 2147483647, 0, 0, 0), (0, -2147483648, 2147483647, 0, 0, 0)] [.inr 2, .inl a1, .inl a2] from ⟨gW_o, gW_i h1.1 h1.2, gW_i h2.1 h2.2, trivial⟩) hM (show gP0 [] M from fun e he => by cases he) rfl
  refine ⟨z, M', e, g, f, ?_⟩
  have ha : alt ∈ [(some (0, -1, -1, 0, 0, 0), [], []), (some (0, 0, 0, 0, 0, 0), [(4, 0, 0, 0, 0, 0), (0, 0, 5, 0, 0, 0), (0, 0, 5, 0, 0, 0)], [(7, 9, (0, 1, 6, 0, 0, 0))]), (some (0, 1, 9, 0, 0, 0), [(4, 0, 0, 0, 0, 0), (0, 0, 5, 0, 0, 0), (0, 0, 5, 0, 0, 0)], [(7, 9, (0, 1, 6, 0, 0, 0))])] := ha
  simp only [List.mem_cons, List.not_mem_nil, or_false] at ha
  rcases ha with rfl | rfl | rfl
  · obtain ⟨z2, e2, r⟩ := gW_int (show gW _ _ from q) (Nat.le_of_ble_eq_true rfl)
    cases e2
    have := gR0 r
    omega
  · obtain ⟨z2, e2, r⟩ := gW_int (show gW _ _ from q) (Nat.le_of_ble_eq_true rfl)
    cases e2
    have := gR0 r
    omega
  · obtain ⟨z2, e2, r⟩ := gW_int (show gW _ _ from q) (Nat.le_of_ble_eq_true rfl)
    cases e2
    have := gR0 r
    omega
theorem q_X_stuck_c {d : Nat} (hd : 4 ≤ d) : cOK gAll (xF d) 36 K_395 := ct_of ct_ok (show K_395 ∈ CT.getD 36 [] from (show CT.getD 36 [] = [K_395] from rfl) ▸ by simp) hd
theorem q_X_stuck {d : Nat} (hd : 4 ≤ d) {M : pM} (hM : gM gAll M)  : ∃ z M', xF d 36 [.inr 2] M = rI z M' ∧ gM gAll M' ∧ Fr [] M M' ∧ (0 ≤ z ∧ z ≤ 1023) := by
  obtain ⟨z, M', e, g, f, alt, ha, q, -⟩ := cOK_I (q_X_stuck_c hd) (A := [.inr 2]) (show aF2 gW [aRef 2] [.inr 2] from ⟨gW_o, trivial⟩) hM (show gP0 [] M from fun e he => by cases he) rfl
  refine ⟨z, M', e, g, f, ?_⟩
  have ha : alt ∈ [(some (0, 0, 1023, 0, 0, 0), [], [])] := ha
  simp only [List.mem_cons, List.not_mem_nil, or_false] at ha
  rcases ha with rfl
  · obtain ⟨z2, e2, r⟩ := gW_int (show gW _ _ from q) (Nat.le_of_ble_eq_true rfl)
    cases e2
    have := gR0 r
    omega
theorem q_X_hinge_c {d : Nat} (hd : 5 ≤ d) : cOK gAll (xF d) 37 K_400 := ct_of ct_ok (show K_400 ∈ CT.getD 37 [] from (show CT.getD 37 [] = [K_400] from rfl) ▸ by simp) hd
theorem q_X_hinge {d : Nat} (hd : 5 ≤ d) {M : pM} {a1 : Int} (hM : gM gAll M) (h1 : -2147483648 ≤ a1 ∧ a1 ≤ 2147483647) : ∃ z M', xF d 37 [.inr 2, .inl a1] M = rI z M' ∧ gM gAll M' ∧ Fr [(5, 1), (6, 999), (9, 999)] M M' ∧ (-2 ≤ z ∧ z ≤ 5) := by
  obtain ⟨z, M', e, g, f, alt, ha, q, -⟩ := cOK_I (q_X_hinge_c hd) (A := [.inr 2, .inl a1]) (show aF2 gW [aRef 2, (0, -2147483648, 2147483647, 0, 0, 0)] [.inr 2, .inl a1] from ⟨gW_o, gW_i h1.1 h1.2, trivial⟩) hM (show gP0 [] M from fun e he => by cases he) rfl
  refine ⟨z, M', e, g, f, ?_⟩
  have ha : alt ∈ [(some (0, -1, -1, 0, 0, 0), [], []), (some (0, -2, -2, 0, 0, 0), [(4, 0, 0, 0, 0, 0), (0, 0, 5, 0, 0, 0)], [(7, 9, (0, 1, 6, 0, 0, 0))]), (some (0, 0, 5, 0, 0, 0), [(4, 0, 0, 0, 0, 0), (0, 0, 5, 0, 0, 0)], [(5, 1, (0, 1, 12, 0, 0, 0)), (7, 9, (0, 1, 6, 0, 0, 0))])] := ha
  simp only [List.mem_cons, List.not_mem_nil, or_false] at ha
  rcases ha with rfl | rfl | rfl
  · obtain ⟨z2, e2, r⟩ := gW_int (show gW _ _ from q) (Nat.le_of_ble_eq_true rfl)
    cases e2
    have := gR0 r
    omega
  · obtain ⟨z2, e2, r⟩ := gW_int (show gW _ _ from q) (Nat.le_of_ble_eq_true rfl)
    cases e2
    have := gR0 r
    omega
  · obtain ⟨z2, e2, r⟩ := gW_int (show gW _ _ from q) (Nat.le_of_ble_eq_true rfl)
    cases e2
    have := gR0 r
    omega
theorem q_X_aim_c {d : Nat} (hd : 5 ≤ d) : cOK gAll (xF d) 38 K_403 := ct_of ct_ok (show K_403 ∈ CT.getD 38 [] from (show CT.getD 38 [] = [K_403] from rfl) ▸ by simp) hd
theorem q_X_aim {d : Nat} (hd : 5 ≤ d) {M : pM} (hM : gM gAll M)  : ∃ z M', xF d 38 [.inr 2] M = rI z M' ∧ gM gAll M' ∧ Fr [(0, 14), (1, 1), (3, 1), (3, 2), (3, 3), (58, 999)] M M' ∧ (-81 ≤ z ∧ z ≤ 80) := by
  obtain ⟨z, M', e, g, f, alt, ha, q, -⟩ := cOK_I (q_X_aim_c hd) (A := [.inr 2]) (show aF2 gW [aRef 2] [.inr 2] from ⟨gW_o, trivial⟩) hM (show gP0 [] M from fun e he => by cases he) rfl
  refine ⟨z, M', e, g, f, ?_⟩
  have ha : alt ∈ [(some (0, 0, 80, 0, 0, 0), [], []), (some (0, -81, -1, 0, 0, 0), [], [(3, 2, (0, 0, 10, 0, 0, 0))])] := ha
  simp only [List.mem_cons, List.not_mem_nil, or_false] at ha
  rcases ha with rfl | rfl
  · obtain ⟨z2, e2, r⟩ := gW_int (show gW _ _ from q) (Nat.le_of_ble_eq_true rfl)
    cases e2
    have := gR0 r
    omega
  · obtain ⟨z2, e2, r⟩ := gW_int (show gW _ _ from q) (Nat.le_of_ble_eq_true rfl)
    cases e2
    have := gR0 r
    omega
theorem q_X_apart_c {d : Nat} (hd : 6 ≤ d) : cOK gAll (xF d) 39 K_413 := ct_of ct_ok (show K_413 ∈ CT.getD 39 [] from (show CT.getD 39 [] = [K_413] from rfl) ▸ by simp) hd
theorem q_X_apart {d : Nat} (hd : 6 ≤ d) {M : pM} (hM : gM gAll M)  : ∃ z M', xF d 39 [.inr 2] M = rI z M' ∧ gM gAll M' ∧ Fr [(5, 1), (6, 999)] M M' := by
  obtain ⟨z, M', e, g, f, alt, ha, q, -⟩ := cOK_I (q_X_apart_c hd) (A := [.inr 2]) (show aF2 gW [aRef 2] [.inr 2] from ⟨gW_o, trivial⟩) hM (show gP0 [] M from fun e he => by cases he) rfl
  exact ⟨z, M', e, g, f⟩
theorem q_X_queue_c {d : Nat} (hd : 7 ≤ d) : cOK gAll (xF d) 40 K_423 := ct_of ct_ok (show K_423 ∈ CT.getD 40 [] from (show CT.getD 40 [] = [K_423] from rfl) ▸ by simp) hd
theorem q_X_queue {d : Nat} (hd : 7 ≤ d) {M : pM} (hM : gM gAll M)  : ∃ z M', xF d 40 [.inr 2] M = rI z M' ∧ gM gAll M' ∧ Fr [(5, 1), (6, 999), (48, 3), (49, 999), (50, 999), (51, 999)] M M' ∧ (-5 ≤ z ∧ z ≤ 10) := by
  obtain ⟨z, M', e, g, f, alt, ha, q, -⟩ := cOK_I (q_X_queue_c hd) (A := [.inr 2]) (show aF2 gW [aRef 2] [.inr 2] from ⟨gW_o, trivial⟩) hM (show gP0 [] M from fun e he => by cases he) rfl
  refine ⟨z, M', e, g, f, ?_⟩
  have ha : alt ∈ [(some (0, -2, -2, 0, 0, 0), [], [(0, 14, (0, 1, 10, 0, 0, 0)), (7, 10, (0, 1, 10, 0, 0, 0))]), (some (0, -4, -4, 0, 0, 0), [], []), (some (0, -5, -5, 0, 0, 0), [], [(0, 14, (0, 1, 10, 0, 0, 0)), (7, 10, (0, 1, 10, 0, 0, 0))]), (some (0, 0, 10, 0, 0, 0), [], [(0, 14, (0, 1, 10, 0, 0, 0)), (7, 10, (0, 1, 10, 0, 0, 0))])] := ha
  simp only [List.mem_cons, List.not_mem_nil, or_false] at ha
  rcases ha with rfl | rfl | rfl | rfl
  · obtain ⟨z2, e2, r⟩ := gW_int (show gW _ _ from q) (Nat.le_of_ble_eq_true rfl)
    cases e2
    have := gR0 r
    omega
  · obtain ⟨z2, e2, r⟩ := gW_int (show gW _ _ from q) (Nat.le_of_ble_eq_true rfl)
    cases e2
    have := gR0 r
    omega
  · obtain ⟨z2, e2, r⟩ := gW_int (show gW _ _ from q) (Nat.le_of_ble_eq_true rfl)
    cases e2
    have := gR0 r
    omega
  · obtain ⟨z2, e2, r⟩ := gW_int (show gW _ _ from q) (Nat.le_of_ble_eq_true rfl)
    cases e2
    have := gR0 r
    omega
theorem q_X_evenings_c {d : Nat} (hd : 8 ≤ d) : cOK gAll (xF d) 41 K_438 := ct_of ct_ok (show K_438 ∈ CT.getD 41 [] from (show CT.getD 41 [] = [K_438] from rfl) ▸ by simp) hd
theorem q_X_evenings {d : Nat} (hd : 8 ≤ d) {M : pM} (hM : gM gAll M)  : ∃ z M', xF d 41 [.inr 2] M = rI z M' ∧ gM gAll M' ∧ Fr [(5, 1), (6, 999), (32, 6), (32, 7), (32, 8), (32, 9), (33, 999), (34, 999), (35, 999), (36, 999), (37, 999), (52, 5), (52, 6), (52, 7), (52, 8), (52, 9), (53, 999), (54, 999), (55, 999), (56, 999), (57, 999)] M M' ∧ (-4 ≤ z ∧ z ≤ 300) := by
  obtain ⟨z, M', e, g, f, alt, ha, q, -⟩ := cOK_I (q_X_evenings_c hd) (A := [.inr 2]) (show aF2 gW [aRef 2] [.inr 2] from ⟨gW_o, trivial⟩) hM (show gP0 [] M from fun e he => by cases he) rfl
  refine ⟨z, M', e, g, f, ?_⟩
  have ha : alt ∈ [(some (0, -2, -2, 0, 0, 0), [], [(0, 14, (0, 1, 10, 0, 0, 0)), (7, 10, (0, 1, 10, 0, 0, 0))]), (some (0, -3, -3, 0, 0, 0), [], [(0, 14, (0, 1, 10, 0, 0, 0)), (7, 10, (0, 1, 10, 0, 0, 0))]), (some (0, -4, -4, 0, 0, 0), [], []), (some (0, 0, 0, 0, 0, 0), [], [(0, 14, (0, 1, 10, 0, 0, 0)), (5, 1, (0, 1, 12, 0, 0, 0)), (7, 10, (0, 1, 10, 0, 0, 0))]), (some (0, 1, 300, 0, 0, 0), [], [(0, 14, (0, 1, 10, 0, 0, 0)), (5, 1, (0, 1, 12, 0, 0, 0)), (7, 10, (0, 1, 10, 0, 0, 0)), (52, 5, (0, 1, 300, 0, 0, 0)), (52, 7, (0, 0, 299, 0, 0, 0)), (52, 9, (0, 0, 299, 0, 0, 0))])] := ha
  simp only [List.mem_cons, List.not_mem_nil, or_false] at ha
  rcases ha with rfl | rfl | rfl | rfl | rfl
  · obtain ⟨z2, e2, r⟩ := gW_int (show gW _ _ from q) (Nat.le_of_ble_eq_true rfl)
    cases e2
    have := gR0 r
    omega
  · obtain ⟨z2, e2, r⟩ := gW_int (show gW _ _ from q) (Nat.le_of_ble_eq_true rfl)
    cases e2
    have := gR0 r
    omega
  · obtain ⟨z2, e2, r⟩ := gW_int (show gW _ _ from q) (Nat.le_of_ble_eq_true rfl)
    cases e2
    have := gR0 r
    omega
  · obtain ⟨z2, e2, r⟩ := gW_int (show gW _ _ from q) (Nat.le_of_ble_eq_true rfl)
    cases e2
    have := gR0 r
    omega
  · obtain ⟨z2, e2, r⟩ := gW_int (show gW _ _ from q) (Nat.le_of_ble_eq_true rfl)
    cases e2
    have := gR0 r
    omega
theorem q_X_weakest_c {d : Nat} (hd : 8 ≤ d) : cOK gAll (xF d) 42 K_445 := ct_of ct_ok (show K_445 ∈ CT.getD 42 [] from (show CT.getD 42 [] = [K_445] from rfl) ▸ by simp) hd
theorem q_X_weakest {d : Nat} (hd : 8 ≤ d) {M : pM} (hM : gM gAll M)  : ∃ z M', xF d 42 [.inr 2] M = rI z M' ∧ gM gAll M' ∧ Fr [(5, 1), (6, 999), (32, 6), (32, 7), (32, 8), (32, 9), (33, 999), (34, 999), (35, 999), (36, 999), (37, 999), (52, 5), (52, 6), (52, 7), (52, 8), (52, 9), (53, 999), (54, 999), (55, 999), (56, 999), (57, 999)] M M' := by
  obtain ⟨z, M', e, g, f, alt, ha, q, -⟩ := cOK_I (q_X_weakest_c hd) (A := [.inr 2]) (show aF2 gW [aRef 2] [.inr 2] from ⟨gW_o, trivial⟩) hM (show gP0 [] M from fun e he => by cases he) rfl
  exact ⟨z, M', e, g, f⟩
theorem q_X_keep_c {d : Nat} (hd : 3 ≤ d) : cOK gAll (xF d) 43 K_451 := ct_of ct_ok (show K_451 ∈ CT.getD 43 [] from (show CT.getD 43 [] = [K_451] from rfl) ▸ by simp) hd
theorem q_X_keep {d : Nat} (hd : 3 ≤ d) {M : pM} {a1 : Int} (hM : gM gAll M) (h1 : -2147483648 ≤ a1 ∧ a1 ≤ 2147483647) : ∃ z M', xF d 43 [.inr 2, .inl a1] M = rI z M' ∧ gM gAll M' ∧ Fr [(44, 1), (44, 2), (44, 3), (44, 4), (44, 5), (45, 999), (46, 1), (46, 2), (46, 3), (46, 4), (46, 5), (47, 999)] M M' ∧ (0 ≤ z ∧ z ≤ 1) := by
  obtain ⟨z, M', e, g, f, alt, ha, q, -⟩ := cOK_I (q_X_keep_c hd) (A := [.inr 2, .inl a1]) (show aF2 gW [aRef 2, (0, -2147483648, 2147483647, 0, 0, 0)] [.inr 2, .inl a1] from ⟨gW_o, gW_i h1.1 h1.2, trivial⟩) hM (show gP0 [] M from fun e he => by cases he) rfl
  refine ⟨z, M', e, g, f, ?_⟩
  have ha : alt ∈ [(some (0, 0, 0, 0, 0, 0), [], []), (some (0, 1, 1, 0, 0, 0), [(4, 0, 0, 0, 0, 0), (0, 0, 1, 0, 0, 0)], [])] := ha
  simp only [List.mem_cons, List.not_mem_nil, or_false] at ha
  rcases ha with rfl | rfl
  · obtain ⟨z2, e2, r⟩ := gW_int (show gW _ _ from q) (Nat.le_of_ble_eq_true rfl)
    cases e2
    have := gR0 r
    omega
  · obtain ⟨z2, e2, r⟩ := gW_int (show gW _ _ from q) (Nat.le_of_ble_eq_true rfl)
    cases e2
    have := gR0 r
    omega
theorem q_X_again_c {d : Nat} (hd : 2 ≤ d) : cOK gAll (xF d) 44 K_456 := ct_of ct_ok (show K_456 ∈ CT.getD 44 [] from (show CT.getD 44 [] = [K_456] from rfl) ▸ by simp) hd
theorem q_X_again {d : Nat} (hd : 2 ≤ d) {M : pM} {a1 : Int} (hM : gM gAll M) (h1 : -2147483648 ≤ a1 ∧ a1 ≤ 2147483647) : ∃ z M', xF d 44 [.inr 2, .inl a1] M = rI z M' ∧ gM gAll M' ∧ Fr [(0, 15), (0, 16), (13, 999), (39, 3)] M M' ∧ (0 ≤ z ∧ z ≤ 1) := by
  obtain ⟨z, M', e, g, f, alt, ha, q, -⟩ := cOK_I (q_X_again_c hd) (A := [.inr 2, .inl a1]) (show aF2 gW [aRef 2, (0, -2147483648, 2147483647, 0, 0, 0)] [.inr 2, .inl a1] from ⟨gW_o, gW_i h1.1 h1.2, trivial⟩) hM (show gP0 [] M from fun e he => by cases he) rfl
  refine ⟨z, M', e, g, f, ?_⟩
  have ha : alt ∈ [(some (0, 0, 0, 0, 0, 0), [], []), (some (0, 1, 1, 0, 0, 0), [(4, 0, 0, 0, 0, 0), (0, 0, 1, 0, 0, 0)], [(39, 3, (0, 0, 0, 0, 0, 0))])] := ha
  simp only [List.mem_cons, List.not_mem_nil, or_false] at ha
  rcases ha with rfl | rfl
  · obtain ⟨z2, e2, r⟩ := gW_int (show gW _ _ from q) (Nat.le_of_ble_eq_true rfl)
    cases e2
    have := gR0 r
    omega
  · obtain ⟨z2, e2, r⟩ := gW_int (show gW _ _ from q) (Nat.le_of_ble_eq_true rfl)
    cases e2
    have := gR0 r
    omega
theorem q_X_count_c {d : Nat} (hd : 6 ≤ d) : cOK gAll (xF d) 45 K_458 := ct_of ct_ok (show K_458 ∈ CT.getD 45 [] from (show CT.getD 45 [] = [K_458] from rfl) ▸ by simp) hd
theorem q_X_count {d : Nat} (hd : 6 ≤ d) {M : pM} {a1 : Int} (hM : gM gAll M) (h1 : -2147483648 ≤ a1 ∧ a1 ≤ 2147483647) : ∃ z M', xF d 45 [.inr 2, .inl a1] M = rI z M' ∧ gM gAll M' ∧ Fr [] M M' := by
  obtain ⟨z, M', e, g, f, alt, ha, q, -⟩ := cOK_I (q_X_count_c hd) (A := [.inr 2, .inl a1]) (show aF2 gW [aRef 2, (0, -2147483648, 2147483647, 0, 0, 0)] [.inr 2, .inl a1] from ⟨gW_o, gW_i h1.1 h1.2, trivial⟩) hM (show gP0 [] M from fun e he => by cases he) rfl
  exact ⟨z, M', e, g, f⟩
theorem q_M_sign_c {d : Nat} (hd : 1 ≤ d) : cOK gAll (xF d) 175 K_459 := ct_of ct_ok (show K_459 ∈ CT.getD 175 [] from (show CT.getD 175 [] = [K_459] from rfl) ▸ by simp) hd
theorem q_M_sign {d : Nat} (hd : 1 ≤ d) {M : pM} {a1 : Int} (hM : gM gAll M) (h1 : -2147483648 ≤ a1 ∧ a1 ≤ 2147483647) : ∃ z M', xF d 175 [.inr 62, .inl a1] M = rI z M' ∧ gM gAll M' ∧ Fr [(60, 14), (60, 17), (68, 999)] M M' ∧ (-1 ≤ z ∧ z ≤ 80) := by
  obtain ⟨z, M', e, g, f, alt, ha, q, -⟩ := cOK_I (q_M_sign_c hd) (A := [.inr 62, .inl a1]) (show aF2 gW [aRef 62, (0, -2147483648, 2147483647, 0, 0, 0)] [.inr 62, .inl a1] from ⟨gW_o, gW_i h1.1 h1.2, trivial⟩) hM (show gP0 [] M from fun e he => by cases he) rfl
  refine ⟨z, M', e, g, f, ?_⟩
  have ha : alt ∈ [(some (0, -1, -1, 0, 0, 0), [], [(60, 14, (0, 77, 80, 0, 0, 0)), (60, 17, (0, 0, 0, 0, 0, 0))]), (some (0, 4, 80, 0, 0, 0), [], [(60, 14, (0, 4, 80, 0, 0, 0)), (60, 17, (0, 0, 0, 0, 0, 0))])] := ha
  simp only [List.mem_cons, List.not_mem_nil, or_false] at ha
  rcases ha with rfl | rfl
  · obtain ⟨z2, e2, r⟩ := gW_int (show gW _ _ from q) (Nat.le_of_ble_eq_true rfl)
    cases e2
    have := gR0 r
    omega
  · obtain ⟨z2, e2, r⟩ := gW_int (show gW _ _ from q) (Nat.le_of_ble_eq_true rfl)
    cases e2
    have := gR0 r
    omega
theorem q_M_end_c {d : Nat} (hd : 2 ≤ d) : cOK gAll (xF d) 176 K_461 := ct_of ct_ok (show K_461 ∈ CT.getD 176 [] from (show CT.getD 176 [] = [K_461] from rfl) ▸ by simp) hd
theorem q_M_end {d : Nat} (hd : 2 ≤ d) {M : pM} {a1 : Int} (hM : gM gAll M) (h1 : -2147483648 ≤ a1 ∧ a1 ≤ 2147483647) : ∃ z M', xF d 176 [.inr 62, .inl a1] M = rI z M' ∧ gM gAll M' ∧ Fr [(60, 14), (60, 17)] M M' ∧ (0 ≤ z ∧ z ≤ 1) := by
  obtain ⟨z, M', e, g, f, alt, ha, q, -⟩ := cOK_I (q_M_end_c hd) (A := [.inr 62, .inl a1]) (show aF2 gW [aRef 62, (0, -2147483648, 2147483647, 0, 0, 0)] [.inr 62, .inl a1] from ⟨gW_o, gW_i h1.1 h1.2, trivial⟩) hM (show gP0 [] M from fun e he => by cases he) rfl
  refine ⟨z, M', e, g, f, ?_⟩
  have ha : alt ∈ [(some (0, 0, 0, 0, 0, 0), [], [(60, 17, (0, 0, 0, 0, 0, 0))]), (some (0, 1, 1, 0, 0, 0), [(4, 0, 0, 0, 0, 0), (0, 0, 80, 0, 0, 0)], [(60, 17, (0, 0, 0, 0, 0, 0))])] := ha
  simp only [List.mem_cons, List.not_mem_nil, or_false] at ha
  rcases ha with rfl | rfl
  · obtain ⟨z2, e2, r⟩ := gW_int (show gW _ _ from q) (Nat.le_of_ble_eq_true rfl)
    cases e2
    have := gR0 r
    omega
  · obtain ⟨z2, e2, r⟩ := gW_int (show gW _ _ from q) (Nat.le_of_ble_eq_true rfl)
    cases e2
    have := gR0 r
    omega
theorem q_M_rule_c {d : Nat} (hd : 341 ≤ d) : cOK gAll (xF d) 193 K_467 := ct_of ct_ok (show K_467 ∈ CT.getD 193 [] from (show CT.getD 193 [] = [K_467] from rfl) ▸ by simp) hd
theorem q_M_rule {d : Nat} (hd : 341 ≤ d) {M : pM} (hM : gM gAll M)  : ∃ z M', xF d 193 [.inr 62] M = rI z M' ∧ gM gAll M' ∧ Fr [(60, 14), (60, 17), (60, 18), (60, 19), (60, 20), (60, 21), (60, 22), (60, 25), (60, 26), (71, 999)] M M' ∧ (-81 ≤ z ∧ z ≤ 0) := by
  obtain ⟨z, M', e, g, f, alt, ha, q, -⟩ := cOK_I (q_M_rule_c hd) (A := [.inr 62]) (show aF2 gW [aRef 62] [.inr 62] from ⟨gW_o, trivial⟩) hM (show gP0 [] M from fun e he => by cases he) rfl
  refine ⟨z, M', e, g, f, ?_⟩
  have ha : alt ∈ [(some (0, 0, 0, 0, 0, 0), [], [(60, 14, (0, 0, 0, 0, 0, 0)), (60, 17, (0, 0, 0, 0, 0, 0)), (60, 18, (0, 70, 70, 0, 0, 0)), (60, 20, (0, 40, 40, 0, 0, 0)), (60, 21, (0, 0, 40, 0, 0, 0)), (60, 22, (0, -1, -1, 0, 0, 0)), (60, 26, (0, -1, -1, 0, 0, 0))]), (some (0, -81, -1, 0, 0, 0), [], [(60, 14, (0, 0, 0, 0, 0, 0)), (60, 17, (0, 0, 0, 0, 0, 0)), (60, 18, (0, 70, 70, 0, 0, 0)), (60, 20, (0, 40, 40, 0, 0, 0)), (60, 21, (0, 0, 40, 0, 0, 0)), (60, 22, (0, 0, 80, 0, 0, 0)), (60, 26, (0, -1, -1, 0, 0, 0))])] := ha
  simp only [List.mem_cons, List.not_mem_nil, or_false] at ha
  rcases ha with rfl | rfl
  · obtain ⟨z2, e2, r⟩ := gW_int (show gW _ _ from q) (Nat.le_of_ble_eq_true rfl)
    cases e2
    have := gR0 r
    omega
  · obtain ⟨z2, e2, r⟩ := gW_int (show gW _ _ from q) (Nat.le_of_ble_eq_true rfl)
    cases e2
    have := gR0 r
    omega
theorem q_M_room_c {d : Nat} (hd : 3 ≤ d) : cOK gAll (xF d) 199 K_474 := ct_of ct_ok (show K_474 ∈ CT.getD 199 [] from (show CT.getD 199 [] = [K_474] from rfl) ▸ by simp) hd
theorem q_M_room {d : Nat} (hd : 3 ≤ d) {M : pM} {a1 : Int} {a2 : Int} (hM : gM gAll M) (h1 : -2147483648 ≤ a1 ∧ a1 ≤ 2147483647) (h2 : -2147483648 ≤ a2 ∧ a2 ≤ 2147483647) : ∃ z M', xF d 199 [.inr 62, .inl a1, .inl a2] M = rI z M' ∧ gM gAll M' ∧ Fr [(60, 17)] M M' := by
  obtain ⟨z, M', e, g, f, alt, ha, q, -⟩ := cOK_I (q_M_room_c hd) (A := [.inr 62, .inl a1, .inl a2]) (show aF2 gW [aRef 62, (0, -2147483648, 2147483647, 0, 0, 0), (0, -2147483648, 2147483647, 0, 0, 0)] [.inr 62, .inl a1, .inl a2] from ⟨gW_o, gW_i h1.1 h1.2, gW_i h2.1 h2.2, trivial⟩) hM (show gP0 [] M from fun e he => by cases he) rfl
  exact ⟨z, M', e, g, f⟩
theorem q_M_thing_c {d : Nat} (hd : 342 ≤ d) : cOK gAll (xF d) 201 K_484 := ct_of ct_ok (show K_484 ∈ CT.getD 201 [] from (show CT.getD 201 [] = [K_484] from rfl) ▸ by simp) hd
theorem q_M_thing {d : Nat} (hd : 342 ≤ d) {M : pM} {a1 : Int} {a2 : Int} (hM : gM gAll M) (h1 : -2147483648 ≤ a1 ∧ a1 ≤ 2147483647) (h2 : -2147483648 ≤ a2 ∧ a2 ≤ 2147483647) : ∃ z M', xF d 201 [.inr 62, .inl a1, .inl a2] M = rI z M' ∧ gM gAll M' ∧ Fr [(60, 17), (60, 18), (60, 19), (60, 20), (60, 21), (60, 22), (60, 26), (60, 27), (60, 30), (72, 999), (73, 999)] M M' ∧ (-999 ≤ z ∧ z ≤ 999) := by
  obtain ⟨z, M', e, g, f, alt, ha, q, -⟩ := cOK_I (q_M_thing_c hd) (A := [.inr 62, .inl a1, .inl a2]) (show aF2 gW [aRef 62, (0, -2147483648, 2147483647, 0, 0, 0), (0, -2147483648, 2147483647, 0, 0, 0)] [.inr 62, .inl a1, .inl a2] from ⟨gW_o, gW_i h1.1 h1.2, gW_i h2.1 h2.2, trivial⟩) hM (show gP0 [] M from fun e he => by cases he) rfl
  refine ⟨z, M', e, g, f, ?_⟩
  have ha : alt ∈ [(some (0, 0, 0, 0, 0, 0), [], []), (some (0, 0, 255, 0, 0, 0), [(4, 0, 0, 0, 0, 0), (0, 0, 9, 0, 0, 0), (0, 0, 5, 0, 0, 0)], [(60, 17, (0, 0, 0, 0, 0, 0))]), (some (0, -999, 999, 0, 0, 0), [(4, 0, 0, 0, 0, 0), (0, 0, 9, 0, 0, 0), (0, 0, 6, 0, 0, 0)], [(60, 17, (0, 0, 0, 0, 0, 0)), (60, 18, (0, 73, 73, 0, 0, 0)), (60, 19, (0, 1, 40, 0, 0, 0)), (60, 20, (0, 40, 40, 0, 0, 0)), (60, 21, (0, 0, 40, 0, 0, 0)), (60, 25, (0, 1, 40, 0, 0, 0)), (60, 26, (0, 0, 9, 0, 0, 0))])] := ha
  simp only [List.mem_cons, List.not_mem_nil, or_false] at ha
  rcases ha with rfl | rfl | rfl
  · obtain ⟨z2, e2, r⟩ := gW_int (show gW _ _ from q) (Nat.le_of_ble_eq_true rfl)
    cases e2
    have := gR0 r
    omega
  · obtain ⟨z2, e2, r⟩ := gW_int (show gW _ _ from q) (Nat.le_of_ble_eq_true rfl)
    cases e2
    have := gR0 r
    omega
  · obtain ⟨z2, e2, r⟩ := gW_int (show gW _ _ from q) (Nat.le_of_ble_eq_true rfl)
    cases e2
    have := gR0 r
    omega
theorem q_M_set_c {d : Nat} (hd : 2 ≤ d) : cOK gAll (xF d) 202 K_486 := ct_of ct_ok (show K_486 ∈ CT.getD 202 [] from (show CT.getD 202 [] = [K_486] from rfl) ▸ by simp) hd
theorem q_M_set {d : Nat} (hd : 2 ≤ d) {M : pM} {a1 : Int} (hM : gM gAll M) (h1 : -2147483648 ≤ a1 ∧ a1 ≤ 2147483647) : ∃ z M', xF d 202 [.inr 62, .inl a1] M = rI z M' ∧ gM gAll M' ∧ Fr [(60, 17)] M M' ∧ (-1 ≤ z ∧ z ≤ 1023) := by
  obtain ⟨z, M', e, g, f, alt, ha, q, -⟩ := cOK_I (q_M_set_c hd) (A := [.inr 62, .inl a1]) (show aF2 gW [aRef 62, (0, -2147483648, 2147483647, 0, 0, 0)] [.inr 62, .inl a1] from ⟨gW_o, gW_i h1.1 h1.2, trivial⟩) hM (show gP0 [] M from fun e he => by cases he) rfl
  refine ⟨z, M', e, g, f, ?_⟩
  have ha : alt ∈ [(some (0, -1, -1, 0, 0, 0), [], [(60, 17, (0, 0, 0, 0, 0, 0))]), (some (0, 0, 1023, 0, 0, 0), [(4, 0, 0, 0, 0, 0), (0, 0, 7, 0, 0, 0)], [(60, 17, (0, 0, 0, 0, 0, 0))])] := ha
  simp only [List.mem_cons, List.not_mem_nil, or_false] at ha
  rcases ha with rfl | rfl
  · obtain ⟨z2, e2, r⟩ := gW_int (show gW _ _ from q) (Nat.le_of_ble_eq_true rfl)
    cases e2
    have := gR0 r
    omega
  · obtain ⟨z2, e2, r⟩ := gW_int (show gW _ _ from q) (Nat.le_of_ble_eq_true rfl)
    cases e2
    have := gR0 r
    omega
theorem q_M_door_c {d : Nat} (hd : 3 ≤ d) : cOK gAll (xF d) 203 K_487 := ct_of ct_ok (show K_487 ∈ CT.getD 203 [] from (show CT.getD 203 [] = [K_487] from rfl) ▸ by simp) hd
theorem q_M_door {d : Nat} (hd : 3 ≤ d) {M : pM} {a1 : Int} {a2 : Int} (hM : gM gAll M) (h1 : -2147483648 ≤ a1 ∧ a1 ≤ 2147483647) (h2 : -2147483648 ≤ a2 ∧ a2 ≤ 2147483647) : ∃ z M', xF d 203 [.inr 62, .inl a1, .inl a2] M = rI z M' ∧ gM gAll M' ∧ Fr [(60, 17)] M M' ∧ (-2 ≤ z ∧ z ≤ 9) := by
  obtain ⟨z, M', e, g, f, alt, ha, q, -⟩ := cOK_I (q_M_door_c hd) (A := [.inr 62, .inl a1, .inl a2]) (show aF2 gW [aRef 62, (0, -2147483648, 2147483647, 0, 0, 0), (0, -2147483648, 2147483647, 0, 0, 0)] [.inr 62, .inl a1, .inl a2] from ⟨gW_o, gW_i h1.1 h1.2, gW_i h2.1 h2.2, trivial⟩) hM (show gP0 [] M from fun e he => by cases he) rfl
  refine ⟨z, M', e, g, f, ?_⟩
  have ha : alt ∈ [(some (0, -1, -1, 0, 0, 0), [], [(60, 17, (0, 0, 0, 0, 0, 0))]), (some (0, -2, -2, 0, 0, 0), [(4, 0, 0, 0, 0, 0), (0, 0, 5, 0, 0, 0), (0, 0, 5, 0, 0, 0)], [(60, 17, (0, 0, 0, 0, 0, 0))]), (some (0, 0, 9, 0, 0, 0), [(4, 0, 0, 0, 0, 0), (0, 0, 5, 0, 0, 0), (0, 0, 5, 0, 0, 0)], [(60, 17, (0, 0, 0, 0, 0, 0))])] := ha
  simp only [List.mem_cons, List.not_mem_nil, or_false] at ha
  rcases ha with rfl | rfl | rfl
  · obtain ⟨z2, e2, r⟩ := gW_int (show gW _ _ from q) (Nat.le_of_ble_eq_true rfl)
    cases e2
    have := gR0 r
    omega
  · obtain ⟨z2, e2, r⟩ := gW_int (show gW _ _ from q) (Nat.le_of_ble_eq_true rfl)
    cases e2
    have := gR0 r
    omega
  · obtain ⟨z2, e2, r⟩ := gW_int (show gW _ _ from q) (Nat.le_of_ble_eq_true rfl)
    cases e2
    have := gR0 r
    omega
theorem q_M_strength_c {d : Nat} (hd : 2 ≤ d) : cOK gAll (xF d) 205 K_489 := ct_of ct_ok (show K_489 ∈ CT.getD 205 [] from (show CT.getD 205 [] = [K_489] from rfl) ▸ by simp) hd
theorem q_M_strength {d : Nat} (hd : 2 ≤ d) {M : pM} {a1 : Int} (hM : gM gAll M) (h1 : -2147483648 ≤ a1 ∧ a1 ≤ 2147483647) : ∃ z M', xF d 205 [.inr 62, .inl a1] M = rI z M' ∧ gM gAll M' ∧ Fr [(60, 12), (60, 17)] M M' ∧ (-1 ≤ z ∧ z ≤ 999) := by
  obtain ⟨z, M', e, g, f, alt, ha, q, -⟩ := cOK_I (q_M_strength_c hd) (A := [.inr 62, .inl a1]) (show aF2 gW [aRef 62, (0, -2147483648, 2147483647, 0, 0, 0)] [.inr 62, .inl a1] from ⟨gW_o, gW_i h1.1 h1.2, trivial⟩) hM (show gP0 [] M from fun e he => by cases he) rfl
  refine ⟨z, M', e, g, f, ?_⟩
  have ha : alt ∈ [(some (0, -1, -1, 0, 0, 0), [], [(60, 17, (0, 0, 0, 0, 0, 0))]), (some (0, 1, 999, 0, 0, 0), [(4, 0, 0, 0, 0, 0), (0, 1, 999, 0, 0, 0)], [(60, 17, (0, 0, 0, 0, 0, 0))])] := ha
  simp only [List.mem_cons, List.not_mem_nil, or_false] at ha
  rcases ha with rfl | rfl
  · obtain ⟨z2, e2, r⟩ := gW_int (show gW _ _ from q) (Nat.le_of_ble_eq_true rfl)
    cases e2
    have := gR0 r
    omega
  · obtain ⟨z2, e2, r⟩ := gW_int (show gW _ _ from q) (Nat.le_of_ble_eq_true rfl)
    cases e2
    have := gR0 r
    omega
theorem q_M_clumps_c {d : Nat} (hd : 3 ≤ d) : cOK gAll (xF d) 222 K_500 := ct_of ct_ok (show K_500 ∈ CT.getD 222 [] from (show CT.getD 222 [] = [K_500] from rfl) ▸ by simp) hd
theorem q_M_clumps {d : Nat} (hd : 3 ≤ d) {M : pM} (hM : gM gAll M)  : ∃ z M', xF d 222 [.inr 62] M = rI z M' ∧ gM gAll M' ∧ Fr [(60, 16), (60, 17), (60, 30), (69, 999), (72, 999), (73, 999)] M M' ∧ (0 ≤ z ∧ z ≤ 10) := by
  obtain ⟨z, M', e, g, f, alt, ha, q, -⟩ := cOK_I (q_M_clumps_c hd) (A := [.inr 62]) (show aF2 gW [aRef 62] [.inr 62] from ⟨gW_o, trivial⟩) hM (show gP0 [] M from fun e he => by cases he) rfl
  refine ⟨z, M', e, g, f, ?_⟩
  have ha : alt ∈ [(some (0, 0, 0, 0, 0, 0), [], [(60, 16, (0, 0, 0, 0, 0, 0)), (60, 17, (0, 0, 0, 0, 0, 0)), (60, 30, (0, 0, 0, 0, 0, 0))]), (some (0, 1, 1, 0, 0, 0), [], [(60, 16, (0, 1, 1, 0, 0, 0)), (60, 17, (0, 0, 0, 0, 0, 0)), (60, 30, (0, 1, 1, 0, 0, 0)), (69, 0, (0, -2147483648, 2147483647, 0, 0, 0))]), (some (0, 2, 10, 0, 0, 0), [], [(60, 16, (0, 2, 10, 0, 0, 0)), (60, 17, (0, 0, 0, 0, 0, 0)), (60, 30, (0, 2, 10, 0, 0, 0))])] := ha
  simp only [List.mem_cons, List.not_mem_nil, or_false] at ha
  rcases ha with rfl | rfl | rfl
  · obtain ⟨z2, e2, r⟩ := gW_int (show gW _ _ from q) (Nat.le_of_ble_eq_true rfl)
    cases e2
    have := gR0 r
    omega
  · obtain ⟨z2, e2, r⟩ := gW_int (show gW _ _ from q) (Nat.le_of_ble_eq_true rfl)
    cases e2
    have := gR0 r
    omega
  · obtain ⟨z2, e2, r⟩ := gW_int (show gW _ _ from q) (Nat.le_of_ble_eq_true rfl)
    cases e2
    have := gR0 r
    omega
theorem q_M_heaviest_c {d : Nat} (hd : 3 ≤ d) : cOK gAll (xF d) 224 K_503 := ct_of ct_ok (show K_503 ∈ CT.getD 224 [] from (show CT.getD 224 [] = [K_503] from rfl) ▸ by simp) hd
theorem q_M_heaviest {d : Nat} (hd : 3 ≤ d) {M : pM} (hM : gM gAll M)  : ∃ z M', xF d 224 [.inr 62] M = rI z M' ∧ gM gAll M' ∧ Fr [(60, 16), (60, 17), (60, 30), (69, 999), (72, 999), (73, 999)] M M' ∧ (-2 ≤ z ∧ z ≤ 9) := by
  obtain ⟨z, M', e, g, f, alt, ha, q, -⟩ := cOK_I (q_M_heaviest_c hd) (A := [.inr 62]) (show aF2 gW [aRef 62] [.inr 62] from ⟨gW_o, trivial⟩) hM (show gP0 [] M from fun e he => by cases he) rfl
  refine ⟨z, M', e, g, f, ?_⟩
  have ha : alt ∈ [(some (0, -2, -2, 0, 0, 0), [], [(60, 3, (0, 0, 0, 0, 0, 0)), (60, 17, (0, 0, 0, 0, 0, 0))]), (some (0, 0, 9, 0, 0, 0), [], [(60, 3, (0, 1, 10, 0, 0, 0)), (60, 16, (0, 2, 2, 0, 0, 0)), (60, 17, (0, 0, 0, 0, 0, 0)), (69, 1, (0, -2147483648, 2147483647, 0, 0, 0))])] := ha
  simp only [List.mem_cons, List.not_mem_nil, or_false] at ha
  rcases ha with rfl | rfl
  · obtain ⟨z2, e2, r⟩ := gW_int (show gW _ _ from q) (Nat.le_of_ble_eq_true rfl)
    cases e2
    have := gR0 r
    omega
  · obtain ⟨z2, e2, r⟩ := gW_int (show gW _ _ from q) (Nat.le_of_ble_eq_true rfl)
    cases e2
    have := gR0 r
    omega
theorem q_M_without_c {d : Nat} (hd : 3 ≤ d) : cOK gAll (xF d) 225 K_504 := ct_of ct_ok (show K_504 ∈ CT.getD 225 [] from (show CT.getD 225 [] = [K_504] from rfl) ▸ by simp) hd
theorem q_M_without {d : Nat} (hd : 3 ≤ d) {M : pM} {a1 : Int} (hM : gM gAll M) (h1 : -2147483648 ≤ a1 ∧ a1 ≤ 2147483647) : ∃ z M', xF d 225 [.inr 62, .inl a1] M = rI z M' ∧ gM gAll M' ∧ Fr [(60, 16), (60, 17), (60, 30), (69, 999), (72, 999), (73, 999)] M M' ∧ (-1 ≤ z ∧ z ≤ 10) := by
  obtain ⟨z, M', e, g, f, alt, ha, q, -⟩ := cOK_I (q_M_without_c hd) (A := [.inr 62, .inl a1]) (show aF2 gW [aRef 62, (0, -2147483648, 2147483647, 0, 0, 0)] [.inr 62, .inl a1] from ⟨gW_o, gW_i h1.1 h1.2, trivial⟩) hM (show gP0 [] M from fun e he => by cases he) rfl
  refine ⟨z, M', e, g, f, ?_⟩
  have ha : alt ∈ [(some (0, -1, -1, 0, 0, 0), [], [(60, 17, (0, 0, 0, 0, 0, 0))]), (some (0, 0, 10, 0, 0, 0), [(4, 0, 0, 0, 0, 0), (0, 0, 9, 0, 0, 0)], [(60, 16, (0, 1, 1, 0, 0, 0)), (60, 17, (0, 0, 0, 0, 0, 0)), (69, 0, (0, -2147483648, 2147483647, 0, 0, 0))])] := ha
  simp only [List.mem_cons, List.not_mem_nil, or_false] at ha
  rcases ha with rfl | rfl
  · obtain ⟨z2, e2, r⟩ := gW_int (show gW _ _ from q) (Nat.le_of_ble_eq_true rfl)
    cases e2
    have := gR0 r
    omega
  · obtain ⟨z2, e2, r⟩ := gW_int (show gW _ _ from q) (Nat.le_of_ble_eq_true rfl)
    cases e2
    have := gR0 r
    omega
theorem q_M_ties_c {d : Nat} (hd : 3 ≤ d) : cOK gAll (xF d) 227 K_505 := ct_of ct_ok (show K_505 ∈ CT.getD 227 [] from (show CT.getD 227 [] = [K_505] from rfl) ▸ by simp) hd
theorem q_M_ties {d : Nat} (hd : 3 ≤ d) {M : pM} (hM : gM gAll M)  : ∃ z M', xF d 227 [.inr 62] M = rI z M' ∧ gM gAll M' ∧ Fr [(60, 17), (60, 30), (72, 999), (73, 999)] M M' ∧ (0 ≤ z ∧ z ≤ 255) := by
  obtain ⟨z, M', e, g, f, alt, ha, q, -⟩ := cOK_I (q_M_ties_c hd) (A := [.inr 62]) (show aF2 gW [aRef 62] [.inr 62] from ⟨gW_o, trivial⟩) hM (show gP0 [] M from fun e he => by cases he) rfl
  refine ⟨z, M', e, g, f, ?_⟩
  have ha : alt ∈ [(some (0, 0, 255, 0, 0, 0), [], [(60, 17, (0, 0, 0, 0, 0, 0))])] := ha
  simp only [List.mem_cons, List.not_mem_nil, or_false] at ha
  rcases ha with rfl
  · obtain ⟨z2, e2, r⟩ := gW_int (show gW _ _ from q) (Nat.le_of_ble_eq_true rfl)
    cases e2
    have := gR0 r
    omega
theorem q_M_fits_1_c {d : Nat} (hd : 4 ≤ d) : cOK gAll (xF d) 234 K_514 := ct_of ct_ok (show K_514 ∈ CT.getD 234 [] from (show CT.getD 234 [] = [K_519, K_514] from rfl) ▸ by simp) hd
theorem q_M_fits_1 {d : Nat} (hd : 4 ≤ d) {M : pM} (hM : gM gAll M) (p0 : 1 ≤ M 60 0 ∧ M 60 0 ≤ 6) : ∃ z M', xF d 234 [.inr 62] M = rI z M' ∧ gM gAll M' ∧ Fr [(60, 16), (60, 17), (60, 30), (60, 39), (60, 40), (69, 999), (72, 999), (73, 999), (78, 999), (79, 999), (80, 999)] M M' := by
  obtain ⟨z, M', e, g, f, alt, ha, q, -⟩ := cOK_I (q_M_fits_1_c hd) (A := [.inr 62]) (show aF2 gW [aRef 62] [.inr 62] from ⟨gW_o, trivial⟩) hM (show gP0 [(60, 0, (0, 1, 6, 0, 0, 0))] M from fun e he => by
    simp only [List.mem_cons, List.not_mem_nil, or_false] at he
    rcases he with rfl
    · exact gR_i p0.1 p0.2) rfl
  exact ⟨z, M', e, g, f⟩
theorem q_M_fits_0_c {d : Nat} (hd : 4 ≤ d) : cOK gAll (xF d) 234 K_519 := ct_of ct_ok (show K_519 ∈ CT.getD 234 [] from (show CT.getD 234 [] = [K_519, K_514] from rfl) ▸ by simp) hd
theorem q_M_fits_0 {d : Nat} (hd : 4 ≤ d) {M : pM} (hM : gM gAll M) (p0 : 0 ≤ M 60 0 ∧ M 60 0 ≤ 0) (p1 : 0 ≤ M 60 3 ∧ M 60 3 ≤ 0) : ∃ z M', xF d 234 [.inr 62] M = rI z M' ∧ gM gAll M' ∧ Fr [(60, 16), (60, 17), (60, 30), (60, 39), (60, 40), (69, 999), (72, 999), (73, 999), (80, 999)] M M' := by
  obtain ⟨z, M', e, g, f, alt, ha, q, -⟩ := cOK_I (q_M_fits_0_c hd) (A := [.inr 62]) (show aF2 gW [aRef 62] [.inr 62] from ⟨gW_o, trivial⟩) hM (show gP0 [(60, 0, (0, 0, 0, 0, 0, 0)), (60, 3, (0, 0, 0, 0, 0, 0))] M from fun e he => by
    simp only [List.mem_cons, List.not_mem_nil, or_false] at he
    rcases he with rfl | rfl
    · exact gR_i p0.1 p0.2
    · exact gR_i p1.1 p1.2) rfl
  exact ⟨z, M', e, g, f⟩
theorem q_M_worth_c {d : Nat} (hd : 343 ≤ d) : cOK gAll (xF d) 235 K_521 := ct_of ct_ok (show K_521 ∈ CT.getD 235 [] from (show CT.getD 235 [] = [K_521] from rfl) ▸ by simp) hd
theorem q_M_worth {d : Nat} (hd : 343 ≤ d) {M : pM} (hM : gM gAll M)  : ∃ z M', xF d 235 [.inr 62] M = rI z M' ∧ gM gAll M' ∧ Fr [(60, 17), (60, 18), (60, 19), (60, 20), (60, 21), (60, 22), (60, 26), (60, 27)] M M' := by
  obtain ⟨z, M', e, g, f, alt, ha, q, -⟩ := cOK_I (q_M_worth_c hd) (A := [.inr 62]) (show aF2 gW [aRef 62] [.inr 62] from ⟨gW_o, trivial⟩) hM (show gP0 [] M from fun e he => by cases he) rfl
  exact ⟨z, M', e, g, f⟩
theorem q_M_best_0_c {d : Nat} (hd : 4 ≤ d) : cOK gAll (xF d) 236 K_573 := ct_of ct_ok (show K_573 ∈ CT.getD 236 [] from (show CT.getD 236 [] = [K_573] from rfl) ▸ by simp) hd
theorem q_M_best_0 {d : Nat} (hd : 4 ≤ d) {M : pM} (hM : gM gAll M) (p0 : 0 ≤ M 60 0 ∧ M 60 0 ≤ 0) (p1 : 0 ≤ M 60 3 ∧ M 60 3 ≤ 0) (p2 : 0 ≤ M 60 38 ∧ M 60 38 ≤ 0) : ∃ z M', xF d 236 [.inr 62] M = rI z M' ∧ gM gAll M' ∧ Fr [(60, 16), (60, 17), (60, 30), (60, 39), (60, 40), (69, 999), (72, 999), (73, 999), (80, 999)] M M' ∧ (-2 ≤ z ∧ z ≤ 1) := by
  obtain ⟨z, M', e, g, f, alt, ha, q, -⟩ := cOK_I (q_M_best_0_c hd) (A := [.inr 62]) (show aF2 gW [aRef 62] [.inr 62] from ⟨gW_o, trivial⟩) hM (show gP0 [(60, 0, (0, 0, 0, 0, 0, 0)), (60, 3, (0, 0, 0, 0, 0, 0)), (60, 38, (0, 0, 0, 0, 0, 0))] M from fun e he => by
    simp only [List.mem_cons, List.not_mem_nil, or_false] at he
    rcases he with rfl | rfl | rfl
    · exact gR_i p0.1 p0.2
    · exact gR_i p1.1 p1.2
    · exact gR_i p2.1 p2.2) rfl
  refine ⟨z, M', e, g, f, ?_⟩
  have ha : alt ∈ [(some (0, -2, -2, 0, 0, 0), [], [(60, 0, (0, 0, 0, 0, 0, 0)), (60, 3, (0, 0, 0, 0, 0, 0)), (60, 17, (0, 0, 0, 0, 0, 0)), (60, 30, (0, 0, 0, 0, 0, 0)), (60, 38, (0, 0, 0, 0, 0, 0)), (60, 39, (0, 1, 1, 0, 0, 0)), (60, 40, (0, 0, 1000000, 0, 0, 0))]), (some (0, 1, 1, 0, 0, 0), [], [(60, 0, (0, 0, 0, 0, 0, 0)), (60, 3, (0, 0, 0, 0, 0, 0)), (60, 16, (0, 1, 11, 0, 0, 0)), (60, 17, (0, 0, 0, 0, 0, 0)), (60, 30, (0, 0, 0, 0, 0, 0)), (60, 38, (0, 0, 0, 0, 0, 0)), (60, 39, (0, 1, 1, 0, 0, 0)), (60, 40, (0, 0, 1000000, 0, 0, 0))])] := ha
  simp only [List.mem_cons, List.not_mem_nil, or_false] at ha
  rcases ha with rfl | rfl
  · obtain ⟨z2, e2, r⟩ := gW_int (show gW _ _ from q) (Nat.le_of_ble_eq_true rfl)
    cases e2
    have := gR0 r
    omega
  · obtain ⟨z2, e2, r⟩ := gW_int (show gW _ _ from q) (Nat.le_of_ble_eq_true rfl)
    cases e2
    have := gR0 r
    omega
theorem q_M_near_1_c {d : Nat} (hd : 5 ≤ d) : cOK gAll (xF d) 238 K_526 := ct_of ct_ok (show K_526 ∈ CT.getD 238 [] from (show CT.getD 238 [] = [K_528, K_526] from rfl) ▸ by simp) hd
theorem q_M_near_1 {d : Nat} (hd : 5 ≤ d) {M : pM} (hM : gM gAll M) (p0 : 1 ≤ M 60 0 ∧ M 60 0 ≤ 6) : ∃ z M', xF d 238 [.inr 62] M = rI z M' ∧ gM gAll M' ∧ Fr [(60, 16), (60, 17), (60, 30), (60, 39), (60, 40), (69, 999), (72, 999), (73, 999), (74, 999), (78, 999), (79, 999), (80, 999)] M M' ∧ (-3 ≤ z ∧ z ≤ 999999) := by
  obtain ⟨z, M', e, g, f, alt, ha, q, -⟩ := cOK_I (q_M_near_1_c hd) (A := [.inr 62]) (show aF2 gW [aRef 62] [.inr 62] from ⟨gW_o, trivial⟩) hM (show gP0 [(60, 0, (0, 1, 6, 0, 0, 0))] M from fun e he => by
    simp only [List.mem_cons, List.not_mem_nil, or_false] at he
    rcases he with rfl
    · exact gR_i p0.1 p0.2) rfl
  refine ⟨z, M', e, g, f, ?_⟩
  have ha : alt ∈ [(some (0, -2, -2, 0, 0, 0), [], [(60, 0, (0, 1, 6, 0, 0, 0)), (60, 17, (0, 0, 0, 0, 0, 0)), (60, 39, (0, 1, 20000, 0, 0, 0)), (60, 40, (0, 0, 1000000, 0, 0, 0))]), (some (0, -3, -3, 0, 0, 0), [], [(60, 0, (0, 1, 6, 0, 0, 0)), (60, 17, (0, 0, 0, 0, 0, 0)), (60, 39, (0, 20001, 1000000, 0, 0, 0))]), (some (0, 0, 999999, 0, 0, 0), [], [(60, 0, (0, 1, 6, 0, 0, 0)), (60, 16, (0, 0, 10, 0, 0, 0)), (60, 17, (0, 0, 0, 0, 0, 0)), (60, 39, (0, 1, 20000, 0, 0, 0)), (60, 40, (0, 0, 1000000, 0, 0, 0))])] := ha
  simp only [List.mem_cons, List.not_mem_nil, or_false] at ha
  rcases ha with rfl | rfl | rfl
  · obtain ⟨z2, e2, r⟩ := gW_int (show gW _ _ from q) (Nat.le_of_ble_eq_true rfl)
    cases e2
    have := gR0 r
    omega
  · obtain ⟨z2, e2, r⟩ := gW_int (show gW _ _ from q) (Nat.le_of_ble_eq_true rfl)
    cases e2
    have := gR0 r
    omega
  · obtain ⟨z2, e2, r⟩ := gW_int (show gW _ _ from q) (Nat.le_of_ble_eq_true rfl)
    cases e2
    have := gR0 r
    omega
theorem q_M_near_0_c {d : Nat} (hd : 5 ≤ d) : cOK gAll (xF d) 238 K_528 := ct_of ct_ok (show K_528 ∈ CT.getD 238 [] from (show CT.getD 238 [] = [K_528, K_526] from rfl) ▸ by simp) hd
theorem q_M_near_0 {d : Nat} (hd : 5 ≤ d) {M : pM} (hM : gM gAll M) (p0 : 0 ≤ M 60 0 ∧ M 60 0 ≤ 0) (p1 : 0 ≤ M 60 3 ∧ M 60 3 ≤ 0) : ∃ z M', xF d 238 [.inr 62] M = rI z M' ∧ gM gAll M' ∧ Fr [(60, 16), (60, 17), (60, 30), (60, 39), (60, 40), (69, 999), (72, 999), (73, 999), (74, 999), (80, 999)] M M' ∧ (-2 ≤ z ∧ z ≤ 999999) := by
  obtain ⟨z, M', e, g, f, alt, ha, q, -⟩ := cOK_I (q_M_near_0_c hd) (A := [.inr 62]) (show aF2 gW [aRef 62] [.inr 62] from ⟨gW_o, trivial⟩) hM (show gP0 [(60, 0, (0, 0, 0, 0, 0, 0)), (60, 3, (0, 0, 0, 0, 0, 0))] M from fun e he => by
    simp only [List.mem_cons, List.not_mem_nil, or_false] at he
    rcases he with rfl | rfl
    · exact gR_i p0.1 p0.2
    · exact gR_i p1.1 p1.2) rfl
  refine ⟨z, M', e, g, f, ?_⟩
  have ha : alt ∈ [(some (0, -2, -2, 0, 0, 0), [], [(60, 0, (0, 0, 0, 0, 0, 0)), (60, 3, (0, 0, 0, 0, 0, 0)), (60, 17, (0, 0, 0, 0, 0, 0)), (60, 30, (0, 0, 0, 0, 0, 0)), (60, 39, (0, 1, 1, 0, 0, 0)), (60, 40, (0, 0, 1000000, 0, 0, 0))]), (some (0, 0, 999999, 0, 0, 0), [], [(60, 0, (0, 0, 0, 0, 0, 0)), (60, 3, (0, 0, 0, 0, 0, 0)), (60, 16, (0, 0, 10, 0, 0, 0)), (60, 17, (0, 0, 0, 0, 0, 0)), (60, 30, (0, 0, 0, 0, 0, 0)), (60, 39, (0, 1, 1, 0, 0, 0)), (60, 40, (0, 0, 1000000, 0, 0, 0))])] := ha
  simp only [List.mem_cons, List.not_mem_nil, or_false] at ha
  rcases ha with rfl | rfl
  · obtain ⟨z2, e2, r⟩ := gW_int (show gW _ _ from q) (Nat.le_of_ble_eq_true rfl)
    cases e2
    have := gR0 r
    omega
  · obtain ⟨z2, e2, r⟩ := gW_int (show gW _ _ from q) (Nat.le_of_ble_eq_true rfl)
    cases e2
    have := gR0 r
    omega
theorem q_M_guest_1_c {d : Nat} (hd : 5 ≤ d) : cOK gAll (xF d) 239 K_531 := ct_of ct_ok (show K_531 ∈ CT.getD 239 [] from (show CT.getD 239 [] = [K_533, K_531] from rfl) ▸ by simp) hd
theorem q_M_guest_1 {d : Nat} (hd : 5 ≤ d) {M : pM} {a1 : Int} {a2 : Int} (hM : gM gAll M) (h1 : -2147483648 ≤ a1 ∧ a1 ≤ 2147483647) (h2 : -2147483648 ≤ a2 ∧ a2 ≤ 2147483647) (p0 : 1 ≤ M 60 0 ∧ M 60 0 ≤ 6) : ∃ z M', xF d 239 [.inr 62, .inl a1, .inl a2] M = rI z M' ∧ gM gAll M' ∧ Fr [(60, 16), (60, 17), (60, 30), (60, 39), (60, 40), (69, 999), (72, 999), (73, 999), (74, 999), (78, 999), (79, 999), (80, 999)] M M' ∧ (-3 ≤ z ∧ z ≤ 999999) := by
  obtain ⟨z, M', e, g, f, alt, ha, q, -⟩ := cOK_I (q_M_guest_1_c hd) (A := [.inr 62, .inl a1, .inl a2]) (show aF2 gW [aRef 62, (0, -2147483648, 2147483647, 0, 0, 0), (0, -2147483648, 2147483647, 0, 0, 0)] [.inr 62, .inl a1, .inl a2] from ⟨gW_o, gW_i h1.1 h1.2, gW_i h2.1 h2.2, trivial⟩) hM (show gP0 [(60, 0, (0, 1, 6, 0, 0, 0))] M from fun e he => by
    simp only [List.mem_cons, List.not_mem_nil, or_false] at he
    rcases he with rfl
    · exact gR_i p0.1 p0.2) rfl
  refine ⟨z, M', e, g, f, ?_⟩
  have ha : alt ∈ [(some (0, -1, -1, 0, 0, 0), [], [(60, 0, (0, 1, 6, 0, 0, 0)), (60, 17, (0, 0, 0, 0, 0, 0))]), (some (0, -2, -2, 0, 0, 0), [(4, 0, 0, 0, 0, 0), (0, 0, 5, 0, 0, 0), (0, 0, 99, 0, 0, 0)], [(60, 0, (0, 1, 6, 0, 0, 0)), (60, 17, (0, 0, 0, 0, 0, 0)), (60, 39, (0, 1, 20000, 0, 0, 0)), (60, 40, (0, 0, 1000000, 0, 0, 0))]), (some (0, -3, -3, 0, 0, 0), [(4, 0, 0, 0, 0, 0), (0, 0, 5, 0, 0, 0), (0, 0, 99, 0, 0, 0)], [(60, 0, (0, 1, 6, 0, 0, 0)), (60, 17, (0, 0, 0, 0, 0, 0)), (60, 39, (0, 20001, 1000000, 0, 0, 0))]), (some (0, 0, 999999, 0, 0, 0), [(4, 0, 0, 0, 0, 0), (0, 0, 5, 0, 0, 0), (0, 0, 99, 0, 0, 0)], [(60, 0, (0, 1, 6, 0, 0, 0)), (60, 16, (0, 0, 10, 0, 0, 0)), (60, 17, (0, 0, 0, 0, 0, 0)), (60, 39, (0, 1, 20000, 0, 0, 0)), (60, 40, (0, 0, 1000000, 0, 0, 0))])] := ha
  simp only [List.mem_cons, List.not_mem_nil, or_false] at ha
  rcases ha with rfl | rfl | rfl | rfl
  · obtain ⟨z2, e2, r⟩ := gW_int (show gW _ _ from q) (Nat.le_of_ble_eq_true rfl)
    cases e2
    have := gR0 r
    omega
  · obtain ⟨z2, e2, r⟩ := gW_int (show gW _ _ from q) (Nat.le_of_ble_eq_true rfl)
    cases e2
    have := gR0 r
    omega
  · obtain ⟨z2, e2, r⟩ := gW_int (show gW _ _ from q) (Nat.le_of_ble_eq_true rfl)
    cases e2
    have := gR0 r
    omega
  · obtain ⟨z2, e2, r⟩ := gW_int (show gW _ _ from q) (Nat.le_of_ble_eq_true rfl)
    cases e2
    have := gR0 r
    omega
theorem q_M_guest_0_c {d : Nat} (hd : 5 ≤ d) : cOK gAll (xF d) 239 K_533 := ct_of ct_ok (show K_533 ∈ CT.getD 239 [] from (show CT.getD 239 [] = [K_533, K_531] from rfl) ▸ by simp) hd
theorem q_M_guest_0 {d : Nat} (hd : 5 ≤ d) {M : pM} {a1 : Int} {a2 : Int} (hM : gM gAll M) (h1 : -2147483648 ≤ a1 ∧ a1 ≤ 2147483647) (h2 : -2147483648 ≤ a2 ∧ a2 ≤ 2147483647) (p0 : 0 ≤ M 60 0 ∧ M 60 0 ≤ 0) (p1 : 0 ≤ M 60 3 ∧ M 60 3 ≤ 0) : ∃ z M', xF d 239 [.inr 62, .inl a1, .inl a2] M = rI z M' ∧ gM gAll M' ∧ Fr [(60, 16), (60, 17), (60, 30), (60, 39), (60, 40), (69, 999), (72, 999), (73, 999), (74, 999), (80, 999)] M M' ∧ (-2 ≤ z ∧ z ≤ 999999) := by
  obtain ⟨z, M', e, g, f, alt, ha, q, -⟩ := cOK_I (q_M_guest_0_c hd) (A := [.inr 62, .inl a1, .inl a2]) (show aF2 gW [aRef 62, (0, -2147483648, 2147483647, 0, 0, 0), (0, -2147483648, 2147483647, 0, 0, 0)] [.inr 62, .inl a1, .inl a2] from ⟨gW_o, gW_i h1.1 h1.2, gW_i h2.1 h2.2, trivial⟩) hM (show gP0 [(60, 0, (0, 0, 0, 0, 0, 0)), (60, 3, (0, 0, 0, 0, 0, 0))] M from fun e he => by
    simp only [List.mem_cons, List.not_mem_nil, or_false] at he
    rcases he with rfl | rfl
    · exact gR_i p0.1 p0.2
    · exact gR_i p1.1 p1.2) rfl
  refine ⟨z, M', e, g, f, ?_⟩
  have ha : alt ∈ [(some (0, -1, -1, 0, 0, 0), [], [(60, 0, (0, 0, 0, 0, 0, 0)), (60, 3, (0, 0, 0, 0, 0, 0)), (60, 17, (0, 0, 0, 0, 0, 0))]), (some (0, -2, -2, 0, 0, 0), [(4, 0, 0, 0, 0, 0), (0, 0, 5, 0, 0, 0), (0, 0, 99, 0, 0, 0)], [(60, 0, (0, 0, 0, 0, 0, 0)), (60, 3, (0, 0, 0, 0, 0, 0)), (60, 17, (0, 0, 0, 0, 0, 0)), (60, 30, (0, 0, 0, 0, 0, 0)), (60, 39, (0, 1, 1, 0, 0, 0)), (60, 40, (0, 0, 1000000, 0, 0, 0))]), (some (0, 0, 999999, 0, 0, 0), [(4, 0, 0, 0, 0, 0), (0, 0, 5, 0, 0, 0), (0, 0, 99, 0, 0, 0)], [(60, 0, (0, 0, 0, 0, 0, 0)), (60, 3, (0, 0, 0, 0, 0, 0)), (60, 16, (0, 0, 10, 0, 0, 0)), (60, 17, (0, 0, 0, 0, 0, 0)), (60, 30, (0, 0, 0, 0, 0, 0)), (60, 39, (0, 1, 1, 0, 0, 0)), (60, 40, (0, 0, 1000000, 0, 0, 0))])] := ha
  simp only [List.mem_cons, List.not_mem_nil, or_false] at ha
  rcases ha with rfl | rfl | rfl
  · obtain ⟨z2, e2, r⟩ := gW_int (show gW _ _ from q) (Nat.le_of_ble_eq_true rfl)
    cases e2
    have := gR0 r
    omega
  · obtain ⟨z2, e2, r⟩ := gW_int (show gW _ _ from q) (Nat.le_of_ble_eq_true rfl)
    cases e2
    have := gR0 r
    omega
  · obtain ⟨z2, e2, r⟩ := gW_int (show gW _ _ from q) (Nat.le_of_ble_eq_true rfl)
    cases e2
    have := gR0 r
    omega
theorem q_M_space_c {d : Nat} (hd : 4 ≤ d) : cOK gAll (xF d) 240 K_536 := ct_of ct_ok (show K_536 ∈ CT.getD 240 [] from (show CT.getD 240 [] = [K_536] from rfl) ▸ by simp) hd
theorem q_M_space {d : Nat} (hd : 4 ≤ d) {M : pM} (hM : gM gAll M)  : ∃ z M', xF d 240 [.inr 62] M = rI z M' ∧ gM gAll M' ∧ Fr [(60, 16), (60, 17), (60, 30), (60, 39), (60, 40), (69, 999), (72, 999), (73, 999), (78, 999), (79, 999), (80, 999)] M M' := by
  obtain ⟨z, M', e, g, f, alt, ha, q, -⟩ := cOK_I (q_M_space_c hd) (A := [.inr 62]) (show aF2 gW [aRef 62] [.inr 62] from ⟨gW_o, trivial⟩) hM (show gP0 [] M from fun e he => by cases he) rfl
  exact ⟨z, M', e, g, f⟩
theorem q_M_could_1_c {d : Nat} (hd : 4 ≤ d) : cOK gAll (xF d) 241 K_539 := ct_of ct_ok (show K_539 ∈ CT.getD 241 [] from (show CT.getD 241 [] = [K_540, K_539] from rfl) ▸ by simp) hd
theorem q_M_could_1 {d : Nat} (hd : 4 ≤ d) {M : pM} {a1 : Int} {a2 : Int} (hM : gM gAll M) (h1 : -2147483648 ≤ a1 ∧ a1 ≤ 2147483647) (h2 : -2147483648 ≤ a2 ∧ a2 ≤ 2147483647) (p0 : 1 ≤ M 60 0 ∧ M 60 0 ≤ 6) : ∃ z M', xF d 241 [.inr 62, .inl a1, .inl a2] M = rI z M' ∧ gM gAll M' ∧ Fr [(60, 17), (60, 30), (60, 39), (60, 40), (72, 999), (73, 999), (78, 999), (79, 999)] M M' ∧ (-3 ≤ z ∧ z ≤ 63) := by
  obtain ⟨z, M', e, g, f, alt, ha, q, -⟩ := cOK_I (q_M_could_1_c hd) (A := [.inr 62, .inl a1, .inl a2]) (show aF2 gW [aRef 62, (0, -2147483648, 2147483647, 0, 0, 0), (0, -2147483648, 2147483647, 0, 0, 0)] [.inr 62, .inl a1, .inl a2] from ⟨gW_o, gW_i h1.1 h1.2, gW_i h2.1 h2.2, trivial⟩) hM (show gP0 [(60, 0, (0, 1, 6, 0, 0, 0))] M from fun e he => by
    simp only [List.mem_cons, List.not_mem_nil, or_false] at he
    rcases he with rfl
    · exact gR_i p0.1 p0.2) rfl
  refine ⟨z, M', e, g, f, ?_⟩
  have ha : alt ∈ [(some (0, -1, -1, 0, 0, 0), [], [(60, 0, (0, 1, 6, 0, 0, 0)), (60, 17, (0, 0, 0, 0, 0, 0))]), (some (0, -3, -3, 0, 0, 0), [(4, 0, 0, 0, 0, 0), (0, 1, 99, 0, 0, 0), (0, 0, 255, 0, 0, 0)], [(60, 0, (0, 1, 6, 0, 0, 0)), (60, 17, (0, 0, 0, 0, 0, 0)), (60, 39, (0, 20001, 1000000, 0, 0, 0))]), (some (0, 0, 63, 0, 0, 0), [(4, 0, 0, 0, 0, 0), (0, 1, 99, 0, 0, 0), (0, 0, 255, 0, 0, 0)], [(60, 0, (0, 1, 6, 0, 0, 0)), (60, 17, (0, 0, 0, 0, 0, 0)), (60, 39, (0, 1, 20000, 0, 0, 0)), (60, 40, (0, 0, 1000000, 0, 0, 0))])] := ha
  simp only [List.mem_cons, List.not_mem_nil, or_false] at ha
  rcases ha with rfl | rfl | rfl
  · obtain ⟨z2, e2, r⟩ := gW_int (show gW _ _ from q) (Nat.le_of_ble_eq_true rfl)
    cases e2
    have := gR0 r
    omega
  · obtain ⟨z2, e2, r⟩ := gW_int (show gW _ _ from q) (Nat.le_of_ble_eq_true rfl)
    cases e2
    have := gR0 r
    omega
  · obtain ⟨z2, e2, r⟩ := gW_int (show gW _ _ from q) (Nat.le_of_ble_eq_true rfl)
    cases e2
    have := gR0 r
    omega
theorem q_M_could_0_c {d : Nat} (hd : 4 ≤ d) : cOK gAll (xF d) 241 K_540 := ct_of ct_ok (show K_540 ∈ CT.getD 241 [] from (show CT.getD 241 [] = [K_540, K_539] from rfl) ▸ by simp) hd
theorem q_M_could_0 {d : Nat} (hd : 4 ≤ d) {M : pM} {a1 : Int} {a2 : Int} (hM : gM gAll M) (h1 : -2147483648 ≤ a1 ∧ a1 ≤ 2147483647) (h2 : -2147483648 ≤ a2 ∧ a2 ≤ 2147483647) (p0 : 0 ≤ M 60 0 ∧ M 60 0 ≤ 0) (p1 : 0 ≤ M 60 3 ∧ M 60 3 ≤ 0) : ∃ z M', xF d 241 [.inr 62, .inl a1, .inl a2] M = rI z M' ∧ gM gAll M' ∧ Fr [(60, 17), (60, 30), (60, 39), (60, 40), (72, 999), (73, 999)] M M' ∧ (-1 ≤ z ∧ z ≤ 0) := by
  obtain ⟨z, M', e, g, f, alt, ha, q, -⟩ := cOK_I (q_M_could_0_c hd) (A := [.inr 62, .inl a1, .inl a2]) (show aF2 gW [aRef 62, (0, -2147483648, 2147483647, 0, 0, 0), (0, -2147483648, 2147483647, 0, 0, 0)] [.inr 62, .inl a1, .inl a2] from ⟨gW_o, gW_i h1.1 h1.2, gW_i h2.1 h2.2, trivial⟩) hM (show gP0 [(60, 0, (0, 0, 0, 0, 0, 0)), (60, 3, (0, 0, 0, 0, 0, 0))] M from fun e he => by
    simp only [List.mem_cons, List.not_mem_nil, or_false] at he
    rcases he with rfl | rfl
    · exact gR_i p0.1 p0.2
    · exact gR_i p1.1 p1.2) rfl
  refine ⟨z, M', e, g, f, ?_⟩
  have ha : alt ∈ [(some (0, -1, -1, 0, 0, 0), [], [(60, 0, (0, 0, 0, 0, 0, 0)), (60, 3, (0, 0, 0, 0, 0, 0)), (60, 17, (0, 0, 0, 0, 0, 0))]), (some (0, 0, 0, 0, 0, 0), [(4, 0, 0, 0, 0, 0), (0, 1, 99, 0, 0, 0), (0, 0, 255, 0, 0, 0)], [(60, 0, (0, 0, 0, 0, 0, 0)), (60, 3, (0, 0, 0, 0, 0, 0)), (60, 17, (0, 0, 0, 0, 0, 0)), (60, 30, (0, 0, 0, 0, 0, 0)), (60, 39, (0, 1, 1, 0, 0, 0)), (60, 40, (0, 0, 1000000, 0, 0, 0))])] := ha
  simp only [List.mem_cons, List.not_mem_nil, or_false] at ha
  rcases ha with rfl | rfl
  · obtain ⟨z2, e2, r⟩ := gW_int (show gW _ _ from q) (Nat.le_of_ble_eq_true rfl)
    cases e2
    have := gR0 r
    omega
  · obtain ⟨z2, e2, r⟩ := gW_int (show gW _ _ from q) (Nat.le_of_ble_eq_true rfl)
    cases e2
    have := gR0 r
    omega
theorem q_M_may_0_c {d : Nat} (hd : 3 ≤ d) : cOK gAll (xF d) 242 K_575 := ct_of ct_ok (show K_575 ∈ CT.getD 242 [] from (show CT.getD 242 [] = [K_575] from rfl) ▸ by simp) hd
theorem q_M_may_0 {d : Nat} (hd : 3 ≤ d) {M : pM} {a1 : Int} (hM : gM gAll M) (h1 : -2147483648 ≤ a1 ∧ a1 ≤ 2147483647) (p0 : 0 ≤ M 60 0 ∧ M 60 0 ≤ 0) (p1 : 0 ≤ M 60 3 ∧ M 60 3 ≤ 0) : ∃ z M', xF d 242 [.inr 62, .inl a1] M = rI z M' ∧ gM gAll M' ∧ Fr [(60, 17), (60, 30), (72, 999), (73, 999)] M M' ∧ (-1 ≤ z ∧ z ≤ -1) := by
  obtain ⟨z, M', e, g, f, alt, ha, q, -⟩ := cOK_I (q_M_may_0_c hd) (A := [.inr 62, .inl a1]) (show aF2 gW [aRef 62, (0, -2147483648, 2147483647, 0, 0, 0)] [.inr 62, .inl a1] from ⟨gW_o, gW_i h1.1 h1.2, trivial⟩) hM (show gP0 [(60, 0, (0, 0, 0, 0, 0, 0)), (60, 3, (0, 0, 0, 0, 0, 0))] M from fun e he => by
    simp only [List.mem_cons, List.not_mem_nil, or_false] at he
    rcases he with rfl | rfl
    · exact gR_i p0.1 p0.2
    · exact gR_i p1.1 p1.2) rfl
  refine ⟨z, M', e, g, f, ?_⟩
  have ha : alt ∈ [(some (0, -1, -1, 0, 0, 0), [], [(60, 0, (0, 0, 0, 0, 0, 0)), (60, 3, (0, 0, 0, 0, 0, 0)), (60, 17, (0, 0, 0, 0, 0, 0)), (60, 30, (0, 0, 0, 0, 0, 0))])] := ha
  simp only [List.mem_cons, List.not_mem_nil, or_false] at ha
  rcases ha with rfl
  · obtain ⟨z2, e2, r⟩ := gW_int (show gW _ _ from q) (Nat.le_of_ble_eq_true rfl)
    cases e2
    have := gR0 r
    omega
theorem q_M_together_1_c {d : Nat} (hd : 4 ≤ d) : cOK gAll (xF d) 243 K_541 := ct_of ct_ok (show K_541 ∈ CT.getD 243 [] from (show CT.getD 243 [] = [K_542, K_541] from rfl) ▸ by simp) hd
theorem q_M_together_1 {d : Nat} (hd : 4 ≤ d) {M : pM} {a1 : Int} {a2 : Int} (hM : gM gAll M) (h1 : -2147483648 ≤ a1 ∧ a1 ≤ 2147483647) (h2 : -2147483648 ≤ a2 ∧ a2 ≤ 2147483647) (p0 : 1 ≤ M 60 0 ∧ M 60 0 ≤ 6) : ∃ z M', xF d 243 [.inr 62, .inl a1, .inl a2] M = rI z M' ∧ gM gAll M' ∧ Fr [(60, 16), (60, 17), (60, 30), (60, 39), (60, 40), (69, 999), (72, 999), (73, 999), (78, 999), (79, 999)] M M' := by
  obtain ⟨z, M', e, g, f, alt, ha, q, -⟩ := cOK_I (q_M_together_1_c hd) (A := [.inr 62, .inl a1, .inl a2]) (show aF2 gW [aRef 62, (0, -2147483648, 2147483647, 0, 0, 0), (0, -2147483648, 2147483647, 0, 0, 0)] [.inr 62, .inl a1, .inl a2] from ⟨gW_o, gW_i h1.1 h1.2, gW_i h2.1 h2.2, trivial⟩) hM (show gP0 [(60, 0, (0, 1, 6, 0, 0, 0))] M from fun e he => by
    simp only [List.mem_cons, List.not_mem_nil, or_false] at he
    rcases he with rfl
    · exact gR_i p0.1 p0.2) rfl
  exact ⟨z, M', e, g, f⟩
theorem q_M_together_0_c {d : Nat} (hd : 4 ≤ d) : cOK gAll (xF d) 243 K_542 := ct_of ct_ok (show K_542 ∈ CT.getD 243 [] from (show CT.getD 243 [] = [K_542, K_541] from rfl) ▸ by simp) hd
theorem q_M_together_0 {d : Nat} (hd : 4 ≤ d) {M : pM} {a1 : Int} {a2 : Int} (hM : gM gAll M) (h1 : -2147483648 ≤ a1 ∧ a1 ≤ 2147483647) (h2 : -2147483648 ≤ a2 ∧ a2 ≤ 2147483647) (p0 : 0 ≤ M 60 0 ∧ M 60 0 ≤ 0) (p1 : 0 ≤ M 60 3 ∧ M 60 3 ≤ 0) : ∃ z M', xF d 243 [.inr 62, .inl a1, .inl a2] M = rI z M' ∧ gM gAll M' ∧ Fr [(60, 16), (60, 17), (60, 30), (60, 39), (60, 40), (69, 999), (72, 999), (73, 999)] M M' := by
  obtain ⟨z, M', e, g, f, alt, ha, q, -⟩ := cOK_I (q_M_together_0_c hd) (A := [.inr 62, .inl a1, .inl a2]) (show aF2 gW [aRef 62, (0, -2147483648, 2147483647, 0, 0, 0), (0, -2147483648, 2147483647, 0, 0, 0)] [.inr 62, .inl a1, .inl a2] from ⟨gW_o, gW_i h1.1 h1.2, gW_i h2.1 h2.2, trivial⟩) hM (show gP0 [(60, 0, (0, 0, 0, 0, 0, 0)), (60, 3, (0, 0, 0, 0, 0, 0))] M from fun e he => by
    simp only [List.mem_cons, List.not_mem_nil, or_false] at he
    rcases he with rfl | rfl
    · exact gR_i p0.1 p0.2
    · exact gR_i p1.1 p1.2) rfl
  exact ⟨z, M', e, g, f⟩
theorem q_M_fullest_1_c {d : Nat} (hd : 4 ≤ d) : cOK gAll (xF d) 244 K_543 := ct_of ct_ok (show K_543 ∈ CT.getD 244 [] from (show CT.getD 244 [] = [K_544, K_543] from rfl) ▸ by simp) hd
theorem q_M_fullest_1 {d : Nat} (hd : 4 ≤ d) {M : pM} {a1 : Int} (hM : gM gAll M) (h1 : -2147483648 ≤ a1 ∧ a1 ≤ 2147483647) (p0 : 1 ≤ M 60 0 ∧ M 60 0 ≤ 6) : ∃ z M', xF d 244 [.inr 62, .inl a1] M = rI z M' ∧ gM gAll M' ∧ Fr [(60, 16), (60, 17), (60, 30), (60, 39), (60, 40), (69, 999), (72, 999), (73, 999), (78, 999), (79, 999), (80, 999)] M M' := by
  obtain ⟨z, M', e, g, f, alt, ha, q, -⟩ := cOK_I (q_M_fullest_1_c hd) (A := [.inr 62, .inl a1]) (show aF2 gW [aRef 62, (0, -2147483648, 2147483647, 0, 0, 0)] [.inr 62, .inl a1] from ⟨gW_o, gW_i h1.1 h1.2, trivial⟩) hM (show gP0 [(60, 0, (0, 1, 6, 0, 0, 0))] M from fun e he => by
    simp only [List.mem_cons, List.not_mem_nil, or_false] at he
    rcases he with rfl
    · exact gR_i p0.1 p0.2) rfl
  exact ⟨z, M', e, g, f⟩
theorem q_M_fullest_0_c {d : Nat} (hd : 4 ≤ d) : cOK gAll (xF d) 244 K_544 := ct_of ct_ok (show K_544 ∈ CT.getD 244 [] from (show CT.getD 244 [] = [K_544, K_543] from rfl) ▸ by simp) hd
theorem q_M_fullest_0 {d : Nat} (hd : 4 ≤ d) {M : pM} {a1 : Int} (hM : gM gAll M) (h1 : -2147483648 ≤ a1 ∧ a1 ≤ 2147483647) (p0 : 0 ≤ M 60 0 ∧ M 60 0 ≤ 0) (p1 : 0 ≤ M 60 3 ∧ M 60 3 ≤ 0) : ∃ z M', xF d 244 [.inr 62, .inl a1] M = rI z M' ∧ gM gAll M' ∧ Fr [(60, 16), (60, 17), (60, 30), (60, 39), (60, 40), (69, 999), (72, 999), (73, 999), (80, 999)] M M' := by
  obtain ⟨z, M', e, g, f, alt, ha, q, -⟩ := cOK_I (q_M_fullest_0_c hd) (A := [.inr 62, .inl a1]) (show aF2 gW [aRef 62, (0, -2147483648, 2147483647, 0, 0, 0)] [.inr 62, .inl a1] from ⟨gW_o, gW_i h1.1 h1.2, trivial⟩) hM (show gP0 [(60, 0, (0, 0, 0, 0, 0, 0)), (60, 3, (0, 0, 0, 0, 0, 0))] M from fun e he => by
    simp only [List.mem_cons, List.not_mem_nil, or_false] at he
    rcases he with rfl | rfl
    · exact gR_i p0.1 p0.2
    · exact gR_i p1.1 p1.2) rfl
  exact ⟨z, M', e, g, f⟩
theorem q_M_swap_c {d : Nat} (hd : 4 ≤ d) : cOK gAll (xF d) 245 K_548 := ct_of ct_ok (show K_548 ∈ CT.getD 245 [] from (show CT.getD 245 [] = [K_548] from rfl) ▸ by simp) hd
theorem q_M_swap {d : Nat} (hd : 4 ≤ d) {M : pM} {a1 : Int} {a2 : Int} (hM : gM gAll M) (h1 : -2147483648 ≤ a1 ∧ a1 ≤ 2147483647) (h2 : -2147483648 ≤ a2 ∧ a2 ≤ 2147483647) : ∃ z M', xF d 245 [.inr 62, .inl a1, .inl a2] M = rI z M' ∧ gM gAll M' ∧ Fr [(60, 16), (60, 17), (69, 999), (74, 999), (78, 999)] M M' ∧ (-1 ≤ z ∧ z ≤ 1) := by
  obtain ⟨z, M', e, g, f, alt, ha, q, -⟩ := cOK_I (q_M_swap_c hd) (A := [.inr 62, .inl a1, .inl a2]) (show aF2 gW [aRef 62, (0, -2147483648, 2147483647, 0, 0, 0), (0, -2147483648, 2147483647, 0, 0, 0)] [.inr 62, .inl a1, .inl a2] from ⟨gW_o, gW_i h1.1 h1.2, gW_i h2.1 h2.2, trivial⟩) hM (show gP0 [] M from fun e he => by cases he) rfl
  refine ⟨z, M', e, g, f, ?_⟩
  have ha : alt ∈ [(some (0, -1, -1, 0, 0, 0), [], [(60, 17, (0, 0, 0, 0, 0, 0))]), (some (0, 0, 0, 0, 0, 0), [(4, 0, 0, 0, 0, 0), (0, 0, 5, 0, 0, 0), (0, 0, 5, 0, 0, 0)], [(60, 16, (0, 1, 1, 0, 0, 0)), (60, 17, (0, 0, 0, 0, 0, 0)), (69, 0, (0, -2147483648, 2147483647, 0, 0, 0))]), (some (0, 1, 1, 0, 0, 0), [(4, 0, 0, 0, 0, 0), (0, 0, 5, 0, 0, 0), (0, 0, 5, 0, 0, 0)], [(60, 16, (0, 1, 1, 0, 0, 0)), (60, 17, (0, 0, 0, 0, 0, 0)), (69, 0, (0, -2147483648, 2147483647, 0, 0, 0))])] := ha
  simp only [List.mem_cons, List.not_mem_nil, or_false] at ha
  rcases ha with rfl | rfl | rfl
  · obtain ⟨z2, e2, r⟩ := gW_int (show gW _ _ from q) (Nat.le_of_ble_eq_true rfl)
    cases e2
    have := gR0 r
    omega
  · obtain ⟨z2, e2, r⟩ := gW_int (show gW _ _ from q) (Nat.le_of_ble_eq_true rfl)
    cases e2
    have := gR0 r
    omega
  · obtain ⟨z2, e2, r⟩ := gW_int (show gW _ _ from q) (Nat.le_of_ble_eq_true rfl)
    cases e2
    have := gR0 r
    omega
theorem q_M_sell_1_c {d : Nat} (hd : 4 ≤ d) : cOK gAll (xF d) 246 K_551 := ct_of ct_ok (show K_551 ∈ CT.getD 246 [] from (show CT.getD 246 [] = [K_552, K_551] from rfl) ▸ by simp) hd
theorem q_M_sell_1 {d : Nat} (hd : 4 ≤ d) {M : pM} (hM : gM gAll M) (p0 : 1 ≤ M 60 0 ∧ M 60 0 ≤ 6) (p1 : 0 ≤ M 60 38 ∧ M 60 38 ≤ 0) : ∃ z M', xF d 246 [.inr 62] M = rI z M' ∧ gM gAll M' ∧ Fr [(60, 16), (60, 17), (60, 30), (60, 38), (60, 39), (60, 40), (69, 999), (72, 999), (73, 999), (78, 999), (79, 999)] M M' ∧ (-3 ≤ z ∧ z ≤ 63) := by
  obtain ⟨z, M', e, g, f, alt, ha, q, -⟩ := cOK_I (q_M_sell_1_c hd) (A := [.inr 62]) (show aF2 gW [aRef 62] [.inr 62] from ⟨gW_o, trivial⟩) hM (show gP0 [(60, 0, (0, 1, 6, 0, 0, 0)), (60, 38, (0, 0, 0, 0, 0, 0))] M from fun e he => by
    simp only [List.mem_cons, List.not_mem_nil, or_false] at he
    rcases he with rfl | rfl
    · exact gR_i p0.1 p0.2
    · exact gR_i p1.1 p1.2) rfl
  refine ⟨z, M', e, g, f, ?_⟩
  have ha : alt ∈ [(some (0, -3, -3, 0, 0, 0), [], [(60, 0, (0, 1, 6, 0, 0, 0)), (60, 17, (0, 0, 0, 0, 0, 0)), (60, 38, (0, 0, 0, 0, 0, 0)), (60, 39, (0, 20001, 1000000, 0, 0, 0))]), (some (0, 0, 63, 0, 0, 0), [], [(60, 0, (0, 1, 6, 0, 0, 0)), (60, 16, (0, 1, 1, 0, 0, 0)), (60, 17, (0, 0, 0, 0, 0, 0)), (60, 38, (0, 0, 0, 0, 0, 0)), (60, 39, (0, 1, 20000, 0, 0, 0)), (69, 0, (0, -2147483648, 2147483647, 0, 0, 0))])] := ha
  simp only [List.mem_cons, List.not_mem_nil, or_false] at ha
  rcases ha with rfl | rfl
  · obtain ⟨z2, e2, r⟩ := gW_int (show gW _ _ from q) (Nat.le_of_ble_eq_true rfl)
    cases e2
    have := gR0 r
    omega
  · obtain ⟨z2, e2, r⟩ := gW_int (show gW _ _ from q) (Nat.le_of_ble_eq_true rfl)
    cases e2
    have := gR0 r
    omega
theorem q_M_sell_0_c {d : Nat} (hd : 4 ≤ d) : cOK gAll (xF d) 246 K_552 := ct_of ct_ok (show K_552 ∈ CT.getD 246 [] from (show CT.getD 246 [] = [K_552, K_551] from rfl) ▸ by simp) hd
theorem q_M_sell_0 {d : Nat} (hd : 4 ≤ d) {M : pM} (hM : gM gAll M) (p0 : 0 ≤ M 60 0 ∧ M 60 0 ≤ 0) (p1 : 0 ≤ M 60 3 ∧ M 60 3 ≤ 0) (p2 : 0 ≤ M 60 38 ∧ M 60 38 ≤ 0) : ∃ z M', xF d 246 [.inr 62] M = rI z M' ∧ gM gAll M' ∧ Fr [(60, 16), (60, 17), (60, 30), (60, 38), (60, 39), (69, 999), (72, 999), (73, 999)] M M' ∧ (0 ≤ z ∧ z ≤ 63) := by
  obtain ⟨z, M', e, g, f, alt, ha, q, -⟩ := cOK_I (q_M_sell_0_c hd) (A := [.inr 62]) (show aF2 gW [aRef 62] [.inr 62] from ⟨gW_o, trivial⟩) hM (show gP0 [(60, 0, (0, 0, 0, 0, 0, 0)), (60, 3, (0, 0, 0, 0, 0, 0)), (60, 38, (0, 0, 0, 0, 0, 0))] M from fun e he => by
    simp only [List.mem_cons, List.not_mem_nil, or_false] at he
    rcases he with rfl | rfl | rfl
    · exact gR_i p0.1 p0.2
    · exact gR_i p1.1 p1.2
    · exact gR_i p2.1 p2.2) rfl
  refine ⟨z, M', e, g, f, ?_⟩
  have ha : alt ∈ [(some (0, 0, 63, 0, 0, 0), [], [(60, 0, (0, 0, 0, 0, 0, 0)), (60, 3, (0, 0, 0, 0, 0, 0)), (60, 16, (0, 1, 1, 0, 0, 0)), (60, 17, (0, 0, 0, 0, 0, 0)), (60, 30, (0, 0, 0, 0, 0, 0)), (60, 38, (0, 0, 0, 0, 0, 0)), (60, 39, (0, 1, 1, 0, 0, 0)), (69, 0, (0, -2147483648, 2147483647, 0, 0, 0))])] := ha
  simp only [List.mem_cons, List.not_mem_nil, or_false] at ha
  rcases ha with rfl
  · obtain ⟨z2, e2, r⟩ := gW_int (show gW _ _ from q) (Nat.le_of_ble_eq_true rfl)
    cases e2
    have := gR0 r
    omega
theorem q_M_widest_c {d : Nat} (hd : 3 ≤ d) : cOK gAll (xF d) 251 K_554 := ct_of ct_ok (show K_554 ∈ CT.getD 251 [] from (show CT.getD 251 [] = [K_554] from rfl) ▸ by simp) hd
theorem q_M_widest {d : Nat} (hd : 3 ≤ d) {M : pM} {a1 : Int} {a2 : Int} (hM : gM gAll M) (h1 : -2147483648 ≤ a1 ∧ a1 ≤ 2147483647) (h2 : -2147483648 ≤ a2 ∧ a2 ≤ 2147483647) : ∃ z M', xF d 251 [.inr 62, .inl a1, .inl a2] M = rI z M' ∧ gM gAll M' ∧ Fr [(60, 17), (74, 999)] M M' ∧ (-1 ≤ z ∧ z ≤ 9) := by
  obtain ⟨z, M', e, g, f, alt, ha, q, -⟩ := cOK_I (q_M_widest_c hd) (A := [.inr 62, .inl a1, .inl a2]) (show aF2 gW [aRef 62, (0, -2147483648, 2147483647, 0, 0, 0), (0, -2147483648, 2147483647, 0, 0, 0)] [.inr 62, .inl a1, .inl a2] from ⟨gW_o, gW_i h1.1 h1.2, gW_i h2.1 h2.2, trivial⟩) hM (show gP0 [] M from fun e he => by cases he) rfl
  refine ⟨z, M', e, g, f, ?_⟩
  have ha : alt ∈ [(some (0, -1, -1, 0, 0, 0), [], [(60, 17, (0, 0, 0, 0, 0, 0))]), (some (0, 0, 0, 0, 0, 0), [(4, 0, 0, 0, 0, 0), (0, 0, 5, 0, 0, 0), (0, 0, 5, 0, 0, 0)], [(60, 17, (0, 0, 0, 0, 0, 0))]), (some (0, 1, 9, 0, 0, 0), [(4, 0, 0, 0, 0, 0), (0, 0, 5, 0, 0, 0), (0, 0, 5, 0, 0, 0)], [(60, 17, (0, 0, 0, 0, 0, 0))])] := ha
  simp only [List.mem_cons, List.not_mem_nil, or_false] at ha
  rcases ha with rfl | rfl | rfl
  · obtain ⟨z2, e2, r⟩ := gW_int (show gW _ _ from q) (Nat.le_of_ble_eq_true rfl)
    cases e2
    have := gR0 r
    omega
  · obtain ⟨z2, e2, r⟩ := gW_int (show gW _ _ from q) (Nat.le_of_ble_eq_true rfl)
    cases e2
    have := gR0 r
    omega
  · obtain ⟨z2, e2, r⟩ := gW_int (show gW _ _ from q) (Nat.le_of_ble_eq_true rfl)
    cases e2
    have := gR0 r
    omega
theorem q_M_stuck_c {d : Nat} (hd : 3 ≤ d) : cOK gAll (xF d) 252 K_557 := ct_of ct_ok (show K_557 ∈ CT.getD 252 [] from (show CT.getD 252 [] = [K_557] from rfl) ▸ by simp) hd
theorem q_M_stuck {d : Nat} (hd : 3 ≤ d) {M : pM} (hM : gM gAll M)  : ∃ z M', xF d 252 [.inr 62] M = rI z M' ∧ gM gAll M' ∧ Fr [(60, 17), (74, 999)] M M' ∧ (0 ≤ z ∧ z ≤ 1023) := by
  obtain ⟨z, M', e, g, f, alt, ha, q, -⟩ := cOK_I (q_M_stuck_c hd) (A := [.inr 62]) (show aF2 gW [aRef 62] [.inr 62] from ⟨gW_o, trivial⟩) hM (show gP0 [] M from fun e he => by cases he) rfl
  refine ⟨z, M', e, g, f, ?_⟩
  have ha : alt ∈ [(some (0, 0, 1023, 0, 0, 0), [], [(60, 17, (0, 0, 0, 0, 0, 0))])] := ha
  simp only [List.mem_cons, List.not_mem_nil, or_false] at ha
  rcases ha with rfl
  · obtain ⟨z2, e2, r⟩ := gW_int (show gW _ _ from q) (Nat.le_of_ble_eq_true rfl)
    cases e2
    have := gR0 r
    omega
theorem q_M_aim_c {d : Nat} (hd : 2 ≤ d) : cOK gAll (xF d) 255 K_559 := ct_of ct_ok (show K_559 ∈ CT.getD 255 [] from (show CT.getD 255 [] = [K_559] from rfl) ▸ by simp) hd
theorem q_M_aim {d : Nat} (hd : 2 ≤ d) {M : pM} (hM : gM gAll M)  : ∃ z M', xF d 255 [.inr 62] M = rI z M' ∧ gM gAll M' ∧ Fr [(60, 14), (60, 17), (60, 43), (60, 44), (81, 999)] M M' ∧ (-11 ≤ z ∧ z ≤ 10) := by
  obtain ⟨z, M', e, g, f, alt, ha, q, -⟩ := cOK_I (q_M_aim_c hd) (A := [.inr 62]) (show aF2 gW [aRef 62] [.inr 62] from ⟨gW_o, trivial⟩) hM (show gP0 [] M from fun e he => by cases he) rfl
  refine ⟨z, M', e, g, f, ?_⟩
  have ha : alt ∈ [(some (0, -1, -1, 0, 0, 0), [], [(60, 14, (0, 0, 0, 0, 0, 0)), (60, 17, (0, 0, 0, 0, 0, 0))]), (some (0, -2, -2, 0, 0, 0), [], [(60, 3, (0, 1, 10, 0, 0, 0)), (60, 14, (0, 0, 0, 0, 0, 0)), (60, 17, (0, 0, 0, 0, 0, 0)), (68, 0, (0, 48, 53, 0, 0, 0))]), (some (0, -3, -3, 0, 0, 0), [], [(60, 3, (0, 2, 10, 0, 0, 0)), (60, 14, (0, 0, 0, 0, 0, 0)), (60, 17, (0, 0, 0, 0, 0, 0)), (68, 0, (0, 48, 53, 0, 0, 0)), (68, 1, (0, 48, 53, 0, 0, 0))]), (some (0, -4, -4, 0, 0, 0), [], [(60, 3, (0, 3, 10, 0, 0, 0)), (60, 14, (0, 0, 0, 0, 0, 0)), (60, 17, (0, 0, 0, 0, 0, 0)), (68, 0, (0, 48, 53, 0, 0, 0)), (68, 1, (0, 48, 53, 0, 0, 0)), (68, 2, (0, 48, 53, 0, 0, 0))]), (some (0, -5, -5, 0, 0, 0), [], [(60, 3, (0, 4, 10, 0, 0, 0)), (60, 14, (0, 0, 0, 0, 0, 0)), (60, 17, (0, 0, 0, 0, 0, 0)), (68, 0, (0, 48, 53, 0, 0, 0)), (68, 1, (0, 48, 53, 0, 0, 0)), (68, 2, (0, 48, 53, 0, 0, 0)), (68, 3, (0, 48, 53, 0, 0, 0))]), (some (0, 0, 0, 0, 0, 0), [], [(60, 14, (0, 0, 0, 0, 0, 0)), (60, 17, (0, 0, 0, 0, 0, 0)), (60, 44, (0, 0, 0, 0, 0, 0))]), (some (0, 1, 1, 0, 0, 0), [], [(60, 3, (0, 1, 1, 0, 0, 0)), (60, 14, (0, 0, 0, 0, 0, 0)), (60, 17, (0, 0, 0, 0, 0, 0)), (60, 43, (0, 1, 1, 0, 0, 0)), (60, 44, (0, 1, 1, 0, 0, 0)), (68, 0, (0, 48, 53, 0, 0, 0))]), (some (0, 2, 10, 0, 0, 0), [], [(60, 3, (0, 2, 10, 0, 0, 0)), (60, 14, (0, 0, 0, 0, 0, 0)), (60, 17, (0, 0, 0, 0, 0, 0)), (60, 43, (0, 2, 10, 0, 0, 0)), (60, 44, (0, 1, 1, 0, 0, 0)), (68, 0, (0, 48, 53, 0, 0, 0)), (68, 1, (0, 48, 53, 0, 0, 0))]), (some (0, -11, -6, 0, 0, 0), [], [(60, 3, (0, 5, 10, 0, 0, 0)), (60, 14, (0, 0, 0, 0, 0, 0)), (60, 17, (0, 0, 0, 0, 0, 0)), (68, 0, (0, 48, 53, 0, 0, 0)), (68, 1, (0, 48, 53, 0, 0, 0)), (68, 2, (0, 48, 53, 0, 0, 0)), (68, 3, (0, 48, 53, 0, 0, 0)), (68, 4, (0, 48, 53, 0, 0, 0))])] := ha
  simp only [List.mem_cons, List.not_mem_nil, or_false] at ha
  rcases ha with rfl | rfl | rfl | rfl | rfl | rfl | rfl | rfl | rfl
  · obtain ⟨z2, e2, r⟩ := gW_int (show gW _ _ from q) (Nat.le_of_ble_eq_true rfl)
    cases e2
    have := gR0 r
    omega
  · obtain ⟨z2, e2, r⟩ := gW_int (show gW _ _ from q) (Nat.le_of_ble_eq_true rfl)
    cases e2
    have := gR0 r
    omega
  · obtain ⟨z2, e2, r⟩ := gW_int (show gW _ _ from q) (Nat.le_of_ble_eq_true rfl)
    cases e2
    have := gR0 r
    omega
  · obtain ⟨z2, e2, r⟩ := gW_int (show gW _ _ from q) (Nat.le_of_ble_eq_true rfl)
    cases e2
    have := gR0 r
    omega
  · obtain ⟨z2, e2, r⟩ := gW_int (show gW _ _ from q) (Nat.le_of_ble_eq_true rfl)
    cases e2
    have := gR0 r
    omega
  · obtain ⟨z2, e2, r⟩ := gW_int (show gW _ _ from q) (Nat.le_of_ble_eq_true rfl)
    cases e2
    have := gR0 r
    omega
  · obtain ⟨z2, e2, r⟩ := gW_int (show gW _ _ from q) (Nat.le_of_ble_eq_true rfl)
    cases e2
    have := gR0 r
    omega
  · obtain ⟨z2, e2, r⟩ := gW_int (show gW _ _ from q) (Nat.le_of_ble_eq_true rfl)
    cases e2
    have := gR0 r
    omega
  · obtain ⟨z2, e2, r⟩ := gW_int (show gW _ _ from q) (Nat.le_of_ble_eq_true rfl)
    cases e2
    have := gR0 r
    omega
theorem q_M_apart_c {d : Nat} (hd : 4 ≤ d) : cOK gAll (xF d) 257 K_566 := ct_of ct_ok (show K_566 ∈ CT.getD 257 [] from (show CT.getD 257 [] = [K_566] from rfl) ▸ by simp) hd
theorem q_M_apart {d : Nat} (hd : 4 ≤ d) {M : pM} (hM : gM gAll M)  : ∃ z M', xF d 257 [.inr 62] M = rI z M' ∧ gM gAll M' ∧ Fr [(60, 16), (60, 17), (69, 999), (74, 999)] M M' ∧ (-4 ≤ z ∧ z ≤ 999999) := by
  obtain ⟨z, M', e, g, f, alt, ha, q, -⟩ := cOK_I (q_M_apart_c hd) (A := [.inr 62]) (show aF2 gW [aRef 62] [.inr 62] from ⟨gW_o, trivial⟩) hM (show gP0 [] M from fun e he => by cases he) rfl
  refine ⟨z, M', e, g, f, ?_⟩
  have ha : alt ∈ [(some (0, -2, -2, 0, 0, 0), [], [(60, 3, (0, 1, 10, 0, 0, 0)), (60, 17, (0, 0, 0, 0, 0, 0)), (60, 44, (0, 1, 1, 0, 0, 0))]), (some (0, -4, -4, 0, 0, 0), [], [(60, 17, (0, 0, 0, 0, 0, 0))]), (some (0, 0, 0, 0, 0, 0), [], [(60, 3, (0, 0, 0, 0, 0, 0)), (60, 16, (0, 1, 1, 0, 0, 0)), (60, 17, (0, 0, 0, 0, 0, 0)), (60, 44, (0, 1, 1, 0, 0, 0)), (69, 0, (0, -2147483648, 2147483647, 0, 0, 0))]), (some (0, 0, 999999, 0, 0, 0), [], [(60, 3, (0, 1, 10, 0, 0, 0)), (60, 16, (0, 1, 1, 0, 0, 0)), (60, 17, (0, 0, 0, 0, 0, 0)), (60, 44, (0, 1, 1, 0, 0, 0)), (69, 0, (0, -2147483648, 2147483647, 0, 0, 0))])] := ha
  simp only [List.mem_cons, List.not_mem_nil, or_false] at ha
  rcases ha with rfl | rfl | rfl | rfl
  · obtain ⟨z2, e2, r⟩ := gW_int (show gW _ _ from q) (Nat.le_of_ble_eq_true rfl)
    cases e2
    have := gR0 r
    omega
  · obtain ⟨z2, e2, r⟩ := gW_int (show gW _ _ from q) (Nat.le_of_ble_eq_true rfl)
    cases e2
    have := gR0 r
    omega
  · obtain ⟨z2, e2, r⟩ := gW_int (show gW _ _ from q) (Nat.le_of_ble_eq_true rfl)
    cases e2
    have := gR0 r
    omega
  · obtain ⟨z2, e2, r⟩ := gW_int (show gW _ _ from q) (Nat.le_of_ble_eq_true rfl)
    cases e2
    have := gR0 r
    omega
theorem q_M_evenings_0_c {d : Nat} (hd : 2 ≤ d) : cOK gAll (xF d) 263 K_577 := ct_of ct_ok (show K_577 ∈ CT.getD 263 [] from (show CT.getD 263 [] = [K_577] from rfl) ▸ by simp) hd
theorem q_M_evenings_0 {d : Nat} (hd : 2 ≤ d) {M : pM} (hM : gM gAll M) (p0 : 0 ≤ M 60 0 ∧ M 60 0 ≤ 0) (p1 : 0 ≤ M 60 3 ∧ M 60 3 ≤ 0) (p2 : 0 ≤ M 60 38 ∧ M 60 38 ≤ 0) : ∃ z M', xF d 263 [.inr 62] M = rI z M' ∧ gM gAll M' ∧ Fr [(60, 16), (60, 17), (69, 999)] M M' ∧ (-4 ≤ z ∧ z ≤ 0) := by
  obtain ⟨z, M', e, g, f, alt, ha, q, -⟩ := cOK_I (q_M_evenings_0_c hd) (A := [.inr 62]) (show aF2 gW [aRef 62] [.inr 62] from ⟨gW_o, trivial⟩) hM (show gP0 [(60, 0, (0, 0, 0, 0, 0, 0)), (60, 3, (0, 0, 0, 0, 0, 0)), (60, 38, (0, 0, 0, 0, 0, 0))] M from fun e he => by
    simp only [List.mem_cons, List.not_mem_nil, or_false] at he
    rcases he with rfl | rfl | rfl
    · exact gR_i p0.1 p0.2
    · exact gR_i p1.1 p1.2
    · exact gR_i p2.1 p2.2) rfl
  refine ⟨z, M', e, g, f, ?_⟩
  have ha : alt ∈ [(some (0, -4, -4, 0, 0, 0), [], [(60, 0, (0, 0, 0, 0, 0, 0)), (60, 3, (0, 0, 0, 0, 0, 0)), (60, 17, (0, 0, 0, 0, 0, 0)), (60, 38, (0, 0, 0, 0, 0, 0))]), (some (0, 0, 0, 0, 0, 0), [], [(60, 0, (0, 0, 0, 0, 0, 0)), (60, 3, (0, 0, 0, 0, 0, 0)), (60, 16, (0, 1, 1, 0, 0, 0)), (60, 17, (0, 0, 0, 0, 0, 0)), (60, 38, (0, 0, 0, 0, 0, 0)), (60, 44, (0, 1, 1, 0, 0, 0)), (69, 0, (0, -2147483648, 2147483647, 0, 0, 0))])] := ha
  simp only [List.mem_cons, List.not_mem_nil, or_false] at ha
  rcases ha with rfl | rfl
  · obtain ⟨z2, e2, r⟩ := gW_int (show gW _ _ from q) (Nat.le_of_ble_eq_true rfl)
    cases e2
    have := gR0 r
    omega
  · obtain ⟨z2, e2, r⟩ := gW_int (show gW _ _ from q) (Nat.le_of_ble_eq_true rfl)
    cases e2
    have := gR0 r
    omega
theorem q_M_weakest_0_c {d : Nat} (hd : 2 ≤ d) : cOK gAll (xF d) 264 K_578 := ct_of ct_ok (show K_578 ∈ CT.getD 264 [] from (show CT.getD 264 [] = [K_578] from rfl) ▸ by simp) hd
theorem q_M_weakest_0 {d : Nat} (hd : 2 ≤ d) {M : pM} (hM : gM gAll M) (p0 : 0 ≤ M 60 0 ∧ M 60 0 ≤ 0) (p1 : 0 ≤ M 60 3 ∧ M 60 3 ≤ 0) (p2 : 0 ≤ M 60 38 ∧ M 60 38 ≤ 0) : ∃ z M', xF d 264 [.inr 62] M = rI z M' ∧ gM gAll M' ∧ Fr [(60, 16), (60, 17), (69, 999)] M M' ∧ (-4 ≤ z ∧ z ≤ 0) := by
  obtain ⟨z, M', e, g, f, alt, ha, q, -⟩ := cOK_I (q_M_weakest_0_c hd) (A := [.inr 62]) (show aF2 gW [aRef 62] [.inr 62] from ⟨gW_o, trivial⟩) hM (show gP0 [(60, 0, (0, 0, 0, 0, 0, 0)), (60, 3, (0, 0, 0, 0, 0, 0)), (60, 38, (0, 0, 0, 0, 0, 0))] M from fun e he => by
    simp only [List.mem_cons, List.not_mem_nil, or_false] at he
    rcases he with rfl | rfl | rfl
    · exact gR_i p0.1 p0.2
    · exact gR_i p1.1 p1.2
    · exact gR_i p2.1 p2.2) rfl
  refine ⟨z, M', e, g, f, ?_⟩
  have ha : alt ∈ [(some (0, -4, -4, 0, 0, 0), [], [(60, 0, (0, 0, 0, 0, 0, 0)), (60, 3, (0, 0, 0, 0, 0, 0)), (60, 17, (0, 0, 0, 0, 0, 0)), (60, 38, (0, 0, 0, 0, 0, 0))]), (some (0, 0, 0, 0, 0, 0), [], [(60, 0, (0, 0, 0, 0, 0, 0)), (60, 3, (0, 0, 0, 0, 0, 0)), (60, 16, (0, 1, 1, 0, 0, 0)), (60, 17, (0, 0, 0, 0, 0, 0)), (60, 38, (0, 0, 0, 0, 0, 0)), (60, 44, (0, 1, 1, 0, 0, 0)), (69, 0, (0, -2147483648, 2147483647, 0, 0, 0))])] := ha
  simp only [List.mem_cons, List.not_mem_nil, or_false] at ha
  rcases ha with rfl | rfl
  · obtain ⟨z2, e2, r⟩ := gW_int (show gW _ _ from q) (Nat.le_of_ble_eq_true rfl)
    cases e2
    have := gR0 r
    omega
  · obtain ⟨z2, e2, r⟩ := gW_int (show gW _ _ from q) (Nat.le_of_ble_eq_true rfl)
    cases e2
    have := gR0 r
    omega
theorem q_M_count_c {d : Nat} (hd : 3 ≤ d) : cOK gAll (xF d) 268 K_569 := ct_of ct_ok (show K_569 ∈ CT.getD 268 [] from (show CT.getD 268 [] = [K_569] from rfl) ▸ by simp) hd
theorem q_M_count {d : Nat} (hd : 3 ≤ d) {M : pM} {a1 : Int} (hM : gM gAll M) (h1 : -2147483648 ≤ a1 ∧ a1 ≤ 2147483647) : ∃ z M', xF d 268 [.inr 62, .inl a1] M = rI z M' ∧ gM gAll M' ∧ Fr [(60, 17)] M M' := by
  obtain ⟨z, M', e, g, f, alt, ha, q, -⟩ := cOK_I (q_M_count_c hd) (A := [.inr 62, .inl a1]) (show aF2 gW [aRef 62, (0, -2147483648, 2147483647, 0, 0, 0)] [.inr 62, .inl a1] from ⟨gW_o, gW_i h1.1 h1.2, trivial⟩) hM (show gP0 [] M from fun e he => by cases he) rfl
  exact ⟨z, M', e, g, f⟩
theorem q_M_row_c {d : Nat} (hd : 2 ≤ d) : cOK gAll (xF d) 269 K_571 := ct_of ct_ok (show K_571 ∈ CT.getD 269 [] from (show CT.getD 269 [] = [K_571] from rfl) ▸ by simp) hd
theorem q_M_row {d : Nat} (hd : 2 ≤ d) {M : pM} {a1 : Int} (hM : gM gAll M) (h1 : -2147483648 ≤ a1 ∧ a1 ≤ 2147483647) : ∃ z M', xF d 269 [.inr 62, .inl a1] M = rI z M' ∧ gM gAll M' ∧ Fr [(60, 17)] M M' := by
  obtain ⟨z, M', e, g, f, alt, ha, q, -⟩ := cOK_I (q_M_row_c hd) (A := [.inr 62, .inl a1]) (show aF2 gW [aRef 62, (0, -2147483648, 2147483647, 0, 0, 0)] [.inr 62, .inl a1] from ⟨gW_o, gW_i h1.1 h1.2, trivial⟩) hM (show gP0 [] M from fun e he => by cases he) rfl
  exact ⟨z, M', e, g, f⟩
