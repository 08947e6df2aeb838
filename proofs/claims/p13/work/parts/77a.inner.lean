/-! contracts of inner calls (by program) -/
theorem v_become_c {d : Nat} (hd : 2 ≤ d) : cOK gAll (xF d) 62 K_158 := ct_of ct_ok (show K_158 ∈ CT.getD 62 [] from (show CT.getD 62 [] = [K_13, K_158] from rfl) ▸ by simp) hd
theorem v_become {d : Nat} (hd : 2 ≤ d) {M : pM} (hM : gM gAll M)  : ∃ M', xF d 62 [.inr 9, .inr 19] M = rV M' ∧ gM gAll M' ∧ Fr [(7, 9), (7, 10), (7, 11), (7, 12), (8, 999), (9, 999), (10, 999), (11, 999), (12, 999), (13, 999), (14, 999), (15, 999), (16, 999)] M M' := by
  obtain ⟨M', e, g, f, -⟩ := cOK_V (v_become_c hd) (A := [.inr 9, .inr 19]) (show aF2 gW [aRef 9, aRef 19] [.inr 9, .inr 19] from ⟨gW_o, gW_o, trivial⟩) hM (show gP0 [] M from fun e he => by cases he) rfl
  exact ⟨M', e, g, f⟩
theorem v_hang_c {d : Nat} (hd : 3 ≤ d) : cOK gAll (xF d) 98 K_164 := ct_of ct_ok (show K_164 ∈ CT.getD 98 [] from (show CT.getD 98 [] = [K_164] from rfl) ▸ by simp) hd
theorem v_hang {d : Nat} (hd : 3 ≤ d) {M : pM} (hM : gM gAll M)  : ∃ M', xF d 98 [.inr 9] M = rV M' ∧ gM gAll M' ∧ Fr [(7, 12), (15, 999), (16, 999)] M M' := by
  obtain ⟨M', e, g, f, -⟩ := cOK_V (v_hang_c hd) (A := [.inr 9]) (show aF2 gW [aRef 9] [.inr 9] from ⟨gW_o, trivial⟩) hM (show gP0 [] M from fun e he => by cases he) rfl
  exact ⟨M', e, g, f⟩
theorem v_law_c {d : Nat} (hd : 5 ≤ d) : cOK gAll (xF d) 91 K_256 := ct_of ct_ok (show K_256 ∈ CT.getD 91 [] from (show CT.getD 91 [] = [K_256, K_272, K_412] from rfl) ▸ by simp) hd
theorem v_law {d : Nat} (hd : 5 ≤ d) {M : pM} (hM : gM gAll M)  : ∃ z M', xF d 91 [.inr 9, .inr 15] M = rI z M' ∧ gM gAll M' ∧ Fr [] M M' ∧ (0 ≤ z ∧ z ≤ 1) := by
  obtain ⟨z, M', e, g, f, alt, ha, q, -⟩ := cOK_I (v_law_c hd) (A := [.inr 9, .inr 15]) (show aF2 gW [aRef 9, aRef 15] [.inr 9, .inr 15] from ⟨gW_o, gW_o, trivial⟩) hM (show gP0 [] M from fun e he => by cases he) rfl
  refine ⟨z, M', e, g, f, ?_⟩
  have ha : alt ∈ [(some (0, 0, 0, 0, 0, 0), [], []), (some (0, 1, 1, 0, 0, 0), [], [])] := ha
  simp only [List.mem_cons, List.not_mem_nil, or_false] at ha
  rcases ha with rfl | rfl
  · obtain ⟨z2, e2, r⟩ := gW_int (show gW _ _ from q) (Nat.le_of_ble_eq_true rfl)
    cases e2
    have := gR0 r
    omega
  · obtain ⟨z2, e2, r⟩ := gW_int (show gW _ _ from q) (Nat.le_of_ble_eq_true rfl)
    cases e2
    have := gR0 r
    omega
theorem v_go_c {d : Nat} (hd : 2 ≤ d) : cOK gAll (xF d) 53 K_243 := ct_of ct_ok (show K_243 ∈ CT.getD 53 [] from (show CT.getD 53 [] = [K_243] from rfl) ▸ by simp) hd
theorem v_go {d : Nat} (hd : 2 ≤ d) {M : pM} (hM : gM gAll M)  : ∃ z M', xF d 53 [.inr 2] M = rI z M' ∧ gM gAll M' ∧ Fr [(0, 15), (0, 16), (39, 3)] M M' ∧ (1 ≤ z ∧ z ≤ 1) := by
  obtain ⟨z, M', e, g, f, alt, ha, q, -⟩ := cOK_I (v_go_c hd) (A := [.inr 2]) (show aF2 gW [aRef 2] [.inr 2] from ⟨gW_o, trivial⟩) hM (show gP0 [] M from fun e he => by cases he) rfl
  refine ⟨z, M', e, g, f, ?_⟩
  have ha : alt ∈ [(some (0, 1, 1, 0, 0, 0), [], [(0, 16, (0, 0, 0, 0, 0, 0)), (39, 3, (0, 0, 0, 0, 0, 0))])] := ha
  simp only [List.mem_cons, List.not_mem_nil, or_false] at ha
  rcases ha with rfl
  · obtain ⟨z2, e2, r⟩ := gW_int (show gW _ _ from q) (Nat.le_of_ble_eq_true rfl)
    cases e2
    have := gR0 r
    omega
theorem v_127_c {d : Nat} (hd : 1 ≤ d) : cOK gAll (xF d) 127 K_241 := ct_of ct_ok (show K_241 ∈ CT.getD 127 [] from (show CT.getD 127 [] = [K_241] from rfl) ▸ by simp) hd
theorem v_127 {d : Nat} (hd : 1 ≤ d) {M : pM} (hM : gM gAll M)  : ∃ M', xF d 127 [.inr 7] M = rV M' ∧ gM gAll M' ∧ Fr [(5, 1)] M M' := by
  obtain ⟨M', e, g, f, -⟩ := cOK_V (v_127_c hd) (A := [.inr 7]) (show aF2 gW [aRef 7] [.inr 7] from ⟨gW_o, trivial⟩) hM (show gP0 [] M from fun e he => by cases he) rfl
  exact ⟨M', e, g, f⟩
theorem v_128_c {d : Nat} (hd : 1 ≤ d) : cOK gAll (xF d) 128 K_257 := ct_of ct_ok (show K_257 ∈ CT.getD 128 [] from (show CT.getD 128 [] = [K_242, K_257] from rfl) ▸ by simp) hd
theorem v_128 {d : Nat} (hd : 1 ≤ d) {M : pM} {a1 : Int} (hM : gM gAll M)  : ∃ M', xF d 128 [.inr 7, .inl a1] M = rV M' ∧ gM gAll M' ∧ Fr [(5, 1), (6, 999)] M M' := by
  obtain ⟨M', e, g, f, -⟩ := cOK_V (v_128_c hd) (A := [.inr 7, .inl a1]) (show aF2 gW [aRef 7, (1, 0, 0, 0, 0, 0)] [.inr 7, .inl a1] from ⟨gW_o, gW_1, trivial⟩) hM (show gP0 [] M from fun e he => by cases he) rfl
  exact ⟨M', e, g, f⟩
theorem v_held_c {d : Nat} (hd : 340 ≤ d) : cOK gAll (xF d) 188 K_463 := ct_of ct_ok (show K_463 ∈ CT.getD 188 [] from (show CT.getD 188 [] = [K_463, K_482] from rfl) ▸ by simp) hd
theorem v_held {d : Nat} (hd : 340 ≤ d) {M : pM} {a1 : Int} (hM : gM gAll M) (h1 : 0 ≤ a1 ∧ a1 ≤ 4) (p0 : 70 ≤ M 60 18 ∧ M 60 18 ≤ 70) (p1 : 40 ≤ M 60 20 ∧ M 60 20 ≤ 40) (p2 : 0 ≤ M 60 21 ∧ M 60 21 ≤ 0) (p3 : -1 ≤ M 60 22 ∧ M 60 22 ≤ -1) : ∃ z M', xF d 188 [.inr 62, .inl a1] M = rI z M' ∧ gM gAll M' ∧ Fr [(60, 21), (60, 22)] M M' := by
  obtain ⟨z, M', e, g, f, alt, ha, q, -⟩ := cOK_I (v_held_c hd) (A := [.inr 62, .inl a1]) (show aF2 gW [aRef 62, (0, 0, 4, 0, 0, 0)] [.inr 62, .inl a1] from ⟨gW_o, gW_i h1.1 h1.2, trivial⟩) hM (show gP0 [(60, 18, (0, 70, 70, 0, 0, 0)), (60, 20, (0, 40, 40, 0, 0, 0)), (60, 21, (0, 0, 0, 0, 0, 0)), (60, 22, (0, -1, -1, 0, 0, 0))] M from fun e he => by
    simp only [List.mem_cons, List.not_mem_nil, or_false] at he
    rcases he with rfl | rfl | rfl | rfl
    · exact gR_i p0.1 p0.2
    · exact gR_i p1.1 p1.2
    · exact gR_i p2.1 p2.2
    · exact gR_i p3.1 p3.2) rfl
  exact ⟨z, M', e, g, f⟩
theorem v_fault_c {d : Nat} (hd : 2 ≤ d) : cOK gAll (xF d) 180 K_465 := ct_of ct_ok (show K_465 ∈ CT.getD 180 [] from (show CT.getD 180 [] = [K_465] from rfl) ▸ by simp) hd
theorem v_fault {d : Nat} (hd : 2 ≤ d) {M : pM} {a1 : Int} (hM : gM gAll M) (h1 : 0 ≤ a1 ∧ a1 ≤ 80) : ∃ M', xF d 180 [.inr 62, .inl a1] M = rV M' ∧ gM gAll M' ∧ Fr [(60, 22)] M M' := by
  obtain ⟨M', e, g, f, -⟩ := cOK_V (v_fault_c hd) (A := [.inr 62, .inl a1]) (show aF2 gW [aRef 62, (0, 0, 80, 0, 0, 0)] [.inr 62, .inl a1] from ⟨gW_o, gW_i h1.1 h1.2, trivial⟩) hM (show gP0 [] M from fun e he => by cases he) rfl
  exact ⟨M', e, g, f⟩
theorem v_copy2_c {d : Nat} (hd : 2 ≤ d) : cOK gAll (xF d) 62 K_13 := ct_of ct_ok (show K_13 ∈ CT.getD 62 [] from (show CT.getD 62 [] = [K_13, K_158] from rfl) ▸ by simp) hd
theorem v_copy2 {d : Nat} (hd : 2 ≤ d) {M : pM} (hM : gM gAll M)  : ∃ M', xF d 62 [.inr 19, .inr 9] M = rV M' ∧ gM gAll M' ∧ Fr [(17, 9), (17, 10), (17, 11), (17, 12), (18, 999), (19, 999), (20, 999), (21, 999), (22, 999), (23, 999), (24, 999), (25, 999), (26, 999)] M M' := by
  obtain ⟨M', e, g, f, -⟩ := cOK_V (v_copy2_c hd) (A := [.inr 19, .inr 9]) (show aF2 gW [aRef 19, aRef 9] [.inr 19, .inr 9] from ⟨gW_o, gW_o, trivial⟩) hM (show gP0 [] M from fun e he => by cases he) rfl
  exact ⟨M', e, g, f⟩
theorem v_read_c {d : Nat} (hd : 7 ≤ d) : cOK gAll (xF d) 107 K_148 := ct_of ct_ok (show K_148 ∈ CT.getD 107 [] from (show CT.getD 107 [] = [K_148] from rfl) ▸ by simp) hd
theorem v_read {d : Nat} (hd : 7 ≤ d) {M : pM} (hM : gM gAll M)  : ∃ z M', xF d 107 [.inr 6, .inr 19] M = rI z M' ∧ gM gAll M' ∧ Fr [(3, 1), (3, 2), (3, 3), (17, 9), (17, 10), (17, 11), (18, 999), (19, 999), (20, 999), (21, 999), (22, 999), (23, 999), (24, 999)] M M' := by
  obtain ⟨z, M', e, g, f, alt, ha, q, -⟩ := cOK_I (v_read_c hd) (A := [.inr 6, .inr 19]) (show aF2 gW [aRef 6, aRef 19] [.inr 6, .inr 19] from ⟨gW_o, gW_o, trivial⟩) hM (show gP0 [] M from fun e he => by cases he) rfl
  exact ⟨z, M', e, g, f⟩
theorem v_rd_c {d : Nat} (hd : 31 ≤ d) : cOK gAll (xF d) 143 K_211 := ct_of ct_ok (show K_211 ∈ CT.getD 143 [] from (show CT.getD 143 [] = [K_211] from rfl) ▸ by simp) hd
theorem v_rd {d : Nat} (hd : 31 ≤ d) {M : pM} (hM : gM gAll M)  : ∃ z M', xF d 143 [.inr 29, .inr 5] M = rI z M' ∧ gM gAll M' ∧ Fr [(3, 1), (3, 2), (3, 3)] M M' ∧ (-1 ≤ z ∧ z ≤ 80) := by
  obtain ⟨z, M', e, g, f, alt, ha, q, -⟩ := cOK_I (v_rd_c hd) (A := [.inr 29, .inr 5]) (show aF2 gW [aRef 29, aRef 5] [.inr 29, .inr 5] from ⟨gW_o, gW_o, trivial⟩) hM (show gP0 [] M from fun e he => by cases he) rfl
  refine ⟨z, M', e, g, f, ?_⟩
  have ha : alt ∈ [(some (0, -1, -1, 0, 0, 0), [], [(3, 2, (0, 0, 40, 0, 0, 0)), (3, 3, (0, -1, -1, 0, 0, 0))]), (some (0, 0, 80, 0, 0, 0), [], [(3, 2, (0, 0, 40, 0, 0, 0))])] := ha
  simp only [List.mem_cons, List.not_mem_nil, or_false] at ha
  rcases ha with rfl | rfl
  · obtain ⟨z2, e2, r⟩ := gW_int (show gW _ _ from q) (Nat.le_of_ble_eq_true rfl)
    cases e2
    have := gR0 r
    omega
  · obtain ⟨z2, e2, r⟩ := gW_int (show gW _ _ from q) (Nat.le_of_ble_eq_true rfl)
    cases e2
    have := gR0 r
    omega
theorem v_rd2_c {d : Nat} (hd : 2 ≤ d) : cOK gAll (xF d) 155 K_213 := ct_of ct_ok (show K_213 ∈ CT.getD 155 [] from (show CT.getD 155 [] = [K_213] from rfl) ▸ by simp) hd
theorem v_rd2 {d : Nat} (hd : 2 ≤ d) {M : pM} (hM : gM gAll M)  : ∃ M', xF d 155 [.inr 30, .inr 3] M = rV M' ∧ gM gAll M' ∧ Fr [(28, 1), (29, 999)] M M' := by
  obtain ⟨M', e, g, f, -⟩ := cOK_V (v_rd2_c hd) (A := [.inr 30, .inr 3]) (show aF2 gW [aRef 30, aRef 3] [.inr 30, .inr 3] from ⟨gW_o, gW_o, trivial⟩) hM (show gP0 [] M from fun e he => by cases he) rfl
  exact ⟨M', e, g, f⟩
theorem v_dayF_c {d : Nat} (hd : 5 ≤ d) : cOK gAll (xF d) 54 K_255 := ct_of ct_ok (show K_255 ∈ CT.getD 54 [] from (show CT.getD 54 [] = [K_255] from rfl) ▸ by simp) hd
theorem v_dayF {d : Nat} (hd : 5 ≤ d) {M : pM} (hM : gM gAll M)  : ∃ z M', xF d 54 [.inr 2] M = rI z M' ∧ gM gAll M' ∧ Fr [(3, 1), (3, 2), (3, 3)] M M' ∧ (-1 ≤ z ∧ z ≤ 80) := by
  obtain ⟨z, M', e, g, f, alt, ha, q, -⟩ := cOK_I (v_dayF_c hd) (A := [.inr 2]) (show aF2 gW [aRef 2] [.inr 2] from ⟨gW_o, trivial⟩) hM (show gP0 [] M from fun e he => by cases he) rfl
  refine ⟨z, M', e, g, f, ?_⟩
  have ha : alt ∈ [(some (0, -1, -1, 0, 0, 0), [], [(3, 2, (0, 0, 40, 0, 0, 0)), (3, 3, (0, -1, -1, 0, 0, 0))]), (some (0, 0, 80, 0, 0, 0), [], [(1, 1, (0, 1, 80, 0, 0, 0)), (3, 2, (0, 0, 40, 0, 0, 0))])] := ha
  simp only [List.mem_cons, List.not_mem_nil, or_false] at ha
  rcases ha with rfl | rfl
  · obtain ⟨z2, e2, r⟩ := gW_int (show gW _ _ from q) (Nat.le_of_ble_eq_true rfl)
    cases e2
    have := gR0 r
    omega
  · obtain ⟨z2, e2, r⟩ := gW_int (show gW _ _ from q) (Nat.le_of_ble_eq_true rfl)
    cases e2
    have := gR0 r
    omega
theorem v_aimF_c {d : Nat} (hd : 4 ≤ d) : cOK gAll (xF d) 56 K_402 := ct_of ct_ok (show K_402 ∈ CT.getD 56 [] from (show CT.getD 56 [] = [K_402] from rfl) ▸ by simp) hd
theorem v_aimF {d : Nat} (hd : 4 ≤ d) {M : pM} (hM : gM gAll M)  : ∃ z M', xF d 56 [.inr 2] M = rI z M' ∧ gM gAll M' ∧ Fr [(3, 1), (3, 2), (3, 3)] M M' ∧ (-1 ≤ z ∧ z ≤ 80) := by
  obtain ⟨z, M', e, g, f, alt, ha, q, -⟩ := cOK_I (v_aimF_c hd) (A := [.inr 2]) (show aF2 gW [aRef 2] [.inr 2] from ⟨gW_o, trivial⟩) hM (show gP0 [] M from fun e he => by cases he) rfl
  refine ⟨z, M', e, g, f, ?_⟩
  have ha : alt ∈ [(some (0, -1, -1, 0, 0, 0), [], [(3, 2, (0, 0, 10, 0, 0, 0)), (3, 3, (0, -1, -1, 0, 0, 0))]), (some (0, 0, 80, 0, 0, 0), [], [(3, 2, (0, 0, 10, 0, 0, 0))])] := ha
  simp only [List.mem_cons, List.not_mem_nil, or_false] at ha
  rcases ha with rfl | rfl
  · obtain ⟨z2, e2, r⟩ := gW_int (show gW _ _ from q) (Nat.le_of_ble_eq_true rfl)
    cases e2
    have := gR0 r
    omega
  · obtain ⟨z2, e2, r⟩ := gW_int (show gW _ _ from q) (Nat.le_of_ble_eq_true rfl)
    cases e2
    have := gR0 r
    omega
theorem v_thIn_c {d : Nat} (hd : 2 ≤ d) : cOK gAll (xF d) 86 K_235 := ct_of ct_ok (show K_235 ∈ CT.getD 86 [] from (show CT.getD 86 [] = [K_235, K_267, K_407, K_417] from rfl) ▸ by simp) hd
theorem v_thIn {d : Nat} (hd : 2 ≤ d) {M : pM} {a1 : Int} (hM : gM gAll M) (h1 : -2147483648 ≤ a1 ∧ a1 ≤ 2147483647) : ∃ z M', xF d 86 [.inr 9, .inl a1, .inr 15] M = rI z M' ∧ gM gAll M' ∧ Fr [] M M' ∧ (0 ≤ z ∧ z ≤ 1023) := by
  obtain ⟨z, M', e, g, f, alt, ha, q, -⟩ := cOK_I (v_thIn_c hd) (A := [.inr 9, .inl a1, .inr 15]) (show aF2 gW [aRef 9, (0, -2147483648, 2147483647, 0, 0, 0), aRef 15] [.inr 9, .inl a1, .inr 15] from ⟨gW_o, gW_i h1.1 h1.2, gW_o, trivial⟩) hM (show gP0 [] M from fun e he => by cases he) rfl
  refine ⟨z, M', e, g, f, ?_⟩
  have ha : alt ∈ [(some (0, 0, 1023, 0, 0, 0), [], [])] := ha
  simp only [List.mem_cons, List.not_mem_nil, or_false] at ha
  rcases ha with rfl
  · obtain ⟨z2, e2, r⟩ := gW_int (show gW _ _ from q) (Nat.le_of_ble_eq_true rfl)
    cases e2
    have := gR0 r
    omega
theorem v_load_c {d : Nat} (hd : 3 ≤ d) : cOK gAll (xF d) 87 K_239 := ct_of ct_ok (show K_239 ∈ CT.getD 87 [] from (show CT.getD 87 [] = [K_239, K_270, K_410, K_418] from rfl) ▸ by simp) hd
theorem v_load {d : Nat} (hd : 3 ≤ d) {M : pM} {a1 : Int} (hM : gM gAll M) (h1 : -2147483648 ≤ a1 ∧ a1 ≤ 2147483647) : ∃ z M', xF d 87 [.inr 9, .inl a1, .inr 15] M = rI z M' ∧ gM gAll M' ∧ Fr [] M M' := by
  obtain ⟨z, M', e, g, f, alt, ha, q, -⟩ := cOK_I (v_load_c hd) (A := [.inr 9, .inl a1, .inr 15]) (show aF2 gW [aRef 9, (0, -2147483648, 2147483647, 0, 0, 0), aRef 15] [.inr 9, .inl a1, .inr 15] from ⟨gW_o, gW_i h1.1 h1.2, gW_o, trivial⟩) hM (show gP0 [] M from fun e he => by cases he) rfl
  exact ⟨z, M', e, g, f⟩
theorem v_next_c {d : Nat} (hd : 4 ≤ d) : cOK gAll (xF d) 77 K_303 := ct_of ct_ok (show K_303 ∈ CT.getD 77 [] from (show CT.getD 77 [] = [K_303] from rfl) ▸ by simp) hd
theorem v_next {d : Nat} (hd : 4 ≤ d) {M : pM} {a1 : Int} {a2 : Int} (hM : gM gAll M) (h1 : -2147483648 ≤ a1 ∧ a1 ≤ 2147483647) (h2 : -2147483648 ≤ a2 ∧ a2 ≤ 2147483647) : ∃ z M', xF d 77 [.inr 9, .inl a1, .inl a2] M = rI z M' ∧ gM gAll M' ∧ Fr [] M M' ∧ (0 ≤ z ∧ z ≤ 63) := by
  obtain ⟨z, M', e, g, f, alt, ha, q, -⟩ := cOK_I (v_next_c hd) (A := [.inr 9, .inl a1, .inl a2]) (show aF2 gW [aRef 9, (0, -2147483648, 2147483647, 0, 0, 0), (0, -2147483648, 2147483647, 0, 0, 0)] [.inr 9, .inl a1, .inl a2] from ⟨gW_o, gW_i h1.1 h1.2, gW_i h2.1 h2.2, trivial⟩) hM (show gP0 [] M from fun e he => by cases he) rfl
  refine ⟨z, M', e, g, f, ?_⟩
  have ha : alt ∈ [(some (0, 0, 63, 0, 0, 0), [], [])] := ha
  simp only [List.mem_cons, List.not_mem_nil, or_false] at ha
  rcases ha with rfl
  · obtain ⟨z2, e2, r⟩ := gW_int (show gW _ _ from q) (Nat.le_of_ble_eq_true rfl)
    cases e2
    have := gR0 r
    omega
theorem v_sets_c {d : Nat} (hd : 2 ≤ d) : cOK gAll (xF d) 93 K_301 := ct_of ct_ok (show K_301 ∈ CT.getD 93 [] from (show CT.getD 93 [] = [K_301] from rfl) ▸ by simp) hd
theorem v_sets {d : Nat} (hd : 2 ≤ d) {M : pM} {a1 : Int} (hM : gM gAll M) (h1 : -2147483648 ≤ a1 ∧ a1 ≤ 2147483647) : ∃ z M', xF d 93 [.inr 9, .inl a1] M = rI z M' ∧ gM gAll M' ∧ Fr [] M M' ∧ (0 ≤ z ∧ z ≤ 255) := by
  obtain ⟨z, M', e, g, f, alt, ha, q, -⟩ := cOK_I (v_sets_c hd) (A := [.inr 9, .inl a1]) (show aF2 gW [aRef 9, (0, -2147483648, 2147483647, 0, 0, 0)] [.inr 9, .inl a1] from ⟨gW_o, gW_i h1.1 h1.2, trivial⟩) hM (show gP0 [] M from fun e he => by cases he) rfl
  refine ⟨z, M', e, g, f, ?_⟩
  have ha : alt ∈ [(some (0, 0, 255, 0, 0, 0), [], [])] := ha
  simp only [List.mem_cons, List.not_mem_nil, or_false] at ha
  rcases ha with rfl
  · obtain ⟨z2, e2, r⟩ := gW_int (show gW _ _ from q) (Nat.le_of_ble_eq_true rfl)
    cases e2
    have := gR0 r
    omega
theorem v_val_c {d : Nat} (hd : 31 ≤ d) : cOK gAll (xF d) 144 K_364 := ct_of ct_ok (show K_364 ∈ CT.getD 144 [] from (show CT.getD 144 [] = [K_364] from rfl) ▸ by simp) hd
theorem v_val {d : Nat} (hd : 31 ≤ d) {M : pM} {a2 : Int} {a3 : Int} (hM : gM gAll M) (h2 : -2147483648 ≤ a2 ∧ a2 ≤ 2147483647) (h3 : -2147483648 ≤ a3 ∧ a3 ≤ 2147483647) : ∃ z M', xF d 144 [.inr 29, .inr 9, .inl a2, .inl a3] M = rI z M' ∧ gM gAll M' ∧ Fr [(30, 1), (30, 2), (30, 3), (31, 999)] M M' ∧ (-999 ≤ z ∧ z ≤ 999) := by
  obtain ⟨z, M', e, g, f, alt, ha, q, -⟩ := cOK_I (v_val_c hd) (A := [.inr 29, .inr 9, .inl a2, .inl a3]) (show aF2 gW [aRef 29, aRef 9, (0, -2147483648, 2147483647, 0, 0, 0), (0, -2147483648, 2147483647, 0, 0, 0)] [.inr 29, .inr 9, .inl a2, .inl a3] from ⟨gW_o, gW_o, gW_i h2.1 h2.2, gW_i h3.1 h3.2, trivial⟩) hM (show gP0 [] M from fun e he => by cases he) rfl
  refine ⟨z, M', e, g, f, ?_⟩
  have ha : alt ∈ [(some (0, 0, 0, 0, 0, 0), [], []), (some (0, 1, 1, 0, 0, 0), [(4, 0, 0, 0, 0, 0), (4, 0, 0, 0, 0, 0), (0, 0, 9, 0, 0, 0), (0, 0, 5, 0, 0, 0)], [(7, 9, (0, 1, 6, 0, 0, 0)), (7, 10, (0, 1, 10, 0, 0, 0)), (28, 1, (0, 1, 80, 0, 0, 0)), (30, 2, (0, 1, 40, 0, 0, 0)), (31, 0, (0, 0, 9, 0, 0, 0)), (31, 1, (0, 0, 99, 0, 0, 0)), (31, 2, (0, 0, 9, 0, 0, 0)), (31, 3, (0, 0, 9, 0, 0, 0)), (31, 4, (0, 0, 63, 0, 0, 0)), (31, 5, (0, 0, 5, 0, 0, 0)), (31, 6, (0, -1, 99, 0, 0, 0)), (31, 7, (0, 0, 63, 0, 0, 0)), (31, 8, (0, 0, 1, 0, 0, 0))]), (some (0, -999, 999, 0, 0, 0), [(4, 0, 0, 0, 0, 0), (4, 0, 0, 0, 0, 0), (0, 0, 9, 0, 0, 0), (0, 0, 5, 0, 0, 0)], [(7, 9, (0, 1, 6, 0, 0, 0)), (7, 10, (0, 1, 10, 0, 0, 0)), (28, 1, (0, 1, 80, 0, 0, 0)), (30, 2, (0, 0, 40, 0, 0, 0)), (31, 0, (0, 0, 9, 0, 0, 0)), (31, 1, (0, 0, 99, 0, 0, 0)), (31, 2, (0, 0, 9, 0, 0, 0)), (31, 3, (0, 0, 9, 0, 0, 0)), (31, 4, (0, 0, 63, 0, 0, 0)), (31, 5, (0, 0, 5, 0, 0, 0)), (31, 6, (0, -1, 99, 0, 0, 0)), (31, 7, (0, 0, 63, 0, 0, 0)), (31, 8, (0, 0, 1, 0, 0, 0))])] := ha
  simp only [List.mem_cons, List.not_mem_nil, or_false] at ha
  rcases ha with rfl | rfl | rfl
  · obtain ⟨z2, e2, r⟩ := gW_int (show gW _ _ from q) (Nat.le_of_ble_eq_true rfl)
    cases e2
    have := gR0 r
    omega
  · obtain ⟨z2, e2, r⟩ := gW_int (show gW _ _ from q) (Nat.le_of_ble_eq_true rfl)
    cases e2
    have := gR0 r
    omega
  · obtain ⟨z2, e2, r⟩ := gW_int (show gW _ _ from q) (Nat.le_of_ble_eq_true rfl)
    cases e2
    have := gR0 r
    omega
theorem v_at_c {d : Nat} (hd : 2 ≤ d) : cOK gAll (xF d) 154 K_259 := ct_of ct_ok (show K_259 ∈ CT.getD 154 [] from (show CT.getD 154 [] = [K_259] from rfl) ▸ by simp) hd
theorem v_at {d : Nat} (hd : 2 ≤ d) {M : pM} {a1 : Int} (hM : gM gAll M) (h1 : -2147483648 ≤ a1 ∧ a1 ≤ 2147483647) : ∃ z M', xF d 154 [.inr 3, .inl a1] M = rI z M' ∧ gM gAll M' ∧ Fr [] M M' ∧ (-1 ≤ z ∧ z ≤ 255) := by
  obtain ⟨z, M', e, g, f, alt, ha, q, -⟩ := cOK_I (v_at_c hd) (A := [.inr 3, .inl a1]) (show aF2 gW [aRef 3, (0, -2147483648, 2147483647, 0, 0, 0)] [.inr 3, .inl a1] from ⟨gW_o, gW_i h1.1 h1.2, trivial⟩) hM (show gP0 [] M from fun e he => by cases he) rfl
  refine ⟨z, M', e, g, f, ?_⟩
  have ha : alt ∈ [(some (0, -1, -1, 0, 0, 0), [], []), (some (0, 0, 0, 0, 0, 0), [(4, 0, 0, 0, 0, 0), (0, 0, 79, 0, 0, 0)], [(1, 1, (0, 1, 80, 0, 0, 0))]), (some (0, 0, 255, 0, 0, 0), [(4, 0, 0, 0, 0, 0), (0, 0, 79, 0, 0, 0)], [(1, 1, (0, 1, 80, 0, 0, 0))])] := ha
  simp only [List.mem_cons, List.not_mem_nil, or_false] at ha
  rcases ha with rfl | rfl | rfl
  · obtain ⟨z2, e2, r⟩ := gW_int (show gW _ _ from q) (Nat.le_of_ble_eq_true rfl)
    cases e2
    have := gR0 r
    omega
  · obtain ⟨z2, e2, r⟩ := gW_int (show gW _ _ from q) (Nat.le_of_ble_eq_true rfl)
    cases e2
    have := gR0 r
    omega
  · obtain ⟨z2, e2, r⟩ := gW_int (show gW _ _ from q) (Nat.le_of_ble_eq_true rfl)
    cases e2
    have := gR0 r
    omega
theorem v_carry_c {d : Nat} (hd : 6 ≤ d) : cOK gAll (xF d) 11 K_234 := ct_of ct_ok (show K_234 ∈ CT.getD 11 [] from (show CT.getD 11 [] = [K_234] from rfl) ▸ by simp) hd
theorem v_carry {d : Nat} (hd : 6 ≤ d) {M : pM} {a1 : Int} {a2 : Int} (hM : gM gAll M) (h1 : -2147483648 ≤ a1 ∧ a1 ≤ 2147483647) (h2 : -2147483648 ≤ a2 ∧ a2 ≤ 2147483647) : ∃ z M', xF d 11 [.inr 2, .inl a1, .inl a2] M = rI z M' ∧ gM gAll M' ∧ Fr [(0, 16), (13, 999), (39, 3), (40, 999), (41, 999), (42, 999)] M M' ∧ (-3 ≤ z ∧ z ≤ 45) := by
  obtain ⟨z, M', e, g, f, alt, ha, q, -⟩ := cOK_I (v_carry_c hd) (A := [.inr 2, .inl a1, .inl a2]) (show aF2 gW [aRef 2, (0, -2147483648, 2147483647, 0, 0, 0), (0, -2147483648, 2147483647, 0, 0, 0)] [.inr 2, .inl a1, .inl a2] from ⟨gW_o, gW_i h1.1 h1.2, gW_i h2.1 h2.2, trivial⟩) hM (show gP0 [] M from fun e he => by cases he) rfl
  refine ⟨z, M', e, g, f, ?_⟩
  have ha : alt ∈ [(some (0, -1, -1, 0, 0, 0), [], []), (some (0, -2, -2, 0, 0, 0), [(4, 0, 0, 0, 0, 0), (0, 0, 9, 0, 0, 0), (0, 0, 5, 0, 0, 0)], [(7, 9, (0, 1, 6, 0, 0, 0)), (7, 10, (0, 1, 10, 0, 0, 0))]), (some (0, -3, -3, 0, 0, 0), [(4, 0, 0, 0, 0, 0), (0, 0, 9, 0, 0, 0), (0, 0, 5, 0, 0, 0)], [(7, 9, (0, 1, 6, 0, 0, 0)), (7, 10, (0, 1, 10, 0, 0, 0))]), (some (0, 0, 45, 0, 0, 0), [(4, 0, 0, 0, 0, 0), (0, 0, 9, 0, 0, 0), (0, 0, 5, 0, 0, 0)], [(7, 9, (0, 1, 6, 0, 0, 0)), (7, 10, (0, 1, 10, 0, 0, 0))])] := ha
  simp only [List.mem_cons, List.not_mem_nil, or_false] at ha
  rcases ha with rfl | rfl | rfl | rfl
  · obtain ⟨z2, e2, r⟩ := gW_int (show gW _ _ from q) (Nat.le_of_ble_eq_true rfl)
    cases e2
    have := gR0 r
    omega
  · obtain ⟨z2, e2, r⟩ := gW_int (show gW _ _ from q) (Nat.le_of_ble_eq_true rfl)
    cases e2
    have := gR0 r
    omega
  · obtain ⟨z2, e2, r⟩ := gW_int (show gW _ _ from q) (Nat.le_of_ble_eq_true rfl)
    cases e2
    have := gR0 r
    omega
  · obtain ⟨z2, e2, r⟩ := gW_int (show gW _ _ from q) (Nat.le_of_ble_eq_true rfl)
    cases e2
    have := gR0 r
    omega
theorem v_cost_c {d : Nat} (hd : 3 ≤ d) : cOK gAll (xF d) 209 K_524 := ct_of ct_ok (show K_524 ∈ CT.getD 209 [] from (show CT.getD 209 [] = [K_524, K_561, K_591] from rfl) ▸ by simp) hd
theorem v_cost {d : Nat} (hd : 3 ≤ d) {M : pM} {a2 : Int} {a4 : Int} (hM : gM gAll M) (h2 : 0 ≤ a2 ∧ a2 ≤ 0) (h4 : 0 ≤ a4 ∧ a4 ≤ 0) : ∃ z M', xF d 209 [.inr 62, .inr 68, .inl a2, .inr 80, .inl a4] M = rI z M' ∧ gM gAll M' ∧ Fr [(74, 999)] M M' ∧ (0 ≤ z ∧ z ≤ 89999910) := by
  obtain ⟨z, M', e, g, f, alt, ha, q, -⟩ := cOK_I (v_cost_c hd) (A := [.inr 62, .inr 68, .inl a2, .inr 80, .inl a4]) (show aF2 gW [aRef 62, aRef 68, (0, 0, 0, 0, 0, 0), aRef 80, (0, 0, 0, 0, 0, 0)] [.inr 62, .inr 68, .inl a2, .inr 80, .inl a4] from ⟨gW_o, gW_o, gW_i h2.1 h2.2, gW_o, gW_i h4.1 h4.2, trivial⟩) hM (show gP0 [] M from fun e he => by cases he) rfl
  refine ⟨z, M', e, g, f, ?_⟩
  have ha : alt ∈ [(some (0, 0, 0, 0, 0, 0), [], [(60, 3, (0, 0, 0, 0, 0, 0))]), (some (0, 0, 89999910, 0, 0, 0), [], [(60, 3, (0, 1, 10, 0, 0, 0))])] := ha
  simp only [List.mem_cons, List.not_mem_nil, or_false] at ha
  rcases ha with rfl | rfl
  · obtain ⟨z2, e2, r⟩ := gW_int (show gW _ _ from q) (Nat.le_of_ble_eq_true rfl)
    cases e2
    have := gR0 r
    omega
  · obtain ⟨z2, e2, r⟩ := gW_int (show gW _ _ from q) (Nat.le_of_ble_eq_true rfl)
    cases e2
    have := gR0 r
    omega
