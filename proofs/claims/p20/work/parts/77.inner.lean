section
/-! contracts of inner calls (by program) -/
theorem v_become_c {d : Nat} (hd : 2 ≤ d) : cOK gAll (xF d) 62 K_158 := ct_of ct_ok (show K_158 ∈ CT.get 62 from (show CT.get 62 = [K_13, K_158] from rfl) ▸ by simp) hd
theorem v_become {d : Nat} (hd : 2 ≤ d) {M : pM} (hM : gM gAll M)  : ∃ M', xF d 62 [.inr 9, .inr 19] M = rV M' ∧ gM gAll M' ∧ Fr [(7, 9), (7, 10), (7, 11), (7, 12), (8, 999), (9, 999), (10, 999), (11, 999), (12, 999), (13, 999), (14, 999), (15, 999), (16, 999)] M M' := by
  obtain ⟨M', e, g, f, -⟩ := cOK_V (v_become_c hd) (A := [.inr 9, .inr 19]) (show aF2 gW [aRef 9, aRef 19] [.inr 9, .inr 19] from ⟨gW_o, gW_o, trivial⟩) hM (show gP0 [] M from fun e he => by cases he) rfl
  exact ⟨M', e, g, f⟩
theorem v_hang_c {d : Nat} (hd : 3 ≤ d) : cOK gAll (xF d) 98 K_164 := ct_of ct_ok (show K_164 ∈ CT.get 98 from (show CT.get 98 = [K_164] from rfl) ▸ by simp) hd
theorem v_hang {d : Nat} (hd : 3 ≤ d) {M : pM} (hM : gM gAll M)  : ∃ M', xF d 98 [.inr 9] M = rV M' ∧ gM gAll M' ∧ Fr [(7, 12), (15, 999), (16, 999)] M M' := by
  obtain ⟨M', e, g, f, -⟩ := cOK_V (v_hang_c hd) (A := [.inr 9]) (show aF2 gW [aRef 9] [.inr 9] from ⟨gW_o, trivial⟩) hM (show gP0 [] M from fun e he => by cases he) rfl
  exact ⟨M', e, g, f⟩
theorem v_law_c {d : Nat} (hd : 5 ≤ d) : cOK gAll (xF d) 91 K_256 := ct_of ct_ok (show K_256 ∈ CT.get 91 from (show CT.get 91 = [K_256, K_272, K_412] from rfl) ▸ by simp) hd
theorem v_law {d : Nat} (hd : 5 ≤ d) {M : pM} (hM : gM gAll M)  : ∃ z M', xF d 91 [.inr 9, .inr 15] M = rI z M' ∧ gM gAll M' ∧ Fr [] M M' ∧ (0 ≤ z ∧ z ≤ 1) := by
  obtain ⟨z, M', e, g, f, alt, ha, q, -⟩ := cOK_I (v_law_c hd) (A := [.inr 9, .inr 15]) (show aF2 gW [aRef 9, aRef 15] [.inr 9, .inr 15] from ⟨gW_o, gW_o, trivial⟩) hM (show gP0 [] M from fun e he => by cases he) rfl
  refine ⟨z, M', e, g, f, ?_⟩
  have ha : alt ∈ [(some (0, 0, 0, 0, 0, 0), [], []), (some (0, 1, 1, 0, 0, 0), [], [])] := ha
  simp only [List.mem_cons, List.not_mem_nil, or_false] at ha
  rcases ha with rfl | rfl
  · obtain ⟨z2, e2, r⟩ := gW_int (show gW _ _ from q) (Nat.le_of_ble_eq_true rfl)
    cases e2
    have := gR0 r
    omega
  · obtain ⟨z2, e2, r⟩ := gW_int (show gW _ _ from q) (Nat.le_of_ble_eq_true rfl)
    cases e2
    have := gR0 r
    omega
theorem v_go_c {d : Nat} (hd : 2 ≤ d) : cOK gAll (xF d) 53 K_243 := ct_of ct_ok (show K_243 ∈ CT.get 53 from (show CT.get 53 = [K_243] from rfl) ▸ by simp) hd
theorem v_go {d : Nat} (hd : 2 ≤ d) {M : pM} (hM : gM gAll M)  : ∃ z M', xF d 53 [.inr 2] M = rI z M' ∧ gM gAll M' ∧ Fr [(0, 15), (0, 16), (39, 3)] M M' ∧ (1 ≤ z ∧ z ≤ 1) := by
  obtain ⟨z, M', e, g, f, alt, ha, q, -⟩ := cOK_I (v_go_c hd) (A := [.inr 2]) (show aF2 gW [aRef 2] [.inr 2] from ⟨gW_o, trivial⟩) hM (show gP0 [] M from fun e he => by cases he) rfl
  refine ⟨z, M', e, g, f, ?_⟩
  have ha : alt ∈ [(some (0, 1, 1, 0, 0, 0), [], [(0, 16, (0, 0, 0, 0, 0, 0)), (39, 3, (0, 0, 0, 0, 0, 0))])] := ha
  simp only [List.mem_cons, List.not_mem_nil, or_false] at ha
  rcases ha with rfl
  · obtain ⟨z2, e2, r⟩ := gW_int (show gW _ _ from q) (Nat.le_of_ble_eq_true rfl)
    cases e2
    have := gR0 r
    omega
theorem v_127_c {d : Nat} (hd : 1 ≤ d) : cOK gAll (xF d) 127 K_241 := ct_of ct_ok (show K_241 ∈ CT.get 127 from (show CT.get 127 = [K_241] from rfl) ▸ by simp) hd
theorem v_127 {d : Nat} (hd : 1 ≤ d) {M : pM} (hM : gM gAll M)  : ∃ M', xF d 127 [.inr 7] M = rV M' ∧ gM gAll M' ∧ Fr [(5, 1)] M M' := by
  obtain ⟨M', e, g, f, -⟩ := cOK_V (v_127_c hd) (A := [.inr 7]) (show aF2 gW [aRef 7] [.inr 7] from ⟨gW_o, trivial⟩) hM (show gP0 [] M from fun e he => by cases he) rfl
  exact ⟨M', e, g, f⟩
theorem v_128_c {d : Nat} (hd : 1 ≤ d) : cOK gAll (xF d) 128 K_257 := ct_of ct_ok (show K_257 ∈ CT.get 128 from (show CT.get 128 = [K_242, K_257] from rfl) ▸ by simp) hd
theorem v_128 {d : Nat} (hd : 1 ≤ d) {M : pM} {a1 : Int} (hM : gM gAll M)  : ∃ M', xF d 128 [.inr 7, .inl a1] M = rV M' ∧ gM gAll M' ∧ Fr [(5, 1), (6, 999)] M M' := by
  obtain ⟨M', e, g, f, -⟩ := cOK_V (v_128_c hd) (A := [.inr 7, .inl a1]) (show aF2 gW [aRef 7, (1, 0, 0, 0, 0, 0)] [.inr 7, .inl a1] from ⟨gW_o, gW_1, trivial⟩) hM (show gP0 [] M from fun e he => by cases he) rfl
  exact ⟨M', e, g, f⟩
theorem v_held_c {d : Nat} (hd : 340 ≤ d) : cOK gAll (xF d) 188 K_463 := ct_of ct_ok (show K_463 ∈ CT.get 188 from (show CT.get 188 = [K_463, K_482] from rfl) ▸ by simp) hd
theorem v_held {d : Nat} (hd : 340 ≤ d) {M : pM} {a1 : Int} (hM : gM gAll M) (h1 : 0 ≤ a1 ∧ a1 ≤ 4) (p0 : 70 ≤ M 60 18 ∧ M 60 18 ≤ 70) (p1 : 40 ≤ M 60 20 ∧ M 60 20 ≤ 40) (p2 : 0 ≤ M 60 21 ∧ M 60 21 ≤ 0) (p3 : -1 ≤ M 60 22 ∧ M 60 22 ≤ -1) : ∃ z M', xF d 188 [.inr 62, .inl a1] M = rI z M' ∧ gM gAll M' ∧ Fr [(60, 21), (60, 22)] M M' := by
  obtain ⟨z, M', e, g, f, alt, ha, q, -⟩ := cOK_I (v_held_c hd) (A := [.inr 62, .inl a1]) (show aF2 gW [aRef 62, (0, 0, 4, 0, 0, 0)] [.inr 62, .inl a1] from ⟨gW_o, gW_i h1.1 h1.2, trivial⟩) hM (show gP0 [(60, 18, (0, 70, 70, 0, 0, 0)), (60, 20, (0, 40, 40, 0, 0, 0)), (60, 21, (0, 0, 0, 0, 0, 0)), (60, 22, (0, -1, -1, 0, 0, 0))] M from fun e he => by
    simp only [List.mem_cons, List.not_mem_nil, or_false] at he
    rcases he with rfl | rfl | rfl | rfl
    · exact gR_i p0.1 p0.2
    · exact gR_i p1.1 p1.2
    · exact gR_i p2.1 p2.2
    · exact gR_i p3.1 p3.2) rfl
  exact ⟨z, M', e, g, f⟩
theorem v_fault_c {d : Nat} (hd : 2 ≤ d) : cOK gAll (xF d) 180 K_465 := ct_of ct_ok (show K_465 ∈ CT.get 180 from (show CT.get 180 = [K_465] from rfl) ▸ by simp) hd
theorem v_fault {d : Nat} (hd : 2 ≤ d) {M : pM} {a1 : Int} (hM : gM gAll M) (h1 : 0 ≤ a1 ∧ a1 ≤ 80) : ∃ M', xF d 180 [.inr 62, .inl a1] M = rV M' ∧ gM gAll M' ∧ Fr [(60, 22)] M M' := by
  obtain ⟨M', e, g, f, -⟩ := cOK_V (v_fault_c hd) (A := [.inr 62, .inl a1]) (show aF2 gW [aRef 62, (0, 0, 80, 0, 0, 0)] [.inr 62, .inl a1] from ⟨gW_o, gW_i h1.1 h1.2, trivial⟩) hM (show gP0 [] M from fun e he => by cases he) rfl
  exact ⟨M', e, g, f⟩
theorem v_copy2_c {d : Nat} (hd : 2 ≤ d) : cOK gAll (xF d) 62 K_13 := ct_of ct_ok (show K_13 ∈ CT.get 62 from (show CT.get 62 = [K_13, K_158] from rfl) ▸ by simp) hd
theorem v_copy2 {d : Nat} (hd : 2 ≤ d) {M : pM} (hM : gM gAll M)  : ∃ M', xF d 62 [.inr 19, .inr 9] M = rV M' ∧ gM gAll M' ∧ Fr [(17, 9), (17, 10), (17, 11), (17, 12), (18, 999), (19, 999), (20, 999), (21, 999), (22, 999), (23, 999), (24, 999), (25, 999), (26, 999)] M M' := by
  obtain ⟨M', e, g, f, -⟩ := cOK_V (v_copy2_c hd) (A := [.inr 19, .inr 9]) (show aF2 gW [aRef 19, aRef 9] [.inr 19, .inr 9] from ⟨gW_o, gW_o, trivial⟩) hM (show gP0 [] M from fun e he => by cases he) rfl
  exact ⟨M', e, g, f⟩
theorem v_read_c {d : Nat} (hd : 7 ≤ d) : cOK gAll (xF d) 107 K_148 := ct_of ct_ok (show K_148 ∈ CT.get 107 from (show CT.get 107 = [K_148] from rfl) ▸ by simp) hd
theorem v_read {d : Nat} (hd : 7 ≤ d) {M : pM} (hM : gM gAll M)  : ∃ z M', xF d 107 [.inr 6, .inr 19] M = rI z M' ∧ gM gAll M' ∧ Fr [(3, 1), (3, 2), (3, 3), (17, 9), (17, 10), (17, 11), (18, 999), (19, 999), (20, 999), (21, 999), (22, 999), (23, 999), (24, 999)] M M' := by
  obtain ⟨z, M', e, g, f, alt, ha, q, -⟩ := cOK_I (v_read_c hd) (A := [.inr 6, .inr 19]) (show aF2 gW [aRef 6, aRef 19] [.inr 6, .inr 19] from ⟨gW_o, gW_o, trivial⟩) hM (show gP0 [] M from fun e he => by cases he) rfl
  exact ⟨z, M', e, g, f⟩
theorem v_rd_c {d : Nat} (hd : 31 ≤ d) : cOK gAll (xF d) 143 K_211 := ct_of ct_ok (show K_211 ∈ CT.get 143 from (show CT.get 143 = [K_211] from rfl) ▸ by simp) hd
theorem v_rd {d : Nat} (hd : 31 ≤ d) {M : pM} (hM : gM gAll M)  : ∃ z M', xF d 143 [.inr 29, .inr 5] M = rI z M' ∧ gM gAll M' ∧ Fr [(3, 1), (3, 2), (3, 3)] M M' ∧ (-1 ≤ z ∧ z ≤ 80) := by
  obtain ⟨z, M', e, g, f, alt, ha, q, -⟩ := cOK_I (v_rd_c hd) (A := [.inr 29, .inr 5]) (show aF2 gW [aRef 29, aRef 5] [.inr 29, .inr 5] from ⟨gW_o, gW_o, trivial⟩) hM (show gP0 [] M from fun e he => by cases he) rfl
  refine ⟨z, M', e, g, f, ?_⟩
  have ha : alt ∈ [(some (0, -1, -1, 0, 0, 0), [], [(3, 2, (0, 0, 40, 0, 0, 0)), (3, 3, (0, -1, -1, 0, 0, 0))]), (some (0, 0, 80, 0, 0, 0), [], [(3, 2, (0, 0, 40, 0, 0, 0))])] := ha
  simp only [List.mem_cons, List.not_mem_nil, or_false] at ha
  rcases ha with rfl | rfl
  · obtain ⟨z2, e2, r⟩ := gW_int (show gW _ _ from q) (Nat.le_of_ble_eq_true rfl)
    cases e2
    have := gR0 r
    omega
  · obtain ⟨z2, e2, r⟩ := gW_int (show gW _ _ from q) (Nat.le_of_ble_eq_true rfl)
    cases e2
    have := gR0 r
    omega
theorem v_rd2_c {d : Nat} (hd : 2 ≤ d) : cOK gAll (xF d) 155 K_213 := ct_of ct_ok (show K_213 ∈ CT.get 155 from (show CT.get 155 = [K_213] from rfl) ▸ by simp) hd
theorem v_rd2 {d : Nat} (hd : 2 ≤ d) {M : pM} (hM : gM gAll M)  : ∃ M', xF d 155 [.inr 30, .inr 3] M = rV M' ∧ gM gAll M' ∧ Fr [(28, 1), (29, 999)] M M' := by
  obtain ⟨M', e, g, f, -⟩ := cOK_V (v_rd2_c hd) (A := [.inr 30, .inr 3]) (show aF2 gW [aRef 30, aRef 3] [.inr 30, .inr 3] from ⟨gW_o, gW_o, trivial⟩) hM (show gP0 [] M from fun e he => by cases he) rfl
  exact ⟨M', e, g, f⟩
theorem v_dayF_c {d : Nat} (hd : 5 ≤ d) : cOK gAll (xF d) 54 K_255 := ct_of ct_ok (show K_255 ∈ CT.get 54 from (show CT.get 54 = [K_255] from rfl) ▸ by simp) hd
theorem v_dayF {d : Nat} (hd : 5 ≤ d) {M : pM} (hM : gM gAll M)  : ∃ z M', xF d 54 [.inr 2] M = rI z M' ∧ gM gAll M' ∧ Fr [(3, 1), (3, 2), (3, 3)] M M' ∧ (-1 ≤ z ∧ z ≤ 80) := by
  obtain ⟨z, M', e, g, f, alt, ha, q, -⟩ := cOK_I (v_dayF_c hd) (A := [.inr 2]) (show aF2 gW [aRef 2] [.inr 2] from ⟨gW_o, trivial⟩) hM (show gP0 [] M from fun e he => by cases he) rfl
  refine ⟨z, M', e, g, f, ?_⟩
  have ha : alt ∈ [(some (0, -1, -1, 0, 0, 0), [], [(3, 2, (0, 0, 40, 0, 0, 0)), (3, 3, (0, -1, -1, 0, 0, 0))]), (some (0, 0, 80, 0, 0, 0), [], [(1, 1, (0, 1, 80, 0, 0, 0)), (3, 2, (0, 0, 40, 0, 0, 0))])] := ha
  simp only [List.mem_cons, List.not_mem_nil, or_false] at ha
  rcases ha with rfl | rfl
  · obtain ⟨z2, e2, r⟩ := gW_int (show gW _ _ from q) (Nat.le_of_ble_eq_true rfl)
    cases e2
    have := gR0 r
    omega
  · obtain ⟨z2, e2, r⟩ := gW_int (show gW _ _ from q) (Nat.le_of_ble_eq_true rfl)
    cases e2
    have := gR0 r
    omega
theorem v_thIn_c {d : Nat} (hd : 2 ≤ d) : cOK gAll (xF d) 86 K_235 := ct_of ct_ok (show K_235 ∈ CT.get 86 from (show CT.get 86 = [K_235, K_267, K_407, K_417] from rfl) ▸ by simp) hd
theorem v_thIn {d : Nat} (hd : 2 ≤ d) {M : pM} {a1 : Int} (hM : gM gAll M) (h1 : -2147483648 ≤ a1 ∧ a1 ≤ 2147483647) : ∃ z M', xF d 86 [.inr 9, .inl a1, .inr 15] M = rI z M' ∧ gM gAll M' ∧ Fr [] M M' ∧ (0 ≤ z ∧ z ≤ 1023) := by
  obtain ⟨z, M', e, g, f, alt, ha, q, -⟩ := cOK_I (v_thIn_c hd) (A := [.inr 9, .inl a1, .inr 15]) (show aF2 gW [aRef 9, (0, -2147483648, 2147483647, 0, 0, 0), aRef 15] [.inr 9, .inl a1, .inr 15] from ⟨gW_o, gW_i h1.1 h1.2, gW_o, trivial⟩) hM (show gP0 [] M from fun e he => by cases he) rfl
  refine ⟨z, M', e, g, f, ?_⟩
  have ha : alt ∈ [(some (0, 0, 1023, 0, 0, 0), [], [])] := ha
  simp only [List.mem_cons, List.not_mem_nil, or_false] at ha
  rcases ha with rfl
  · obtain ⟨z2, e2, r⟩ := gW_int (show gW _ _ from q) (Nat.le_of_ble_eq_true rfl)
    cases e2
    have := gR0 r
    omega
theorem v_load_c {d : Nat} (hd : 3 ≤ d) : cOK gAll (xF d) 87 K_239 := ct_of ct_ok (show K_239 ∈ CT.get 87 from (show CT.get 87 = [K_239, K_270, K_410, K_418] from rfl) ▸ by simp) hd
theorem v_load {d : Nat} (hd : 3 ≤ d) {M : pM} {a1 : Int} (hM : gM gAll M) (h1 : -2147483648 ≤ a1 ∧ a1 ≤ 2147483647) : ∃ z M', xF d 87 [.inr 9, .inl a1, .inr 15] M = rI z M' ∧ gM gAll M' ∧ Fr [] M M' := by
  obtain ⟨z, M', e, g, f, alt, ha, q, -⟩ := cOK_I (v_load_c hd) (A := [.inr 9, .inl a1, .inr 15]) (show aF2 gW [aRef 9, (0, -2147483648, 2147483647, 0, 0, 0), aRef 15] [.inr 9, .inl a1, .inr 15] from ⟨gW_o, gW_i h1.1 h1.2, gW_o, trivial⟩) hM (show gP0 [] M from fun e he => by cases he) rfl
  exact ⟨z, M', e, g, f⟩
theorem v_next_c {d : Nat} (hd : 4 ≤ d) : cOK gAll (xF d) 77 K_303 := ct_of ct_ok (show K_303 ∈ CT.get 77 from (show CT.get 77 = [K_303] from rfl) ▸ by simp) hd
theorem v_next {d : Nat} (hd : 4 ≤ d) {M : pM} {a1 : Int} {a2 : Int} (hM : gM gAll M) (h1 : -2147483648 ≤ a1 ∧ a1 ≤ 2147483647) (h2 : -2147483648 ≤ a2 ∧ a2 ≤ 2147483647) : ∃ z M', xF d 77 [.inr 9, .inl a1, .inl a2] M = rI z M' ∧ gM gAll M' ∧ Fr [] M M' ∧ (0 ≤ z ∧ z ≤ 63) := by
  obtain ⟨z, M', e, g, f, alt, ha, q, -⟩ := cOK_I (v_next_c hd) (A := [.inr 9, .inl a1, .inl a2]) (show aF2 gW [aRef 9, (0, -2147483648, 2147483647, 0, 0, 0), (0, -2147483648, 2147483647, 0, 0, 0)] [.inr 9, .inl a1, .inl a2] from ⟨gW_o, gW_i h1.1 h1.2, gW_i h2.1 h2.2, trivial⟩) hM (show gP0 [] M from fun e he => by cases he) rfl
  refine ⟨z, M', e, g, f, ?_⟩
  have ha : alt ∈ [(some (0, 0, 63, 0, 0, 0), [], [])] := ha
  simp only [List.mem_cons, List.not_mem_nil, or_false] at ha
  rcases ha with rfl
  · obtain ⟨z2, e2, r⟩ := gW_int (show gW _ _ from q) (Nat.le_of_ble_eq_true rfl)
    cases e2
    have := gR0 r
    omega
theorem v_sets_c {d : Nat} (hd : 2 ≤ d) : cOK gAll (xF d) 93 K_301 := ct_of ct_ok (show K_301 ∈ CT.get 93 from (show CT.get 93 = [K_301] from rfl) ▸ by simp) hd
theorem v_sets {d : Nat} (hd : 2 ≤ d) {M : pM} {a1 : Int} (hM : gM gAll M) (h1 : -2147483648 ≤ a1 ∧ a1 ≤ 2147483647) : ∃ z M', xF d 93 [.inr 9, .inl a1] M = rI z M' ∧ gM gAll M' ∧ Fr [] M M' ∧ (0 ≤ z ∧ z ≤ 255) := by
  obtain ⟨z, M', e, g, f, alt, ha, q, -⟩ := cOK_I (v_sets_c hd) (A := [.inr 9, .inl a1]) (show aF2 gW [aRef 9, (0, -2147483648, 2147483647, 0, 0, 0)] [.inr 9, .inl a1] from ⟨gW_o, gW_i h1.1 h1.2, trivial⟩) hM (show gP0 [] M from fun e he => by cases he) rfl
  refine ⟨z, M', e, g, f, ?_⟩
  have ha : alt ∈ [(some (0, 0, 255, 0, 0, 0), [], [])] := ha
  simp only [List.mem_cons, List.not_mem_nil, or_false] at ha
  rcases ha with rfl
  · obtain ⟨z2, e2, r⟩ := gW_int (show gW _ _ from q) (Nat.le_of_ble_eq_true rfl)
    cases e2
    have := gR0 r
    omega
theorem v_val_c {d : Nat} (hd : 31 ≤ d) : cOK gAll (xF d) 144 K_364 := ct_of ct_ok (show K_364 ∈ CT.get 144 from (show CT.get 144 = [K_364] from rfl) ▸ by simp) hd
theorem v_val {d : Nat} (hd : 31 ≤ d) {M : pM} {a2 : Int} {a3 : Int} (hM : gM gAll M) (h2 : -2147483648 ≤ a2 ∧ a2 ≤ 2147483647) (h3 : -2147483648 ≤ a3 ∧ a3 ≤ 2147483647) : ∃ z M', xF d 144 [.inr 29, .inr 9, .inl a2, .inl a3] M = rI z M' ∧ gM gAll M' ∧ Fr [(30, 1), (30, 2), (30, 3), (31, 999)] M M' ∧ (-999 ≤ z ∧ z ≤ 999) := by
  obtain ⟨z, M', e, g, f, alt, ha, q, -⟩ := cOK_I (v_val_c hd) (A := [.inr 29, .inr 9, .inl a2, .inl a3]) (show aF2 gW [aRef 29, aRef 9, (0, -2147483648, 2147483647, 0, 0, 0), (0, -2147483648, 2147483647, 0, 0, 0)] [.inr 29, .inr 9, .inl a2, .inl a3] from ⟨gW_o, gW_o, gW_i h2.1 h2.2, gW_i h3.1 h3.2, trivial⟩) hM (show gP0 [] M from fun e he => by cases he) rfl
  refine ⟨z, M', e, g, f, ?_⟩
  have ha : alt ∈ [(some (0, 0, 0, 0, 0, 0), [], []), (some (0, 1, 1, 0, 0, 0), [(4, 0, 0, 0, 0, 0), (4, 0, 0, 0, 0, 0), (0, 0, 9, 0, 0, 0), (0, 0, 5, 0, 0, 0)], [(7, 9, (0, 1, 6, 0, 0, 0)), (7, 10, (0, 1, 10, 0, 0, 0)), (28, 1, (0, 1, 80, 0, 0, 0)), (30, 2, (0, 1, 40, 0, 0, 0)), (31, 0, (0, 0, 9, 0, 0, 0)), (31, 1, (0, 0, 99, 0, 0, 0)), (31, 2, (0, 0, 9, 0, 0, 0)), (31, 3, (0, 0, 9, 0, 0, 0)), (31, 4, (0, 0, 63, 0, 0, 0)), (31, 5, (0, 0, 5, 0, 0, 0)), (31, 6, (0, -1, 99, 0, 0, 0)), (31, 7, (0, 0, 63, 0, 0, 0)), (31, 8, (0, 0, 1, 0, 0, 0))]), (some (0, -999, 999, 0, 0, 0), [(4, 0, 0, 0, 0, 0), (4, 0, 0, 0, 0, 0), (0, 0, 9, 0, 0, 0), (0, 0, 5, 0, 0, 0)], [(7, 9, (0, 1, 6, 0, 0, 0)), (7, 10, (0, 1, 10, 0, 0, 0)), (28, 1, (0, 1, 80, 0, 0, 0)), (30, 2, (0, 0, 40, 0, 0, 0)), (31, 0, (0, 0, 9, 0, 0, 0)), (31, 1, (0, 0, 99, 0, 0, 0)), (31, 2, (0, 0, 9, 0, 0, 0)), (31, 3, (0, 0, 9, 0, 0, 0)), (31, 4, (0, 0, 63, 0, 0, 0)), (31, 5, (0, 0, 5, 0, 0, 0)), (31, 6, (0, -1, 99, 0, 0, 0)), (31, 7, (0, 0, 63, 0, 0, 0)), (31, 8, (0, 0, 1, 0, 0, 0))])] := ha
  simp only [List.mem_cons, List.not_mem_nil, or_false] at ha
  rcases ha with rfl | rfl | rfl
  · obtain ⟨z2, e2, r⟩ := gW_int (show gW _ _ from q) (Nat.le_of_ble_eq_true rfl)
    cases e2
    have := gR0 r
    omega
  · obtain ⟨z2, e2, r⟩ := gW_int (show gW _ _ from q) (Nat.le_of_ble_eq_true rfl)
    cases e2
    have := gR0 r
    omega
  · obtain ⟨z2, e2, r⟩ := gW_int (show gW _ _ from q) (Nat.le_of_ble_eq_true rfl)
    cases e2
    have := gR0 r
    omega
theorem v_at_c {d : Nat} (hd : 2 ≤ d) : cOK gAll (xF d) 154 K_259 := ct_of ct_ok (show K_259 ∈ CT.get 154 from (show CT.get 154 = [K_259] from rfl) ▸ by simp) hd
theorem v_at {d : Nat} (hd : 2 ≤ d) {M : pM} {a1 : Int} (hM : gM gAll M) (h1 : -2147483648 ≤ a1 ∧ a1 ≤ 2147483647) : ∃ z M', xF d 154 [.inr 3, .inl a1] M = rI z M' ∧ gM gAll M' ∧ Fr [] M M' ∧ (-1 ≤ z ∧ z ≤ 255) := by
  obtain ⟨z, M', e, g, f, alt, ha, q, -⟩ := cOK_I (v_at_c hd) (A := [.inr 3, .inl a1]) (show aF2 gW [aRef 3, (0, -2147483648, 2147483647, 0, 0, 0)] [.inr 3, .inl a1] from ⟨gW_o, gW_i h1.1 h1.2, trivial⟩) hM (show gP0 [] M from fun e he => by cases he) rfl
  refine ⟨z, M', e, g, f, ?_⟩
  have ha : alt ∈ [(some (0, -1, -1, 0, 0, 0), [], []), (some (0, 0, 0, 0, 0, 0), [(4, 0, 0, 0, 0, 0), (0, 0, 79, 0, 0, 0)], [(1, 1, (0, 1, 80, 0, 0, 0))]), (some (0, 0, 255, 0, 0, 0), [(4, 0, 0, 0, 0, 0), (0, 0, 79, 0, 0, 0)], [(1, 1, (0, 1, 80, 0, 0, 0))])] := ha
  simp only [List.mem_cons, List.not_mem_nil, or_false] at ha
  rcases ha with rfl | rfl | rfl
  · obtain ⟨z2, e2, r⟩ := gW_int (show gW _ _ from q) (Nat.le_of_ble_eq_true rfl)
    cases e2
    have := gR0 r
    omega
  · obtain ⟨z2, e2, r⟩ := gW_int (show gW _ _ from q) (Nat.le_of_ble_eq_true rfl)
    cases e2
    have := gR0 r
    omega
  · obtain ⟨z2, e2, r⟩ := gW_int (show gW _ _ from q) (Nat.le_of_ble_eq_true rfl)
    cases e2
    have := gR0 r
    omega
theorem v_carry_c {d : Nat} (hd : 6 ≤ d) : cOK gAll (xF d) 11 K_234 := ct_of ct_ok (show K_234 ∈ CT.get 11 from (show CT.get 11 = [K_234] from rfl) ▸ by simp) hd
theorem v_carry {d : Nat} (hd : 6 ≤ d) {M : pM} {a1 : Int} {a2 : Int} (hM : gM gAll M) (h1 : -2147483648 ≤ a1 ∧ a1 ≤ 2147483647) (h2 : -2147483648 ≤ a2 ∧ a2 ≤ 2147483647) : ∃ z M', xF d 11 [.inr 2, .inl a1, .inl a2] M = rI z M' ∧ gM gAll M' ∧ Fr [(0, 16), (13, 999), (39, 3), (40, 999), (41, 999), (42, 999)] M M' ∧ (-3 ≤ z ∧ z ≤ 45) := by
  obtain ⟨z, M', e, g, f, alt, ha, q, -⟩ := cOK_I (v_carry_c hd) (A := [.inr 2, .inl a1, .inl a2]) (show aF2 gW [aRef 2, (0, -2147483648, 2147483647, 0, 0, 0), (0, -2147483648, 2147483647, 0, 0, 0)] [.inr 2, .inl a1, .inl a2] from ⟨gW_o, gW_i h1.1 h1.2, gW_i h2.1 h2.2, trivial⟩) hM (show gP0 [] M from fun e he => by cases he) rfl
  refine ⟨z, M', e, g, f, ?_⟩
  have ha : alt ∈ [(some (0, -1, -1, 0, 0, 0), [], []), (some (0, -2, -2, 0, 0, 0), [(4, 0, 0, 0, 0, 0), (0, 0, 9, 0, 0, 0), (0, 0, 5, 0, 0, 0)], [(7, 9, (0, 1, 6, 0, 0, 0)), (7, 10, (0, 1, 10, 0, 0, 0))]), (some (0, -3, -3, 0, 0, 0), [(4, 0, 0, 0, 0, 0), (0, 0, 9, 0, 0, 0), (0, 0, 5, 0, 0, 0)], [(7, 9, (0, 1, 6, 0, 0, 0)), (7, 10, (0, 1, 10, 0, 0, 0))]), (some (0, 0, 45, 0, 0, 0), [(4, 0, 0, 0, 0, 0), (0, 0, 9, 0, 0, 0), (0, 0, 5, 0, 0, 0)], [(7, 9, (0, 1, 6, 0, 0, 0)), (7, 10, (0, 1, 10, 0, 0, 0))])] := ha
  simp only [List.mem_cons, List.not_mem_nil, or_false] at ha
  rcases ha with rfl | rfl | rfl | rfl
  · obtain ⟨z2, e2, r⟩ := gW_int (show gW _ _ from q) (Nat.le_of_ble_eq_true rfl)
    cases e2
    have := gR0 r
    omega
  · obtain ⟨z2, e2, r⟩ := gW_int (show gW _ _ from q) (Nat.le_of_ble_eq_true rfl)
    cases e2
    have := gR0 r
    omega
  · obtain ⟨z2, e2, r⟩ := gW_int (show gW _ _ from q) (Nat.le_of_ble_eq_true rfl)
    cases e2
    have := gR0 r
    omega
  · obtain ⟨z2, e2, r⟩ := gW_int (show gW _ _ from q) (Nat.le_of_ble_eq_true rfl)
    cases e2
    have := gR0 r
    omega
theorem v_cost_c {d : Nat} (hd : 3 ≤ d) : cOK gAll (xF d) 209 K_524 := ct_of ct_ok (show K_524 ∈ CT.get 209 from (show CT.get 209 = [K_524, K_561, K_591] from rfl) ▸ by simp) hd
theorem v_cost {d : Nat} (hd : 3 ≤ d) {M : pM} {a2 : Int} {a4 : Int} (hM : gM gAll M) (h2 : 0 ≤ a2 ∧ a2 ≤ 0) (h4 : 0 ≤ a4 ∧ a4 ≤ 0) : ∃ z M', xF d 209 [.inr 62, .inr 68, .inl a2, .inr 80, .inl a4] M = rI z M' ∧ gM gAll M' ∧ Fr [(74, 999)] M M' ∧ (0 ≤ z ∧ z ≤ 89999910) := by
  obtain ⟨z, M', e, g, f, alt, ha, q, -⟩ := cOK_I (v_cost_c hd) (A := [.inr 62, .inr 68, .inl a2, .inr 80, .inl a4]) (show aF2 gW [aRef 62, aRef 68, (0, 0, 0, 0, 0, 0), aRef 80, (0, 0, 0, 0, 0, 0)] [.inr 62, .inr 68, .inl a2, .inr 80, .inl a4] from ⟨gW_o, gW_o, gW_i h2.1 h2.2, gW_o, gW_i h4.1 h4.2, trivial⟩) hM (show gP0 [] M from fun e he => by cases he) rfl
  refine ⟨z, M', e, g, f, ?_⟩
  have ha : alt ∈ [(some (0, 0, 0, 0, 0, 0), [], [(60, 3, (0, 0, 0, 0, 0, 0))]), (some (0, 0, 89999910, 0, 0, 0), [], [(60, 3, (0, 1, 10, 0, 0, 0))])] := ha
  simp only [List.mem_cons, List.not_mem_nil, or_false] at ha
  rcases ha with rfl | rfl
  · obtain ⟨z2, e2, r⟩ := gW_int (show gW _ _ from q) (Nat.le_of_ble_eq_true rfl)
    cases e2
    have := gR0 r
    omega
  · obtain ⟨z2, e2, r⟩ := gW_int (show gW _ _ from q) (Nat.le_of_ble_eq_true rfl)
    cases e2
    have := gR0 r
    omega
end
section
/-! signs come behind the text, on both sides -/
def sgX (b : Int) (k : Nat) : Int := jand (jushr b (24 + -8 * (k : Int))) 255
def sgM (b : Int) (k : Nat) : Int := jb (jb (jshr b (8 * (3 + -1 * (k : Int)))))
/-- the text of object t (its length at place p of object q) with k signs more -/
def tapp (M : pM) (q p t L : Nat) (s : Nat → Int) (k : Nat) : pM := fun o i => if o = t ∧ L ≤ i ∧ i < L + k then s (i - L) else if o = q ∧ i = p then ((L + k : Nat) : Int) else M o i
theorem tapp_len {M : pM} {q p t L : Nat} {s : Nat → Int} {k : Nat} (h : q ≠ t) : tapp M q p t L s k q p = ((L + k : Nat) : Int) := by
  unfold tapp
  rw [if_neg (fun z => h z.1), if_pos ⟨rfl, rfl⟩]
theorem tapp_zero {M : pM} {q p t L : Nat} {s : Nat → Int} (hL : M q p = L) : tapp M q p t L s 0 = M := by
  funext o i
  unfold tapp
  rw [if_neg (by omega)]
  by_cases h : o = q ∧ i = p
  · rw [if_pos h, h.1, h.2, hL]; rfl
  · rw [if_neg h]
theorem tapp_succ {M : pM} {q p t L : Nat} {s : Nat → Int} {k : Nat} (h : q ≠ t) : pset (pset (tapp M q p t L s k) t (L + k) (s k)) q p (((L + k : Nat) : Int) + 1) = tapp M q p t L s (k + 1) := by
  funext o i
  unfold pset tapp
  by_cases h1 : o = q ∧ i = p
  · rw [if_pos h1, if_neg (fun z => h (h1.1.symm.trans z.1)), if_pos h1]; rfl
  · rw [if_neg h1]
    by_cases h2 : o = t ∧ i = L + k
    · rw [if_pos h2, if_pos ⟨h2.1, by omega, by omega⟩, h2.2, Nat.add_sub_cancel_left]
    · rw [if_neg h2]
      by_cases h3 : o = t ∧ L ≤ i ∧ i < L + k
      · rw [if_pos h3, if_pos ⟨h3.1, h3.2.1, by omega⟩]
      · rw [if_neg h3, if_neg h1]
        by_cases h4 : o = t ∧ L ≤ i ∧ i < L + (k + 1)
        · exact absurd ⟨h4.1, by omega⟩ h2
        · rw [if_neg h4, if_neg h1]
theorem tapp_succ' {M : pM} {q p t L : Nat} {s : Nat → Int} {k : Nat} (h : q ≠ t) : pset (pset (tapp M q p t L s k) q p (((L + k : Nat) : Int) + 1)) t (L + k) (s k) = tapp M q p t L s (k + 1) := by
  rw [← tapp_succ h]
  funext o i
  unfold pset
  by_cases h1 : o = t ∧ i = L + k
  · rw [if_pos h1, if_neg (fun z => h (z.1.symm.trans h1.1)), if_pos h1]
  · rw [if_neg h1]
    by_cases h2 : o = q ∧ i = p
    · rw [if_pos h2, if_pos h2]
    · rw [if_neg h2, if_neg h2, if_neg h1]
theorem c_append {d : Nat} (hd : 1 ≤ d) {M : pM} {L : Nat} (hL : M 1 1 = L) (h8 : L ≤ 80) {b : Int} : xF d 152 [.inr 3, .inl b] M = if L + 4 ≤ 80 then rI 1 (tapp M 1 1 2 L (sgX b) 4) else rI 0 M := by
  obtain ⟨D, rfl, -⟩ := dsucc hd
  rw [T_Text_append, hL, if_neg (by rw [lt32_iff] <;> omega)]
  by_cases h4 : L + 4 ≤ 80
  · rw [if_pos (by rw [le32_iff] <;> omega), if_pos h4]
    have key : ∀ m k : Nat, k + m = 4 → xE D 152 13 [.inr 3, .inl b, .inl (24 + -8 * (k : Int))] [] (tapp M 1 1 2 L (sgX b) k) = rI 1 (tapp M 1 1 2 L (sgX b) 4) := by
      intro m
      induction m with
      | zero =>
        intro k hk
        have hk : k = 4 := by omega
        subst hk
        rw [L_Text_append_13, if_pos (by decide)]
      | succ m ih =>
        intro k hk
        rw [L_Text_append_13, if_neg (by rw [lt32_iff] <;> omega), tapp_len (by decide), if_pos (by omega), Int.toNat_natCast, pset_ne (o := 2) (o' := 1) (by decide), tapp_len (by decide)]
        rw [show jand (jushr b (24 + -8 * (k : Int))) 255 = sgX b k from rfl, tapp_succ (by decide), show 24 + -8 * (k : Int) + -8 = 24 + -8 * ((k + 1 : Nat) : Int) by omega]
        exact ih (k + 1) (by omega)
    have h := key 4 0 rfl
    rw [tapp_zero hL] at h
    exact h
  · rw [if_neg (by rw [le32_iff] <;> omega), if_neg h4]
theorem c_sign {d : Nat} (hd : 2 ≤ d) {M : pM} {L : Nat} (hL : M 1 1 = L) (h8 : L ≤ 80) {b : Int} : xF d 0 [.inr 2, .inl b] M = if L + 4 ≤ 80 then rI ((L + 4 : Nat) : Int) (tapp M 1 1 2 L (sgX b) 4) else rI (-1) M := by
  obtain ⟨D, rfl, hD⟩ := dsucc hd
  rw [T_X_sign, c_append hD hL h8]
  by_cases h4 : L + 4 ≤ 80
  · rw [if_pos h4, if_pos h4, pbI_rI, if_neg (by decide), tapp_len (by decide)]
  · rw [if_neg h4, if_neg h4, pbI_rI, if_pos (by decide)]
theorem m_sign {d : Nat} (hd : 1 ≤ d) {M : pM} {L : Nat} (hL : M 60 14 = L) (h8 : L ≤ 80) {b : Int} : xF d 175 [.inr 62, .inl b] M = if L + 4 ≤ 80 then rI ((L + 4 : Nat) : Int) (tapp (pset M 60 17 0) 60 14 68 L (sgM b) 4) else rI (-1) (pset M 60 17 0) := by
  obtain ⟨D, rfl, -⟩ := dsucc hd
  have hL2 : pset M 60 17 0 60 14 = L := by rw [pset_ne2 (by decide), hL]
  rw [T_M_sign, hL2]
  by_cases h4 : L + 4 ≤ 80
  · rw [if_pos (by rw [le32_iff] <;> omega), if_pos h4]
    generalize hM : pset M 60 17 0 = M9 at hL2 ⊢
    have key : ∀ m k : Nat, k + m = 4 → xE D 175 13 [.inr 62, .inl b, .inl (3 + -1 * (k : Int))] [] (tapp M9 60 14 68 L (sgM b) k) = rI ((L + 4 : Nat) : Int) (tapp M9 60 14 68 L (sgM b) 4) := by
      intro m
      induction m with
      | zero =>
        intro k hk
        have hk : k = 4 := by omega
        subst hk
        rw [L_M_sign_13, if_pos (by decide), tapp_len (by decide)]
      | succ m ih =>
        intro k hk
        rw [L_M_sign_13, if_neg (by rw [lt32_iff] <;> omega), tapp_len (by decide), if_pos (by omega), Int.toNat_natCast]
        rw [show jb (jb (jshr b (8 * (3 + -1 * (k : Int))))) = sgM b k from rfl, tapp_succ' (by decide), show 3 + -1 * (k : Int) + -1 = 3 + -1 * ((k + 1 : Nat) : Int) by omega]
        exact ih (k + 1) (by omega)
    have h := key 4 0 rfl
    rw [tapp_zero hL2] at h
    exact h
  · rw [if_neg (by rw [le32_iff] <;> omega), if_neg h4]
end
section
/-! who reads the text leaves it empty, on both sides -/
section TX
variable {D d : Nat} {M M' : pM}
theorem x_cut (hd : 1 ≤ d) {b : Int} (h1 : -2147483648 ≤ b) (h2 : b < 2147483648) (hM : gM gAll M) : xF d 153 [.inr 3, .inl b] M = if 0 ≤ b ∧ b ≤ M 1 1 then rI 1 (pset M 1 1 b) else rI 0 M := by
  obtain ⟨D, rfl, -⟩ := dsucc hd
  have r := gm_i hM 1 1 (lo := 0) (hi := 80) (by decide +kernel) (by decide +kernel)
  rw [T_Text_cut]
  by_cases q : b < 0
  · rw [if_pos (by rw [lt32_iff] <;> omega), if_neg (by omega)]
  · rw [if_neg (by rw [lt32_iff] <;> omega)]
    by_cases q2 : b ≤ M 1 1
    · rw [if_pos (by rw [le32_iff] <;> omega), if_pos (by omega)]
    · rw [if_neg (by rw [le32_iff] <;> omega), if_neg (by omega)]
theorem x_cut0 (hd : 1 ≤ d) (hM : gM gAll M) : xF d 153 [.inr 3, .inl 0] M = rI 1 (pset M 1 1 0) ∧ gM gAll (pset M 1 1 0) := by
  have r := gm_i hM 1 1 (lo := 0) (hi := 80) (by decide +kernel) (by decide +kernel)
  exact ⟨by rw [x_cut hd (by decide) (by decide) hM, if_pos (by omega)], gM_f hM (lo := 0) (hi := 80) (by decide +kernel) (by decide) (by decide)⟩
theorem rI_inj {a b : Int} {M1 M2 : pM} (h : (rI a M1 : Option pR) = rI b M2) : a = b ∧ M1 = M2 := by
  cases h; exact ⟨rfl, rfl⟩
theorem t_X_house {d : Nat} (hd : 8 ≤ d) (hM : gM gAll M) {z : Int} (e : xF d 2 [.inr 2] M = rI z M') : M' 1 1 = 0 := by
  obtain ⟨D, rfl, hD⟩ := dsucc hd
  have r := gm_i hM 1 1 (lo := 0) (hi := 80) (by decide +kernel) (by decide +kernel)
  rw [T_X_house] at e
  by_cases q : eq32 (M 1 1) 0
  · rw [if_neg (fun y => y q)] at e
    rw [← (rI_inj e).2]
    rw [eq32_iff (by omega) (by omega) (by omega) (by omega)] at q
    exact q
  · obtain ⟨M1, e1, g1, -⟩ := v_copy2 (d := D) (by omega) hM
    obtain ⟨v, M2, e2, g2, -⟩ := v_read (d := D) (by omega) g1
    obtain ⟨e3, g3⟩ := x_cut0 (d := D) (by omega) g2
    rw [if_pos q, e1, pbN_rV, e2, pbI_rI, e3, pbI_rI] at e
    by_cases q2 : lt32 v 0
    · rw [if_pos q2] at e
      rw [← (rI_inj e).2, pset_eq]
    · obtain ⟨M4, e4, g4, f4⟩ := v_become (d := D) (by omega) g3
      obtain ⟨M5, e5, g5, f5⟩ := v_hang (d := D) (by omega) g4
      obtain ⟨D', rfl, -⟩ := dsucc (show 1 ≤ D by omega)
      rw [if_neg q2, e4, pbN_rV, e5, pbN_rV, T_Past_forget, pbN_rV] at e
      rw [← (rI_inj e).2, pset_ne (by decide), f5 1 1 (by decide), f4 1 1 (by decide), pset_eq]
theorem t_X_rule {d : Nat} (hd : 32 ≤ d) (hM : gM gAll M) {z : Int} (e : xF d 3 [.inr 2] M = rI z M') : M' 1 1 = 0 := by
  obtain ⟨D, rfl, hD⟩ := dsucc hd
  obtain ⟨v, M1, e1, g1, -⟩ := v_rd (d := D) (by omega) hM
  rw [T_X_rule, e1, pbI_rI] at e
  by_cases q : eq32 v (-1)
  · obtain ⟨M2, e2, g2, -⟩ := v_rd2 (d := D) (by omega) g1
    rw [if_neg (fun y => y q), e2, pbN_rV, (x_cut0 (d := D) (by omega) g2).1, pbI_rI, if_neg (fun y => y q)] at e
    rw [← (rI_inj e).2, pset_eq]
  · rw [if_pos q, (x_cut0 (d := D) (by omega) g1).1, pbI_rI, if_pos q] at e
    rw [← (rI_inj e).2, pset_eq]
/-- the end of day -/
theorem x_dayT (hD : 5 ≤ D) (hM : gM gAll M) (h0 : M 1 1 = 0) (x2 x3 x4 : Int) : ∃ z M', (if le32 x2 x4 then
 (pbI (xF D 91 [.inr 9, .inr 15] M) fun v4 M3 =>
 if eq32 v4 0 then
 (pbN (xF D 127 [.inr 7] M3) fun M5 =>
 pbN (xF D 128 [.inr 7, .inl 0] M5) fun M6 =>
 pbN (xF D 128 [.inr 7, .inl x3] M6) fun M7 =>
 some (some (.inl x4), M7))
 else
 (pbI (xF D 53 [.inr 2] M3) fun v9 M8 =>
 pbN (xF D 127 [.inr 7] M8) fun M10 =>
 pbN (xF D 128 [.inr 7, .inl v9] M10) fun M11 =>
 pbN (xF D 128 [.inr 7, .inl x3] M11) fun M12 =>
 some (some (.inl x4), M12)))
 else
 (pbN (xF D 127 [.inr 7] M) fun M13 =>
 pbN (xF D 128 [.inr 7, .inl (-1)] M13) fun M14 =>
 pbN (xF D 128 [.inr 7, .inl x3] M14) fun M15 =>
 some (some (.inl x4), M15)) : Option pR) = rI z M' ∧ M' 1 1 = 0 := by
  have fin : ∀ (M : pM) (v : Int), gM gAll M → M 1 1 = 0 → ∃ z M', (pbN (xF D 127 [.inr 7] M) fun M13 => pbN (xF D 128 [.inr 7, .inl v] M13) fun M14 => pbN (xF D 128 [.inr 7, .inl x3] M14) fun M15 => some (some (.inl x4), M15) : Option pR) = rI z M' ∧ M' 1 1 = 0 := fun M v hM h0 => by
    obtain ⟨M1, e1, g1, f1⟩ := v_127 (d := D) (by omega) hM
    obtain ⟨M2, e2, g2, f2⟩ := v_128 (d := D) (by omega) (a1 := v) g1
    obtain ⟨M3, e3, g3, f3⟩ := v_128 (d := D) (by omega) (a1 := x3) g2
    rw [e1, pbN_rV, e2, pbN_rV, e3, pbN_rV]
    exact ⟨_, M3, rfl, by rw [f3 1 1 (by decide), f2 1 1 (by decide), f1 1 1 (by decide)]; exact h0⟩
  by_cases q : le32 x2 x4
  · obtain ⟨v, M1, e1, g1, f1, -⟩ := v_law (d := D) (by omega) hM
    have k1 : M1 1 1 = 0 := by rw [f1 1 1 (by decide)]; exact h0
    rw [if_pos q, e1, pbI_rI]
    by_cases q2 : eq32 v 0
    · rw [if_pos q2]; exact fin M1 0 g1 k1
    · obtain ⟨w, M2, e2, g2, f2, -⟩ := v_go (d := D) (by omega) g1
      rw [if_neg q2, e2, pbI_rI]
      exact fin M2 w g2 (by rw [f2 1 1 (by decide)]; exact k1)
  · rw [if_neg q]; exact fin M (-1) hM h0
theorem x_day29 (hD : 6 ≤ D) {n : Nat} (hn : n ≤ 20) (x1 : Int) : ∀ (m k : Nat) (x3 x4 : Int) (y : pV) (M : pM), k + m = n → gM gAll M → ∃ z M', xE D 13 29 [.inr 2, .inl x1, .inl (n : Int), .inl x3, .inl x4, .inl (k : Int), y] [] M = rI z M' ∧ M' 1 1 = 0 := by
  intro m
  induction m with
  | zero =>
    intro k x3 x4 y M hk hM
    obtain ⟨e0, g0⟩ := x_cut0 (d := D) (by omega) hM
    rw [L_X_day_29, if_pos (by rw [le32_iff] <;> omega), e0, pbI_rI]
    exact x_dayT (by omega) g0 pset_eq _ _ _
  | succ m ih =>
    intro k x3 x4 y M hk hM
    obtain ⟨v, M1, e1, g1, -, b1⟩ := v_at (d := D) (by omega) (a1 := (k : Int) * 4) hM ⟨by omega, by omega⟩
    obtain ⟨w, M2, e2, g2, -, b2⟩ := v_at (d := D) (by omega) (a1 := (k : Int) * 4 + 2) g1 ⟨by omega, by omega⟩
    obtain ⟨u, M3, e3, g3, -⟩ := v_carry (d := D) (by omega) (a1 := v - 97) (a2 := w - 48) g2 ⟨by omega, by omega⟩ ⟨by omega, by omega⟩
    rw [L_X_day_29, if_neg (by rw [le32_iff] <;> omega), e1, pbI_rI, e2, pbI_rI, e3, pbI_rI, show ((k : Int) + 1) = ((k + 1 : Nat) : Int) by omega]
    by_cases q : le32 0 u
    · rw [if_pos q]; exact ih (k + 1) _ _ _ M3 (by omega) g3
    · obtain ⟨e0, g0⟩ := x_cut0 (d := D) (by omega) g3
      rw [if_neg q, e0, pbI_rI]
      exact x_dayT (by omega) g0 pset_eq _ _ _
theorem t_X_day {d : Nat} (hd : 7 ≤ d) (hM : gM gAll M) {z : Int} (e : xF d 13 [.inr 2] M = rI z M') : M' 1 1 = 0 := by
  obtain ⟨D, rfl, hD⟩ := dsucc hd
  obtain ⟨v, M1, e1, g1, -, b1⟩ := v_dayF (d := D) (by omega) hM
  have r := gm_i g1 1 1 (lo := 0) (hi := 80) (by decide +kernel) (by decide +kernel)
  rw [T_X_day, e1, pbI_rI] at e
  by_cases q : eq32 v (-1)
  · rw [if_pos q] at e
    obtain ⟨L, hL⟩ := natI r.1
    have ej : jdiv (M1 1 1 + 1) 4 = (((L + 1) / 4 : Nat) : Int) := by
      rw [hL, show ((L : Int) + 1) = ((L + 1 : Nat) : Int) by omega, show (4 : Int) = ((4 : Nat) : Int) from rfl, jdiv_nat (by omega) (by omega) (by omega)]
    rw [ej] at e
    obtain ⟨z2, M2, e2, k2⟩ := x_day29 (D := D) (by omega) (n := (L + 1) / 4) (by omega) v ((L + 1) / 4) 0 0 0 (.inr 0) M1 (by omega) g1
    have e3 := e.symm.trans e2
    rw [(rI_inj e3).2]; exact k2
  · rw [if_neg q, (x_cut0 (d := D) (by omega) g1).1, pbI_rI] at e
    rw [← (rI_inj e).2, pset_eq]
/-! the reference -/
theorem m_rule42 : ∀ (m x : Nat) (x1 z : Int) (M M' : pM), x1 ≤ (x : Int) + m → x1 ≤ 80 → x ≤ 80 → xE D 193 42 [.inr 62, .inl x1, .inl (x : Int)] [] M = rI z M' → 0 ≤ x1 → M' 60 14 = M 60 14 := by
  intro m
  induction m with
  | zero =>
    intro x x1 z M M' h1 h2 h3 e h4
    rw [L_M_rule_42, if_pos (by rw [le32_iff] <;> omega)] at e
    rw [← (rI_inj e).2, pset_ne2 (by decide)]
  | succ m ih =>
    intro x x1 z M M' h1 h2 h3 e h4
    rw [L_M_rule_42] at e
    by_cases q : x1 ≤ (x : Int)
    · rw [if_pos (by rw [le32_iff] <;> omega)] at e
      rw [← (rI_inj e).2, pset_ne2 (by decide)]
    · rw [if_neg (by rw [le32_iff] <;> omega), if_pos (by omega)] at e
      by_cases q2 : 0 ≤ (x : Int) ∧ (x : Int) < 40
      · rw [if_pos q2, show ((x : Int) + 1) = ((x + 1 : Nat) : Int) by omega] at e
        rw [ih (x + 1) x1 z _ M' (by omega) h2 (by omega) e h4, pset_ne (by decide)]
      · rw [if_neg q2] at e; cases e
theorem t_M_rule {d : Nat} (hd : 345 ≤ d) (hM : gM gAll M) {z : Int} (e : xF d 193 [.inr 62] M = rI z M') : M' 60 14 = 0 := by
  obtain ⟨D, rfl, hD⟩ := dsucc hd
  obtain ⟨D', rfl, -⟩ := dsucc (show 1 ≤ D by omega)
  have b0 := gm_i hM 60 14 (lo := 0) (hi := 80) (by decide +kernel) (by decide +kernel)
  have gt := gM_thr hM
  have b1 : 0 ≤ pset M 60 17 0 60 14 ∧ pset M 60 17 0 60 14 ≤ 80 := by rw [pset_ne2 (by decide)]; exact b0
  rw [T_M_rule, T_M_begin_68, pbN_rV] at e
  generalize pset M 60 17 0 = M0 at gt b1 e
  have gB : gM gAll (pset (pset (pset (pset (pset (pset (pset M0 60 18 70) 60 19 (M0 60 14)) 60 20 40) 60 21 0) 60 22 (-1)) 60 14 0) 60 26 (-1)) := gM_f (gM_f (gM_f (gM_f (gM_f (gM_f (gM_f gt (lo := 0) (hi := 200) (by decide +kernel) (by omega) (by omega)) (lo := 0) (hi := 80) (by decide +kernel) b1.1 b1.2) (lo := 0) (hi := 80) (by decide +kernel) (by omega) (by omega)) (lo := 0) (hi := 80) (by decide +kernel) (by omega) (by omega)) (lo := -1) (hi := 80) (by decide +kernel) (by omega) (by omega)) (lo := 0) (hi := 80) (by decide +kernel) (by omega) (by omega)) (lo := -1) (hi := 9) (by decide +kernel) (by omega) (by omega)
  have e14 : (pset (pset (pset (pset (pset (pset (pset M0 60 18 70) 60 19 (M0 60 14)) 60 20 40) 60 21 0) 60 22 (-1)) 60 14 0) 60 26 (-1)) 60 14 = 0 := by rw [pset_ne2 (by decide), pset_eq]
  have e18 : (pset (pset (pset (pset (pset (pset (pset M0 60 18 70) 60 19 (M0 60 14)) 60 20 40) 60 21 0) 60 22 (-1)) 60 14 0) 60 26 (-1)) 60 18 = 70 := by
    rw [pset_ne2 (by decide), pset_ne2 (by decide), pset_ne2 (by decide), pset_ne2 (by decide), pset_ne2 (by decide), pset_ne2 (by decide), pset_eq]
  have e20 : (pset (pset (pset (pset (pset (pset (pset M0 60 18 70) 60 19 (M0 60 14)) 60 20 40) 60 21 0) 60 22 (-1)) 60 14 0) 60 26 (-1)) 60 20 = 40 := by
    rw [pset_ne2 (by decide), pset_ne2 (by decide), pset_ne2 (by decide), pset_ne2 (by decide), pset_eq]
  have e21 : (pset (pset (pset (pset (pset (pset (pset M0 60 18 70) 60 19 (M0 60 14)) 60 20 40) 60 21 0) 60 22 (-1)) 60 14 0) 60 26 (-1)) 60 21 = 0 := by
    rw [pset_ne2 (by decide), pset_ne2 (by decide), pset_ne2 (by decide), pset_eq]
  have e22 : (pset (pset (pset (pset (pset (pset (pset M0 60 18 70) 60 19 (M0 60 14)) 60 20 40) 60 21 0) 60 22 (-1)) 60 14 0) 60 26 (-1)) 60 22 = -1 := by
    rw [pset_ne2 (by decide), pset_ne2 (by decide), pset_eq]
  generalize pset (pset (pset (pset (pset (pset (pset M0 60 18 70) 60 19 (M0 60 14)) 60 20 40) 60 21 0) 60 22 (-1)) 60 14 0) 60 26 (-1) = MB at gB e14 e18 e20 e21 e22 e
  generalize M0 60 14 = L at b1 e
  have fin : ∀ M1 : pM, M1 60 14 = 0 → xE (D' + 1) 193 42 [.inr 62, .inl L, .inl 0] [] M1 = rI z M' → M' 60 14 = 0 := fun M1 h1 h2 => by
    rw [m_rule42 80 0 L z M1 M' (by omega) b1.2 (by decide) h2 b1.1]; exact h1
  have tl : ∀ M1 : pM, M1 60 14 = 0 → (pbI (xF (D' + 1) 179 [.inr 62] M1) fun v5 M4 => if ¬ eq32 v5 0 then xE (D' + 1) 193 42 [.inr 62, .inl L, .inl 0] [] M4 else some (some (.inl ((-1) - (M4 60 22))), M4)) = rI z M' → M' 60 14 = 0 := fun M1 h1 h2 => by
    rw [T_M_fine] at h2
    by_cases q : eq32 (M1 60 22) (-1)
    · rw [if_neg (fun y => y q), pbI_rI, if_pos (by decide)] at h2
      exact fin M1 h1 h2
    · rw [if_pos q, pbI_rI, if_neg (fun y => y rfl)] at h2
      rw [← (rI_inj h2).2]; exact h1
  by_cases q : le32 L 0
  · rw [if_pos q] at e; exact fin MB e14 e
  · obtain ⟨v, M2, e2, g2, f2⟩ := v_held (d := D' + 1) (by omega) (a1 := 0) gB (by decide) (by omega) (by omega) (by omega) (by omega)
    have k2 : M2 60 14 = 0 := by rw [f2 60 14 (by decide)]; exact e14
    have b21 := gm_i g2 60 21 (lo := 0) (hi := 80) (by decide +kernel) (by decide +kernel)
    rw [if_neg q, e2, pbI_rI] at e
    by_cases q2 : le32 L (M2 60 21)
    · rw [if_pos q2] at e; exact tl M2 k2 e
    · obtain ⟨M3, e3, g3, f3⟩ := v_fault (d := D' + 1) (by omega) (a1 := M2 60 21) g2 b21
      rw [if_neg q2, e3, pbN_rV] at e
      exact tl M3 (by rw [f3 60 14 (by decide)]; exact k2) e
end TX
end
section
/-! strength and keep: what they answer, on both sides -/
section TY
variable {D d : Nat} {M M' : pM}
theorem pbN_inv {x : Option pR} {f : pM → Option pR} {r : pR} (h : pbN x f = some r) : ∃ M1, x = rV M1 ∧ f M1 = some r := by
  unfold pbN at h
  split at h
  · exact ⟨_, rfl, h⟩
  · cases h
theorem t_X_strength {d : Nat} (hd : 1 ≤ d) {b z : Int} (h1 : -2147483648 ≤ b) (h2 : b ≤ 2147483647) (e : xF d 9 [.inr 2, .inl b] M = rI z M') : z = (if 1 ≤ b ∧ b ≤ 999 then M 0 17 else -1) ∧ M' 0 17 = (if 1 ≤ b ∧ b ≤ 999 then b else M 0 17) := by
  obtain ⟨D, rfl, -⟩ := dsucc hd
  rw [T_X_strength] at e
  by_cases q : b < 1
  · rw [if_pos (by rw [lt32_iff] <;> omega)] at e
    rw [if_neg (by omega), if_neg (by omega), (rI_inj e).2]
    exact ⟨(rI_inj e).1.symm, rfl⟩
  · rw [if_neg (by rw [lt32_iff] <;> omega)] at e
    by_cases q2 : b ≤ 999
    · rw [if_pos (by rw [le32_iff] <;> omega)] at e
      rw [if_pos (by omega), if_pos (by omega), ← (rI_inj e).2, pset_eq]
      exact ⟨(rI_inj e).1.symm, rfl⟩
    · rw [if_neg (by rw [le32_iff] <;> omega)] at e
      rw [if_neg (by omega), if_neg (by omega), (rI_inj e).2]
      exact ⟨(rI_inj e).1.symm, rfl⟩
theorem t_M_strength {d : Nat} (hd : 2 ≤ d) {b z : Int} (h1 : -2147483648 ≤ b) (h2 : b ≤ 2147483647) (e : xF d 205 [.inr 62, .inl b] M = rI z M') : z = (if 1 ≤ b ∧ b ≤ 999 then M 60 12 else -1) ∧ M' 60 12 = (if 1 ≤ b ∧ b ≤ 999 then b else M 60 12) := by
  obtain ⟨D, rfl, hD⟩ := dsucc hd
  rw [T_M_strength, m_in (by omega), pbI_rI] at e
  by_cases q : 1 ≤ b ∧ b ≤ 999
  · have hz : ¬ (lt32 b 1 ∨ lt32 999 b) := by
      rw [lt32_iff (by omega) (by omega) (by omega) (by omega), lt32_iff (by omega) (by omega) (by omega) (by omega)]
      omega
    rw [if_neg hz, if_pos (by decide), pset_ne2 (show 12 ≠ 17 by decide)] at e
    rw [if_pos q, if_pos q, ← (rI_inj e).2, pset_eq]
    exact ⟨(rI_inj e).1.symm, rfl⟩
  · have hz : lt32 b 1 ∨ lt32 999 b := by
      rw [lt32_iff (by omega) (by omega) (by omega) (by omega), lt32_iff (by omega) (by omega) (by omega) (by omega)]
      omega
    rw [if_pos hz, if_neg (fun y => y rfl)] at e
    rw [if_neg q, if_neg q, ← (rI_inj e).2, pset_ne2 (show 12 ≠ 17 by decide)]
    exact ⟨(rI_inj e).1.symm, rfl⟩
theorem t_X_keep {d : Nat} (hd : 2 ≤ d) {b z : Int} (h1 : -2147483648 ≤ b) (h2 : b ≤ 2147483647) (e : xF d 43 [.inr 2, .inl b] M = rI z M') : z = if 0 ≤ b ∧ b ≤ 1 then 1 else 0 := by
  obtain ⟨D, rfl, hD⟩ := dsucc hd
  obtain ⟨D', rfl, -⟩ := dsucc (show 1 ≤ D by omega)
  rw [T_X_keep, T_X_keptAt] at e
  have no : pbR (some (some (.inr 1), M) : Option pR) (fun k2 M1 => xE (D' + 1) 43 3 [.inr 2, .inl b, .inr 0] [.inr (k2 + 1)] M1) = rI 0 M := L_X_keep_n_3 (D' + 1) b M
  by_cases q : b < 0
  · rw [if_pos (by rw [lt32_iff] <;> omega), no] at e
    rw [if_neg (by omega)]; exact (rI_inj e).1.symm
  · rw [if_neg (by rw [lt32_iff] <;> omega)] at e
    by_cases q2 : 2 ≤ b
    · rw [if_pos (by rw [le32_iff] <;> omega), no] at e
      rw [if_neg (by omega)]; exact (rI_inj e).1.symm
    · rw [if_neg (by rw [le32_iff] <;> omega), if_pos (by omega)] at e
      rw [if_pos (by omega)]
      have hb : b = 0 ∨ b = 1 := by omega
      rcases hb with rfl | rfl
      · have e2 : xE (D' + 1) 43 3 [.inr 2, .inl 0, .inr 0] [.inr 46] M = rI z M' := e
        rw [L_X_keep_44_3] at e2
        obtain ⟨M1, -, e3⟩ := pbN_inv e2
        exact (rI_inj e3).1.symm
      · have e2 : xE (D' + 1) 43 3 [.inr 2, .inl 1, .inr 0] [.inr 48] M = rI z M' := e
        rw [L_X_keep_46_3] at e2
        obtain ⟨M1, -, e3⟩ := pbN_inv e2
        exact (rI_inj e3).1.symm
theorem m_keep23 (x1 : Int) : ∀ (m x : Nat) (z : Int) (M M' : pM), x + m = 10 → xE D 266 23 [.inr 62, .inl x1, .inl (x : Int)] [] M = rI z M' → z = 1 := by
  intro m
  induction m with
  | zero =>
    intro x z M M' hx e
    rw [L_M_keep_23, if_pos (by rw [le32_iff] <;> omega)] at e
    split at e
    · split at e
      · exact (rI_inj e).1.symm
      · cases e
    · cases e
  | succ m ih =>
    intro x z M M' hx e
    rw [L_M_keep_23, if_neg (by rw [le32_iff] <;> omega), show ((x : Int) + 1) = ((x + 1 : Nat) : Int) by omega] at e
    split at e
    · split at e
      · exact ih (x + 1) z _ M' (by omega) e
      · cases e
    · cases e
theorem t_M_keep {d : Nat} (hd : 2 ≤ d) {b z : Int} (h1 : -2147483648 ≤ b) (h2 : b ≤ 2147483647) (e : xF d 266 [.inr 62, .inl b] M = rI z M') : z = if 0 ≤ b ∧ b ≤ 1 then 1 else 0 := by
  obtain ⟨D, rfl, hD⟩ := dsucc hd
  rw [T_M_keep, m_in (by omega), pbI_rI] at e
  by_cases q : 0 ≤ b ∧ b ≤ 1
  · have hz : ¬ (lt32 b 0 ∨ lt32 1 b) := by
      rw [lt32_iff (by omega) (by omega) (by omega) (by omega), lt32_iff (by omega) (by omega) (by omega) (by omega)]
      omega
    rw [if_neg hz, if_pos (by decide), if_pos (by omega), if_pos (by omega)] at e
    rw [if_pos q]
    exact m_keep23 (D := D) b 10 0 z _ M' (by decide) e
  · have hz : lt32 b 0 ∨ lt32 1 b := by
      rw [lt32_iff (by omega) (by omega) (by omega) (by omega), lt32_iff (by omega) (by omega) (by omega) (by omega)]
      omega
    rw [if_pos hz, if_neg (fun y => y rfl)] at e
    rw [if_neg q]; exact (rI_inj e).1.symm
end TY
end
section
/-! the calls that may throw, on the class's side -/
set_option maxRecDepth 10000 in
theorem RT_room (D : Nat) (b c : Int) (M : pM) : xRc D 4 10 [.inr 2, .inl b, .inl c] M =
 pbI (xF D 63 [.inr 9, .inl b] M) fun v2 M1 =>
 if eq32 v2 0 then
 some (none, M1)
 else
 (if lt32 c 0 then
 some (none, M1)
 else
 (if le32 c 3 then
 (if eq32 c 0 then
 (if 0 ≤ b ∧ b < 6 then
 some (some (.inl (M1 8 b.toNat)), M1)
 else none)
 else
 if eq32 c 1 then
 (pbI (xF D 86 [.inr 9, .inl b, .inr 15] M1) fun v8 M7 =>
 some (some (.inl v8), M7))
 else
 if eq32 c 2 then
 (if 0 ≤ b ∧ b < 6 then
 pbI (xF D 87 [.inr 9, .inl b, .inr 15] M1) fun v6 M5 =>
 some (some (.inl ((M1 8 b.toNat) - v6)), M5)
 else none)
 else
 (pbI (xF D 77 [.inr 9, .inl b, .inl 1] M1) fun v4 M3 =>
 some (some (.inl v4), M3)))
 else
 some (none, M1))) := rfl
set_option maxRecDepth 10000 in
theorem RT_thing (D : Nat) (b c : Int) (M : pM) : xRc D 5 10 [.inr 2, .inl b, .inl c] M =
 pbI (xF D 64 [.inr 9, .inl b] M) fun v2 M1 =>
 if eq32 v2 0 then
 some (none, M1)
 else
 (if lt32 c 0 then
 some (none, M1)
 else
 (if le32 c 6 then
 (if eq32 c 0 then
 (if 0 ≤ b ∧ b < 10 then
 some (some (.inl (M1 10 b.toNat)), M1)
 else none)
 else
 if eq32 c 1 then
 (if 0 ≤ b ∧ b < 10 then
 some (some (.inl (M1 11 b.toNat)), M1)
 else none)
 else
 if eq32 c 2 then
 (if 0 ≤ b ∧ b < 10 then
 some (some (.inl (M1 12 b.toNat)), M1)
 else none)
 else
 if eq32 c 3 then
 (if 0 ≤ b ∧ b < 10 then
 some (some (.inl (M1 13 b.toNat)), M1)
 else none)
 else
 if eq32 c 4 then
 (pbI (xF D 93 [.inr 9, .inl b] M1) fun v6 M5 =>
 some (some (.inl v6), M5))
 else
 if eq32 c 5 then
 (if 0 ≤ b ∧ b < 10 then
 some (some (.inl (M1 16 b.toNat)), M1)
 else none)
 else
 (if 0 ≤ b ∧ b < 10 then
 pbI (xF D 144 [.inr 29, .inr 9, .inl b, .inl (M1 13 b.toNat)] M1) fun v4 M3 =>
 some (some (.inl v4), M3)
 else none))
 else
 some (none, M1))) := rfl
set_option maxRecDepth 10000 in
theorem RT_row (D : Nat) (b : Int) (M : pM) : xRc D 46 7 [.inr 2, .inl b] M =
 if lt32 b 0 then
 some (none, M)
 else
 (if lt32 b (M 5 1) then
 (pbI (xF D 47 [.inr 8, .inl b] M) fun v2 M1 =>
 some (some (.inl v2), M1))
 else
 some (none, M)) := rfl
theorem yL_thr {D k pl : Nat} {a : List pV} {M : pM} (h1 : xF D k a M = none) (h2 : xRc D k pl a M = some (none, M)) : yL D k pl a M = rI 1 M := by
  unfold yL
  rw [h1, h2]
theorem yL_ok {D k pl : Nat} {a : List pV} {M M1 : pM} {v : Int} (h : xF D k a M = rI v M1) : yL D k pl a M = rI 0 (pset M1 90 0 (iI v).toInt) := by
  unfold yL
  rw [h]
def okY (D k pl : Nat) (A : List pV) (w : List (Nat × Nat)) (M : pM) : Prop := ∃ z M', yL D k pl A M = rI z M' ∧ gM gAll M' ∧ Fr w M M'
section YY
variable {D d : Nat} {M M1 : pM}
theorem okY_ok {k pl : Nat} {a : List pV} {w : List (Nat × Nat)} {v : Int} (h : xF D k a M = rI v M1) (g : gM gAll M1) (f : Fr w M M1) (hw : wOK w 90 0 = true) : okY D k pl a w M := ⟨_, _, yL_ok h, gMs_set g (by rw [show gAll 90 0 = (1, 0, 0, 0, 0, 0) by decide +kernel]; exact Or.inr (Or.inl rfl)), Fr_set f hw⟩
theorem okY_thr {k pl : Nat} {a : List pV} {w : List (Nat × Nat)} (h1 : xF D k a M = none) (h2 : xRc D k pl a M = some (none, M)) (g : gM gAll M) : okY D k pl a w M := ⟨_, _, yL_thr h1 h2, g, Fr_rfl⟩
theorem x_isR7 (hd : 1 ≤ d) (hM : gM gAll M) {b : Int} (h1 : -2147483648 ≤ b) (h2 : b ≤ 2147483647) : xF d 63 [.inr 9, .inl b] M = rI (if 0 ≤ b ∧ b < M 7 9 then 1 else 0) M := by
  obtain ⟨D, rfl, -⟩ := dsucc hd
  have r := gm_i hM 7 9 (lo := 0) (hi := 6) (by decide +kernel) (by decide +kernel)
  rw [T_House_isRoom_7]
  by_cases q : b < 0
  · rw [if_pos (by rw [lt32_iff] <;> omega), if_neg (by omega)]
  · rw [if_neg (by rw [lt32_iff] <;> omega)]
    by_cases q2 : M 7 9 ≤ b
    · rw [if_pos (by rw [le32_iff] <;> omega), if_neg (by omega)]
    · rw [if_neg (by rw [le32_iff] <;> omega), if_pos (by omega)]
theorem x_isT7 (hd : 1 ≤ d) (hM : gM gAll M) {b : Int} (h1 : -2147483648 ≤ b) (h2 : b ≤ 2147483647) : xF d 64 [.inr 9, .inl b] M = rI (if 0 ≤ b ∧ b < M 7 10 then 1 else 0) M := by
  obtain ⟨D, rfl, -⟩ := dsucc hd
  have r := gm_i hM 7 10 (lo := 0) (hi := 10) (by decide +kernel) (by decide +kernel)
  rw [T_House_isThing]
  by_cases q : b < 0
  · rw [if_pos (by rw [lt32_iff] <;> omega), if_neg (by omega)]
  · rw [if_neg (by rw [lt32_iff] <;> omega)]
    by_cases q2 : M 7 10 ≤ b
    · rw [if_pos (by rw [le32_iff] <;> omega), if_neg (by omega)]
    · rw [if_neg (by rw [le32_iff] <;> omega), if_pos (by omega)]
theorem y_room (hd : 5 ≤ d) (hM : gM gAll M) {b c : Int} (h1 : -2147483648 ≤ b ∧ b ≤ 2147483647) (h2 : -2147483648 ≤ c ∧ c ≤ 2147483647) : okY d 4 10 [.inr 2, .inl b, .inl c] [(90, 999)] M := by
  obtain ⟨D, rfl, hD⟩ := dsucc hd
  have r := gm_i hM 7 9 (lo := 0) (hi := 6) (by decide +kernel) (by decide +kernel)
  have hT := T_X_room D b c M
  have hR := RT_room (D + 1) b c M
  rw [x_isR7 (by omega) hM h1.1 h1.2, pbI_rI] at hT hR
  by_cases q : 0 ≤ b ∧ b < M 7 9
  · have i6 : 0 ≤ b ∧ b < 6 := by omega
    rw [if_pos q, if_neg (by decide)] at hT hR
    by_cases q2 : lt32 c 0
    · rw [if_pos q2] at hT hR; exact okY_thr hT hR hM
    · rw [if_neg q2] at hT hR
      by_cases q3 : le32 c 3
      · rw [if_pos q3] at hT
        by_cases c0 : eq32 c 0
        · rw [if_pos c0, if_pos i6] at hT; exact okY_ok hT hM Fr_rfl rfl
        · rw [if_neg c0] at hT
          by_cases c1 : eq32 c 1
          · obtain ⟨v, M2, e2, g2, f2, -⟩ := v_thIn (d := D) (by omega) (a1 := b) hM h1
            rw [if_pos c1, e2, pbI_rI] at hT; exact okY_ok hT g2 (Fr_mono f2 (by decide)) rfl
          · rw [if_neg c1] at hT
            by_cases c2 : eq32 c 2
            · obtain ⟨v, M2, e2, g2, f2⟩ := v_load (d := D) (by omega) (a1 := b) hM h1
              rw [if_pos c2, if_pos i6, e2, pbI_rI] at hT; exact okY_ok hT g2 (Fr_mono f2 (by decide)) rfl
            · obtain ⟨v, M2, e2, g2, f2, -⟩ := v_next (d := D) (by omega) (a1 := b) (a2 := 1) hM h1 (by decide)
              rw [if_neg c2, e2, pbI_rI] at hT; exact okY_ok hT g2 (Fr_mono f2 (by decide)) rfl
      · rw [if_neg q3] at hT hR; exact okY_thr hT hR hM
  · rw [if_neg q, if_pos rfl] at hT hR; exact okY_thr hT hR hM
def wYt : List (Nat × Nat) := [(30, 1), (30, 2), (30, 3), (31, 999), (90, 999)]
theorem y_thing (hd : 33 ≤ d) (hM : gM gAll M) {b c : Int} (h1 : -2147483648 ≤ b ∧ b ≤ 2147483647) (h2 : -2147483648 ≤ c ∧ c ≤ 2147483647) : okY d 5 10 [.inr 2, .inl b, .inl c] wYt M := by
  obtain ⟨D, rfl, hD⟩ := dsucc hd
  have r := gm_i hM 7 10 (lo := 0) (hi := 10) (by decide +kernel) (by decide +kernel)
  have hT := T_X_thing D b c M
  have hR := RT_thing (D + 1) b c M
  rw [x_isT7 (by omega) hM h1.1 h1.2, pbI_rI] at hT hR
  by_cases q : 0 ≤ b ∧ b < M 7 10
  · have i6 : 0 ≤ b ∧ b < 10 := by omega
    rw [if_pos q, if_neg (by decide)] at hT hR
    by_cases q2 : lt32 c 0
    · rw [if_pos q2] at hT hR; exact okY_thr hT hR hM
    · rw [if_neg q2] at hT hR
      by_cases q3 : le32 c 6
      · rw [if_pos q3] at hT
        by_cases c0 : eq32 c 0
        · rw [if_pos c0, if_pos i6] at hT; exact okY_ok hT hM Fr_rfl rfl
        · rw [if_neg c0] at hT
          by_cases c1 : eq32 c 1
          · rw [if_pos c1, if_pos i6] at hT; exact okY_ok hT hM Fr_rfl rfl
          · rw [if_neg c1] at hT
            by_cases c2 : eq32 c 2
            · rw [if_pos c2, if_pos i6] at hT; exact okY_ok hT hM Fr_rfl rfl
            · rw [if_neg c2] at hT
              by_cases c3 : eq32 c 3
              · rw [if_pos c3, if_pos i6] at hT; exact okY_ok hT hM Fr_rfl rfl
              · rw [if_neg c3] at hT
                by_cases c4 : eq32 c 4
                · obtain ⟨v, M2, e2, g2, f2, -⟩ := v_sets (d := D) (by omega) (a1 := b) hM h1
                  rw [if_pos c4, e2, pbI_rI] at hT; exact okY_ok hT g2 (Fr_mono f2 (by decide)) rfl
                · rw [if_neg c4] at hT
                  by_cases c5 : eq32 c 5
                  · rw [if_pos c5, if_pos i6] at hT; exact okY_ok hT hM Fr_rfl rfl
                  · have b13 := gm_r hM (o := 13) (lo := 0) (hi := 5) (by decide +kernel) (by decide +kernel) (k := b.toNat) (show b.toNat < 10 by omega)
                    obtain ⟨v, M2, e2, g2, f2, -⟩ := v_val (d := D) (by omega) (a2 := b) (a3 := M 13 b.toNat) hM h1 ⟨by omega, by omega⟩
                    rw [if_neg c5, if_pos i6, e2, pbI_rI] at hT; exact okY_ok hT g2 (Fr_mono f2 (by decide)) rfl
      · rw [if_neg q3] at hT hR; exact okY_thr hT hR hM
  · rw [if_neg q, if_pos rfl] at hT hR; exact okY_thr hT hR hM
theorem y_row (hd : 3 ≤ d) (hM : gM gAll M) {b : Int} (h1 : -2147483648 ≤ b ∧ b ≤ 2147483647) : okY d 46 7 [.inr 2, .inl b] [(90, 999)] M := by
  obtain ⟨D, rfl, hD⟩ := dsucc hd
  obtain ⟨D', rfl, -⟩ := dsucc (show 1 ≤ D by omega)
  have r := gm_i hM 5 1 (lo := 0) (hi := 12) (by decide +kernel) (by decide +kernel)
  have hT := T_X_row (D' + 1) b M
  have hR := RT_row (D' + 1 + 1) b M
  by_cases q : lt32 b 0
  · rw [if_pos q] at hT hR; exact okY_thr hT hR hM
  · rw [if_neg q] at hT hR
    by_cases q2 : lt32 b (M 5 1)
    · rw [lt32_iff (by omega) (by omega) (by omega) (by omega)] at q
      have q3 := q2
      rw [lt32_iff (by omega) (by omega) (by omega) (by omega)] at q3
      rw [if_pos q2, T_X_numberAt_6, if_neg (by rw [lt32_iff] <;> omega), if_neg (by rw [le32_iff] <;> omega), if_pos (by omega), pbI_rI] at hT
      exact okY_ok hT hM Fr_rfl rfl
    · rw [if_neg q2] at hT hR; exact okY_thr hT hR hM
end YY
end
section
/-! every call of the reference keeps its invariant (by program) -/
section WR
variable {M : pM}
theorem w_M_sign {a1 : Int} (h : RI0 M) (h1 : -2147483648 ≤ a1 ∧ a1 ≤ 2147483647) : okR 1000 175 [.inr 62, .inl a1] [(60, 14), (60, 17), (68, 999)] M := by
  obtain ⟨z, M', e, g, f, -⟩ := q_M_sign (d := 1000) (by decide) h.1 h1
  exact ⟨z, M', e, RI0_Fr g f (by decide) h, f⟩
theorem w_M_end {a1 : Int} (h : RI0 M) (h1 : -2147483648 ≤ a1 ∧ a1 ≤ 2147483647) : okR 1000 176 [.inr 62, .inl a1] [(60, 14), (60, 17)] M := by
  obtain ⟨z, M', e, g, f, -⟩ := q_M_end (d := 1000) (by decide) h.1 h1
  exact ⟨z, M', e, RI0_Fr g f (by decide) h, f⟩
theorem w_M_rule  (h : RI0 M)  : okR 1000 193 [.inr 62] [(60, 14), (60, 17), (60, 18), (60, 19), (60, 20), (60, 21), (60, 22), (60, 25), (60, 26), (71, 999)] M := by
  obtain ⟨z, M', e, g, f, -⟩ := q_M_rule (d := 1000) (by decide) h.1 
  exact ⟨z, M', e, RI0_Fr g f (by decide) h, f⟩
theorem w_M_room {a1 : Int} {a2 : Int} (h : RI0 M) (h1 : -2147483648 ≤ a1 ∧ a1 ≤ 2147483647) (h2 : -2147483648 ≤ a2 ∧ a2 ≤ 2147483647) : okR 1000 199 [.inr 62, .inl a1, .inl a2] [(60, 17)] M := by
  obtain ⟨z, M', e, g, f⟩ := q_M_room (d := 1000) (by decide) h.1 h1 h2
  exact ⟨z, M', e, RI0_Fr g f (by decide) h, f⟩
theorem w_M_thing {a1 : Int} {a2 : Int} (h : RI0 M) (h1 : -2147483648 ≤ a1 ∧ a1 ≤ 2147483647) (h2 : -2147483648 ≤ a2 ∧ a2 ≤ 2147483647) : okR 1000 201 [.inr 62, .inl a1, .inl a2] [(60, 17), (60, 18), (60, 19), (60, 20), (60, 21), (60, 22), (60, 26), (60, 27), (60, 30), (72, 999), (73, 999)] M := by
  obtain ⟨z, M', e, g, f, -⟩ := q_M_thing (d := 1000) (by decide) h.1 h1 h2
  exact ⟨z, M', e, RI0_Fr g f (by decide) h, f⟩
theorem w_M_set {a1 : Int} (h : RI0 M) (h1 : -2147483648 ≤ a1 ∧ a1 ≤ 2147483647) : okR 1000 202 [.inr 62, .inl a1] [(60, 17)] M := by
  obtain ⟨z, M', e, g, f, -⟩ := q_M_set (d := 1000) (by decide) h.1 h1
  exact ⟨z, M', e, RI0_Fr g f (by decide) h, f⟩
theorem w_M_door {a1 : Int} {a2 : Int} (h : RI0 M) (h1 : -2147483648 ≤ a1 ∧ a1 ≤ 2147483647) (h2 : -2147483648 ≤ a2 ∧ a2 ≤ 2147483647) : okR 1000 203 [.inr 62, .inl a1, .inl a2] [(60, 17)] M := by
  obtain ⟨z, M', e, g, f, -⟩ := q_M_door (d := 1000) (by decide) h.1 h1 h2
  exact ⟨z, M', e, RI0_Fr g f (by decide) h, f⟩
theorem w_M_widen {a1 : Int} {a2 : Int} {a3 : Int} (h : RI0 M) (h1 : -2147483648 ≤ a1 ∧ a1 ≤ 2147483647) (h2 : -2147483648 ≤ a2 ∧ a2 ≤ 2147483647) (h3 : -2147483648 ≤ a3 ∧ a3 ≤ 2147483647) : okR 1000 204 [.inr 62, .inl a1, .inl a2, .inl a3] [(60, 17), (62, 999)] M := by
  exact r_widen (d := 1000) (by decide) h1.1 h1.2 h2.1 h2.2 h3.1 h3.2 h
theorem w_M_strength {a1 : Int} (h : RI0 M) (h1 : -2147483648 ≤ a1 ∧ a1 ≤ 2147483647) : okR 1000 205 [.inr 62, .inl a1] [(60, 12), (60, 17)] M := by
  obtain ⟨z, M', e, g, f, -⟩ := q_M_strength (d := 1000) (by decide) h.1 h1
  exact ⟨z, M', e, RI0_Fr g f (by decide) h, f⟩
theorem w_M_sheet {a1 : Int} {a2 : Int} {a3 : Int} {a4 : Int} (h : RI0 M) (h1 : -2147483648 ≤ a1 ∧ a1 ≤ 2147483647) (h2 : -2147483648 ≤ a2 ∧ a2 ≤ 2147483647) (h3 : -2147483648 ≤ a3 ∧ a3 ≤ 2147483647) (h4 : -2147483648 ≤ a4 ∧ a4 ≤ 2147483647) : okR 1000 206 [.inr 62, .inl a1, .inl a2, .inl a3, .inl a4] [(60, 17), (65, 999)] M := by
  exact r_sheet (d := 1000) (by decide)  h
theorem w_M_carry {a1 : Int} {a2 : Int} (h : RI0 M) (h1 : -2147483648 ≤ a1 ∧ a1 ≤ 2147483647) (h2 : -2147483648 ≤ a2 ∧ a2 ≤ 2147483647) : okR 1000 216 [.inr 62, .inl a1, .inl a2] wCarry M := by
  exact r_carry (d := 1000) (by decide) h1.1 h1.2 h2.1 h2.2 h
theorem w_M_evening  (h : RI0 M)  : okR 1000 218 [.inr 62] wEv M := by
  exact r_evening (d := 1000) (by decide)  h
theorem w_M_undo  (h : RI0 M)  : okR 1000 220 [.inr 62] wUndo M := by
  exact r_undo (d := 1000) (by decide)  h
theorem w_M_judge {a1 : Int} {a2 : Int} (h : RI0 M) (h1 : -2147483648 ≤ a1 ∧ a1 ≤ 2147483647) (h2 : -2147483648 ≤ a2 ∧ a2 ≤ 2147483647) : okR 1000 221 [.inr 62, .inl a1, .inl a2] wJg M := by
  exact r_judge (d := 1000) (by decide) h1.1 h1.2 h
theorem w_M_clumps  (h : RI0 M)  : okR 1000 222 [.inr 62] [(60, 16), (60, 17), (60, 30), (69, 999), (72, 999), (73, 999)] M := by
  obtain ⟨z, M', e, g, f, -⟩ := q_M_clumps (d := 1000) (by decide) h.1 
  exact ⟨z, M', e, RI0_Fr g f (by decide) h, f⟩
theorem w_M_heaviest  (h : RI0 M)  : okR 1000 224 [.inr 62] [(60, 16), (60, 17), (60, 30), (69, 999), (72, 999), (73, 999)] M := by
  obtain ⟨z, M', e, g, f, -⟩ := q_M_heaviest (d := 1000) (by decide) h.1 
  exact ⟨z, M', e, RI0_Fr g f (by decide) h, f⟩
theorem w_M_without {a1 : Int} (h : RI0 M) (h1 : -2147483648 ≤ a1 ∧ a1 ≤ 2147483647) : okR 1000 225 [.inr 62, .inl a1] [(60, 16), (60, 17), (60, 30), (69, 999), (72, 999), (73, 999)] M := by
  obtain ⟨z, M', e, g, f, -⟩ := q_M_without (d := 1000) (by decide) h.1 h1
  exact ⟨z, M', e, RI0_Fr g f (by decide) h, f⟩
theorem w_M_breaks {a1 : Int} (h : RI0 M) (h1 : -2147483648 ≤ a1 ∧ a1 ≤ 2147483647) : okR 1000 226 [.inr 62, .inl a1] wBreaks M := by
  exact r_breaks (d := 1000) (by decide) h1.1 h1.2 h
theorem w_M_ties  (h : RI0 M)  : okR 1000 227 [.inr 62] [(60, 17), (60, 30), (72, 999), (73, 999)] M := by
  obtain ⟨z, M', e, g, f, -⟩ := q_M_ties (d := 1000) (by decide) h.1 
  exact ⟨z, M', e, RI0_Fr g f (by decide) h, f⟩
theorem w_M_fits  (h : RI0 M)  : okR 1000 234 [.inr 62] [(60, 16), (60, 17), (60, 30), (60, 39), (60, 40), (69, 999), (72, 999), (73, 999), (78, 999), (79, 999), (80, 999)] M := by
  rcases RI0_rooms h with p | p
  · obtain ⟨z, M', e, g, f⟩ := q_M_fits_1 (d := 1000) (by decide) h.1  p
    exact ⟨z, M', e, RI0_Fr g f (by decide) h, Fr_mono f (by decide)⟩
  · obtain ⟨z, M', e, g, f⟩ := q_M_fits_0 (d := 1000) (by decide) h.1  p.1 p.2
    exact ⟨z, M', e, RI0_Fr g f (by decide) h, Fr_mono f (by decide)⟩
theorem w_M_worth  (h : RI0 M)  : okR 1000 235 [.inr 62] [(60, 17), (60, 18), (60, 19), (60, 20), (60, 21), (60, 22), (60, 26), (60, 27)] M := by
  obtain ⟨z, M', e, g, f⟩ := q_M_worth (d := 1000) (by decide) h.1 
  exact ⟨z, M', e, RI0_Fr g f (by decide) h, f⟩
theorem w_M_best  (h : RI0 M)  : okR 1000 236 [.inr 62] wBest M := by
  have s0 := h.2.1
  rcases RI0_rooms h with p | p
  · obtain ⟨z, M', e, g, f⟩ := r_best (d := 1000) (by decide)  h.1 p.1 s0
    exact ⟨z, M', e, RI0_Fr g f (by decide) h, f⟩
  · obtain ⟨z, M', e, g, f, -⟩ := q_M_best_0 (d := 1000) (by decide)  h.1  p.1 p.2 ⟨by omega, by omega⟩
    exact ⟨z, M', e, RI0_Fr g f (by decide) h, Fr_mono f (by decide)⟩
theorem w_M_near  (h : RI0 M)  : okR 1000 238 [.inr 62] [(60, 16), (60, 17), (60, 30), (60, 39), (60, 40), (69, 999), (72, 999), (73, 999), (74, 999), (78, 999), (79, 999), (80, 999)] M := by
  rcases RI0_rooms h with p | p
  · obtain ⟨z, M', e, g, f, -⟩ := q_M_near_1 (d := 1000) (by decide) h.1  p
    exact ⟨z, M', e, RI0_Fr g f (by decide) h, Fr_mono f (by decide)⟩
  · obtain ⟨z, M', e, g, f, -⟩ := q_M_near_0 (d := 1000) (by decide) h.1  p.1 p.2
    exact ⟨z, M', e, RI0_Fr g f (by decide) h, Fr_mono f (by decide)⟩
theorem w_M_guest {a1 : Int} {a2 : Int} (h : RI0 M) (h1 : -2147483648 ≤ a1 ∧ a1 ≤ 2147483647) (h2 : -2147483648 ≤ a2 ∧ a2 ≤ 2147483647) : okR 1000 239 [.inr 62, .inl a1, .inl a2] [(60, 16), (60, 17), (60, 30), (60, 39), (60, 40), (69, 999), (72, 999), (73, 999), (74, 999), (78, 999), (79, 999), (80, 999)] M := by
  rcases RI0_rooms h with p | p
  · obtain ⟨z, M', e, g, f, -⟩ := q_M_guest_1 (d := 1000) (by decide) h.1 h1 h2 p
    exact ⟨z, M', e, RI0_Fr g f (by decide) h, Fr_mono f (by decide)⟩
  · obtain ⟨z, M', e, g, f, -⟩ := q_M_guest_0 (d := 1000) (by decide) h.1 h1 h2 p.1 p.2
    exact ⟨z, M', e, RI0_Fr g f (by decide) h, Fr_mono f (by decide)⟩
theorem w_M_space  (h : RI0 M)  : okR 1000 240 [.inr 62] [(60, 16), (60, 17), (60, 30), (60, 39), (60, 40), (69, 999), (72, 999), (73, 999), (78, 999), (79, 999), (80, 999)] M := by
  obtain ⟨z, M', e, g, f⟩ := q_M_space (d := 1000) (by decide) h.1 
  exact ⟨z, M', e, RI0_Fr g f (by decide) h, f⟩
theorem w_M_could {a1 : Int} {a2 : Int} (h : RI0 M) (h1 : -2147483648 ≤ a1 ∧ a1 ≤ 2147483647) (h2 : -2147483648 ≤ a2 ∧ a2 ≤ 2147483647) : okR 1000 241 [.inr 62, .inl a1, .inl a2] [(60, 17), (60, 30), (60, 39), (60, 40), (72, 999), (73, 999), (78, 999), (79, 999)] M := by
  rcases RI0_rooms h with p | p
  · obtain ⟨z, M', e, g, f, -⟩ := q_M_could_1 (d := 1000) (by decide) h.1 h1 h2 p
    exact ⟨z, M', e, RI0_Fr g f (by decide) h, Fr_mono f (by decide)⟩
  · obtain ⟨z, M', e, g, f, -⟩ := q_M_could_0 (d := 1000) (by decide) h.1 h1 h2 p.1 p.2
    exact ⟨z, M', e, RI0_Fr g f (by decide) h, Fr_mono f (by decide)⟩
theorem w_M_may {a1 : Int} (h : RI0 M) (h1 : -2147483648 ≤ a1 ∧ a1 ≤ 2147483647) : okR 1000 242 [.inr 62, .inl a1] wMay M := by
  have s0 := h.2.1
  rcases RI0_rooms h with p | p
  · obtain ⟨z, M', e, g, f⟩ := r_may (d := 1000) (by decide) h1.1 h1.2 h.1 p.1 s0
    exact ⟨z, M', e, RI0_Fr g f (by decide) h, f⟩
  · obtain ⟨z, M', e, g, f, -⟩ := q_M_may_0 (d := 1000) (by decide)  h.1 h1 p.1 p.2
    exact ⟨z, M', e, RI0_Fr g f (by decide) h, Fr_mono f (by decide)⟩
theorem w_M_together {a1 : Int} {a2 : Int} (h : RI0 M) (h1 : -2147483648 ≤ a1 ∧ a1 ≤ 2147483647) (h2 : -2147483648 ≤ a2 ∧ a2 ≤ 2147483647) : okR 1000 243 [.inr 62, .inl a1, .inl a2] [(60, 16), (60, 17), (60, 30), (60, 39), (60, 40), (69, 999), (72, 999), (73, 999), (78, 999), (79, 999)] M := by
  rcases RI0_rooms h with p | p
  · obtain ⟨z, M', e, g, f⟩ := q_M_together_1 (d := 1000) (by decide) h.1 h1 h2 p
    exact ⟨z, M', e, RI0_Fr g f (by decide) h, Fr_mono f (by decide)⟩
  · obtain ⟨z, M', e, g, f⟩ := q_M_together_0 (d := 1000) (by decide) h.1 h1 h2 p.1 p.2
    exact ⟨z, M', e, RI0_Fr g f (by decide) h, Fr_mono f (by decide)⟩
theorem w_M_fullest {a1 : Int} (h : RI0 M) (h1 : -2147483648 ≤ a1 ∧ a1 ≤ 2147483647) : okR 1000 244 [.inr 62, .inl a1] [(60, 16), (60, 17), (60, 30), (60, 39), (60, 40), (69, 999), (72, 999), (73, 999), (78, 999), (79, 999), (80, 999)] M := by
  rcases RI0_rooms h with p | p
  · obtain ⟨z, M', e, g, f⟩ := q_M_fullest_1 (d := 1000) (by decide) h.1 h1 p
    exact ⟨z, M', e, RI0_Fr g f (by decide) h, Fr_mono f (by decide)⟩
  · obtain ⟨z, M', e, g, f⟩ := q_M_fullest_0 (d := 1000) (by decide) h.1 h1 p.1 p.2
    exact ⟨z, M', e, RI0_Fr g f (by decide) h, Fr_mono f (by decide)⟩
theorem w_M_swap {a1 : Int} {a2 : Int} (h : RI0 M) (h1 : -2147483648 ≤ a1 ∧ a1 ≤ 2147483647) (h2 : -2147483648 ≤ a2 ∧ a2 ≤ 2147483647) : okR 1000 245 [.inr 62, .inl a1, .inl a2] [(60, 16), (60, 17), (69, 999), (74, 999), (78, 999)] M := by
  obtain ⟨z, M', e, g, f, -⟩ := q_M_swap (d := 1000) (by decide) h.1 h1 h2
  exact ⟨z, M', e, RI0_Fr g f (by decide) h, f⟩
theorem w_M_sell  (h : RI0 M)  : okR 1000 246 [.inr 62] [(60, 16), (60, 17), (60, 30), (60, 38), (60, 39), (60, 40), (69, 999), (72, 999), (73, 999), (78, 999), (79, 999)] M := by
  have s0 := h.2.1
  rcases RI0_rooms h with p | p
  · obtain ⟨z, M', e, g, f, alt, ha, q, pp⟩ := cOK_I (q_M_sell_1_c (d := 1000) (by decide)) (A := [.inr 62]) (show aF2 gW [aRef 62] [.inr 62] from ⟨gW_o, trivial⟩) h.1 (show gP0 [(60, 0, (0, 1, 6, 0, 0, 0)), (60, 38, (0, 0, 0, 0, 0, 0))] M from fun e he => by
        simp only [List.mem_cons, List.not_mem_nil, or_false] at he
        rcases he with rfl | rfl
        · exact gR_i p.1 p.2
        · exact gR_i (show (0 : Int) ≤ M 60 38 by omega) (show M 60 38 ≤ (0 : Int) by omega)) rfl
    have k38 : M' 60 38 = 0 := by
      have ha : alt ∈ [(some (0, -3, -3, 0, 0, 0), [], [(60, 0, (0, 1, 6, 0, 0, 0)), (60, 17, (0, 0, 0, 0, 0, 0)), (60, 38, (0, 0, 0, 0, 0, 0)), (60, 39, (0, 20001, 1000000, 0, 0, 0))]), (some (0, 0, 63, 0, 0, 0), [], [(60, 0, (0, 1, 6, 0, 0, 0)), (60, 16, (0, 1, 1, 0, 0, 0)), (60, 17, (0, 0, 0, 0, 0, 0)), (60, 38, (0, 0, 0, 0, 0, 0)), (60, 39, (0, 1, 20000, 0, 0, 0)), (69, 0, (0, -2147483648, 2147483647, 0, 0, 0))])] := ha
      simp only [List.mem_cons, List.not_mem_nil, or_false] at ha
      rcases ha with rfl | rfl
      · have : 0 ≤ M' 60 38 ∧ M' 60 38 ≤ 0 := gR0 (pp (60, 38, (0, 0, 0, 0, 0, 0)) (by simp)).1
        omega
      · have : 0 ≤ M' 60 38 ∧ M' 60 38 ≤ 0 := gR0 (pp (60, 38, (0, 0, 0, 0, 0, 0)) (by simp)).1
        omega
    exact ⟨z, M', e, ⟨g, k38, WM_Fr f (by decide) (by decide) (by decide) (by decide) h.2.2.1, UM_Fr f (by decide) (by decide) (by decide) (by decide) (by decide) h.2.2.2⟩, f⟩
  · obtain ⟨z, M', e, g, f, alt, ha, q, pp⟩ := cOK_I (q_M_sell_0_c (d := 1000) (by decide)) (A := [.inr 62]) (show aF2 gW [aRef 62] [.inr 62] from ⟨gW_o, trivial⟩) h.1 (show gP0 [(60, 0, (0, 0, 0, 0, 0, 0)), (60, 3, (0, 0, 0, 0, 0, 0)), (60, 38, (0, 0, 0, 0, 0, 0))] M from fun e he => by
        simp only [List.mem_cons, List.not_mem_nil, or_false] at he
        rcases he with rfl | rfl | rfl
        · exact gR_i p.1.1 p.1.2
        · exact gR_i p.2.1 p.2.2
        · exact gR_i (show (0 : Int) ≤ M 60 38 by omega) (show M 60 38 ≤ (0 : Int) by omega)) rfl
    have k38 : M' 60 38 = 0 := by
      have ha : alt ∈ [(some (0, 0, 63, 0, 0, 0), [], [(60, 0, (0, 0, 0, 0, 0, 0)), (60, 3, (0, 0, 0, 0, 0, 0)), (60, 16, (0, 1, 1, 0, 0, 0)), (60, 17, (0, 0, 0, 0, 0, 0)), (60, 30, (0, 0, 0, 0, 0, 0)), (60, 38, (0, 0, 0, 0, 0, 0)), (60, 39, (0, 1, 1, 0, 0, 0)), (69, 0, (0, -2147483648, 2147483647, 0, 0, 0))])] := ha
      simp only [List.mem_cons, List.not_mem_nil, or_false] at ha
      rcases ha with rfl
      · have : 0 ≤ M' 60 38 ∧ M' 60 38 ≤ 0 := gR0 (pp (60, 38, (0, 0, 0, 0, 0, 0)) (by simp)).1
        omega
    exact ⟨z, M', e, ⟨g, k38, WM_Fr f (by decide) (by decide) (by decide) (by decide) h.2.2.1, UM_Fr f (by decide) (by decide) (by decide) (by decide) (by decide) h.2.2.2⟩, Fr_mono f (by decide)⟩
theorem w_M_build  (h : RI0 M)  : okR 1000 248 [.inr 62] wBu M := by
  obtain ⟨z, M', e, g, f⟩ := r_build0 (d := 1000) (by decide) h.1
  exact ⟨z, M', e, RI0_Fr g f (by decide) h, f⟩
theorem w_M_way {a1 : Int} {a2 : Int} (h : RI0 M) (h1 : -2147483648 ≤ a1 ∧ a1 ≤ 2147483647) (h2 : -2147483648 ≤ a2 ∧ a2 ≤ 2147483647) : okR 1000 250 [.inr 62, .inl a1, .inl a2] wWay M := by
  obtain ⟨z, M', e, g, f⟩ := r_way (d := 1000) (by decide) h1.1 h1.2 h2.1 h2.2 h.1 h.2.2.1.2.1 (fun t ht => (h.2.2.1.2.2.2.1 t ht).2.2.2)
  exact ⟨z, M', e, RI0_Fr g f (by decide) h, f⟩
theorem w_M_widest {a1 : Int} {a2 : Int} (h : RI0 M) (h1 : -2147483648 ≤ a1 ∧ a1 ≤ 2147483647) (h2 : -2147483648 ≤ a2 ∧ a2 ≤ 2147483647) : okR 1000 251 [.inr 62, .inl a1, .inl a2] [(60, 17), (74, 999)] M := by
  obtain ⟨z, M', e, g, f, -⟩ := q_M_widest (d := 1000) (by decide) h.1 h1 h2
  exact ⟨z, M', e, RI0_Fr g f (by decide) h, f⟩
theorem w_M_stuck  (h : RI0 M)  : okR 1000 252 [.inr 62] [(60, 17), (74, 999)] M := by
  obtain ⟨z, M', e, g, f, -⟩ := q_M_stuck (d := 1000) (by decide) h.1 
  exact ⟨z, M', e, RI0_Fr g f (by decide) h, f⟩
theorem w_M_hinge {a1 : Int} (h : RI0 M) (h1 : -2147483648 ≤ a1 ∧ a1 ≤ 2147483647) : okR 1000 254 [.inr 62, .inl a1] wHinge M := by
  exact r_hinge (d := 1000) (by decide) h1.1 h1.2 h
theorem w_M_aim  (h : RI0 M)  : okR 1000 255 [.inr 62] [(60, 14), (60, 17), (60, 43), (60, 44), (81, 999)] M := by
  obtain ⟨z, M', e, g, f, -⟩ := q_M_aim (d := 1000) (by decide) h.1 
  exact ⟨z, M', e, RI0_Fr g f (by decide) h, f⟩
theorem w_M_apart  (h : RI0 M)  : okR 1000 257 [.inr 62] [(60, 16), (60, 17), (69, 999), (74, 999)] M := by
  obtain ⟨z, M', e, g, f, -⟩ := q_M_apart (d := 1000) (by decide) h.1 
  exact ⟨z, M', e, RI0_Fr g f (by decide) h, f⟩
theorem w_M_queue  (h : RI0 M)  : okR 1000 259 [.inr 62] wQu M := by
  exact r_queue (d := 1000) (by decide)  h
theorem w_M_evenings  (h : RI0 M)  : okR 1000 263 [.inr 62] wWk M := by
  have s0 := h.2.1
  rcases RI0_rooms h with p | p
  · obtain ⟨z, M', e, g, f⟩ := r_evenings (d := 1000) (by decide)  h.1 p.1 s0
    exact ⟨z, M', e, RI0_Fr g f (by decide) h, f⟩
  · obtain ⟨z, M', e, g, f, -⟩ := q_M_evenings_0 (d := 1000) (by decide)  h.1  p.1 p.2 ⟨by omega, by omega⟩
    exact ⟨z, M', e, RI0_Fr g f (by decide) h, Fr_mono f (by decide)⟩
theorem w_M_weakest  (h : RI0 M)  : okR 1000 264 [.inr 62] wWk M := by
  have s0 := h.2.1
  rcases RI0_rooms h with p | p
  · obtain ⟨z, M', e, g, f⟩ := r_weakest (d := 1000) (by decide)  h.1 p.1 s0
    exact ⟨z, M', e, RI0_Fr g f (by decide) h, f⟩
  · obtain ⟨z, M', e, g, f, -⟩ := q_M_weakest_0 (d := 1000) (by decide)  h.1  p.1 p.2 ⟨by omega, by omega⟩
    exact ⟨z, M', e, RI0_Fr g f (by decide) h, Fr_mono f (by decide)⟩
theorem w_M_keep {a1 : Int} (h : RI0 M) (h1 : -2147483648 ≤ a1 ∧ a1 ≤ 2147483647) : okR 1000 266 [.inr 62, .inl a1] wKeep M := by
  exact r_keep (d := 1000) (by decide) h1.1 h1.2 h
theorem w_M_again {a1 : Int} (h : RI0 M) (h1 : -2147483648 ≤ a1 ∧ a1 ≤ 2147483647) : okR 1000 267 [.inr 62, .inl a1] wAgain M := by
  exact r_again (d := 1000) (by decide) h1.1 h1.2 h
theorem w_M_count {a1 : Int} (h : RI0 M) (h1 : -2147483648 ≤ a1 ∧ a1 ≤ 2147483647) : okR 1000 268 [.inr 62, .inl a1] [(60, 17)] M := by
  obtain ⟨z, M', e, g, f⟩ := q_M_count (d := 1000) (by decide) h.1 h1
  exact ⟨z, M', e, RI0_Fr g f (by decide) h, f⟩
theorem w_M_row {a1 : Int} (h : RI0 M) (h1 : -2147483648 ≤ a1 ∧ a1 ≤ 2147483647) : okR 1000 269 [.inr 62, .inl a1] [(60, 17)] M := by
  obtain ⟨z, M', e, g, f⟩ := q_M_row (d := 1000) (by decide) h.1 h1
  exact ⟨z, M', e, RI0_Fr g f (by decide) h, f⟩
end WR
end
