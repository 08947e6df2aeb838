section
section
/-! contracts of inner calls (by program) -/
theorem v_become_c {d : Nat} (hd : 2 ≤ d) : cOK gAll (xF d) 62 K_158 := ct_of ct_ok (show K_158 ∈ CT.get 62 from (show CT.get 62 = [K_13, K_158] from rfl) ▸ by simp) hd
theorem v_become {d : Nat} (hd : 2 ≤ d) {M : pM} (hM : gM gAll M)  : ∃ M', xF d 62 [.inr 9, .inr 19] M = rV M' ∧ gM gAll M' ∧ Fr [(7, 9), (7, 10), (7, 11), (7, 12), (8, 999), (9, 999), (10, 999), (11, 999), (12, 999), (13, 999), (14, 999), (15, 999), (16, 999)] M M' := by
  obtain ⟨M', e, g, f, -⟩ := cOK_V (v_become_c hd) (A := [.inr 9, .inr 19]) (show aF2 gW [aRef 9, aRef 19] [.inr 9, .inr 19] from ⟨gW_o, gW_o, trivial⟩) hM (show gP0 [] M from fun e he => by cases he) rfl
  exact ⟨M', e, g, f⟩
theorem v_hang_c {d : Nat} (hd : 3 ≤ d) : cOK gAll (xF d) 98 K_164 := ct_of ct_ok (show K_164 ∈ CT.get 98 from (show CT.get 98 = [K_164] from rfl) ▸ by simp) hd
theorem v_hang {d : Nat} (hd : 3 ≤ d) {M : pM} (hM : gM gAll M)  : ∃ M', xF d 98 [.inr 9] M = rV M' ∧ gM gAll M' ∧ Fr [(7, 12), (15, 999), (16, 999)] M M' := by
  obtain ⟨M', e, g, f, -⟩ := cOK_V (v_hang_c hd) (A := [.inr 9]) (show aF2 gW [aRef 9] [.inr 9] from ⟨gW_o, trivial⟩) hM (show gP0 [] M from fun e he => by cases he) rfl
  exact ⟨M', e, g, f⟩
theorem v_law_c {d : Nat} (hd : 5 ≤ d) : cOK gAll (xF d) 91 K_256 := ct_of ct_ok (show K_256 ∈ CT.get 91 from (show CT.get 91 = [K_256, K_272, K_412] from rfl) ▸ by simp) hd
theorem v_law {d : Nat} (hd : 5 ≤ d) {M : pM} (hM : gM gAll M)  : ∃ z M', xF d 91 [.inr 9, .inr 15] M = rI z M' ∧ gM gAll M' ∧ Fr [] M M' ∧ (0 ≤ z ∧ z ≤ 1) := by
  obtain ⟨z, M', e, g, f, alt, ha, q, -⟩ := cOK_I (v_law_c hd) (A := [.inr 9, .inr 15]) (show aF2 gW [aRef 9, aRef 15] [.inr 9, .inr 15] from ⟨gW_o, gW_o, trivial⟩) hM (show gP0 [] M from fun e he => by cases he) rfl
  refine ⟨z, M', e, g, f, ?_⟩
  have ha : alt ∈ [(some (0, 0, 0, 0, 0, 0), [], []), (some (0, 1, 1, 0, 0, 0), [], [])] := ha
  simp only [List.mem_cons, List.not_mem_nil, or_false] at ha
  rcases ha with rfl | rfl
  · obtain ⟨z2, e2, r⟩ := gW_int (show gW _ _ from q) (Nat.le_of_ble_eq_true rfl)
    cases e2
    have := gR0 r
    omega
  · obtain ⟨z2, e2, r⟩ := gW_int (show gW _ _ from q) (Nat.le_of_ble_eq_true rfl)
    cases e2
    have := gR0 r
    omega
theorem v_go_c {d : Nat} (hd : 2 ≤ d) : cOK gAll (xF d) 53 K_243 := ct_of ct_ok (show K_243 ∈ CT.get 53 from (show CT.get 53 = [K_243] from rfl) ▸ by simp) hd
theorem v_go {d : Nat} (hd : 2 ≤ d) {M : pM} (hM : gM gAll M)  : ∃ z M', xF d 53 [.inr 2] M = rI z M' ∧ gM gAll M' ∧ Fr [(0, 15), (0, 16), (39, 3)] M M' ∧ (1 ≤ z ∧ z ≤ 1) := by
  obtain ⟨z, M', e, g, f, alt, ha, q, -⟩ := cOK_I (v_go_c hd) (A := [.inr 2]) (show aF2 gW [aRef 2] [.inr 2] from ⟨gW_o, trivial⟩) hM (show gP0 [] M from fun e he => by cases he) rfl
  refine ⟨z, M', e, g, f, ?_⟩
  have ha : alt ∈ [(some (0, 1, 1, 0, 0, 0), [], [(0, 16, (0, 0, 0, 0, 0, 0)), (39, 3, (0, 0, 0, 0, 0, 0))])] := ha
  simp only [List.mem_cons, List.not_mem_nil, or_false] at ha
  rcases ha with rfl
  · obtain ⟨z2, e2, r⟩ := gW_int (show gW _ _ from q) (Nat.le_of_ble_eq_true rfl)
    cases e2
    have := gR0 r
    omega
theorem v_127_c {d : Nat} (hd : 1 ≤ d) : cOK gAll (xF d) 127 K_241 := ct_of ct_ok (show K_241 ∈ CT.get 127 from (show CT.get 127 = [K_241] from rfl) ▸ by simp) hd
theorem v_127 {d : Nat} (hd : 1 ≤ d) {M : pM} (hM : gM gAll M)  : ∃ M', xF d 127 [.inr 7] M = rV M' ∧ gM gAll M' ∧ Fr [(5, 1)] M M' := by
  obtain ⟨M', e, g, f, -⟩ := cOK_V (v_127_c hd) (A := [.inr 7]) (show aF2 gW [aRef 7] [.inr 7] from ⟨gW_o, trivial⟩) hM (show gP0 [] M from fun e he => by cases he) rfl
  exact ⟨M', e, g, f⟩
theorem v_128_c {d : Nat} (hd : 1 ≤ d) : cOK gAll (xF d) 128 K_257 := ct_of ct_ok (show K_257 ∈ CT.get 128 from (show CT.get 128 = [K_242, K_257] from rfl) ▸ by simp) hd
theorem v_128 {d : Nat} (hd : 1 ≤ d) {M : pM} {a1 : Int} (hM : gM gAll M)  : ∃ M', xF d 128 [.inr 7, .inl a1] M = rV M' ∧ gM gAll M' ∧ Fr [(5, 1), (6, 999)] M M' := by
  obtain ⟨M', e, g, f, -⟩ := cOK_V (v_128_c hd) (A := [.inr 7, .inl a1]) (show aF2 gW [aRef 7, (1, 0, 0, 0, 0, 0)] [.inr 7, .inl a1] from ⟨gW_o, gW_1, trivial⟩) hM (show gP0 [] M from fun e he => by cases he) rfl
  exact ⟨M', e, g, f⟩
theorem v_held_c {d : Nat} (hd : 340 ≤ d) : cOK gAll (xF d) 188 K_463 := ct_of ct_ok (show K_463 ∈ CT.get 188 from (show CT.get 188 = [K_463, K_482] from rfl) ▸ by simp) hd
theorem v_held {d : Nat} (hd : 340 ≤ d) {M : pM} {a1 : Int} (hM : gM gAll M) (h1 : 0 ≤ a1 ∧ a1 ≤ 4) (p0 : 70 ≤ M 60 18 ∧ M 60 18 ≤ 70) (p1 : 40 ≤ M 60 20 ∧ M 60 20 ≤ 40) (p2 : 0 ≤ M 60 21 ∧ M 60 21 ≤ 0) (p3 : -1 ≤ M 60 22 ∧ M 60 22 ≤ -1) : ∃ z M', xF d 188 [.inr 62, .inl a1] M = rI z M' ∧ gM gAll M' ∧ Fr [(60, 21), (60, 22)] M M' := by
  obtain ⟨z, M', e, g, f, alt, ha, q, -⟩ := cOK_I (v_held_c hd) (A := [.inr 62, .inl a1]) (show aF2 gW [aRef 62, (0, 0, 4, 0, 0, 0)] [.inr 62, .inl a1] from ⟨gW_o, gW_i h1.1 h1.2, trivial⟩) hM (show gP0 [(60, 18, (0, 70, 70, 0, 0, 0)), (60, 20, (0, 40, 40, 0, 0, 0)), (60, 21, (0, 0, 0, 0, 0, 0)), (60, 22, (0, -1, -1, 0, 0, 0))] M from fun e he => by
    simp only [List.mem_cons, List.not_mem_nil, or_false] at he
    rcases he with rfl | rfl | rfl | rfl
    · exact gR_i p0.1 p0.2
    · exact gR_i p1.1 p1.2
    · exact gR_i p2.1 p2.2
    · exact gR_i p3.1 p3.2) rfl
  exact ⟨z, M', e, g, f⟩
theorem v_fault_c {d : Nat} (hd : 2 ≤ d) : cOK gAll (xF d) 180 K_465 := ct_of ct_ok (show K_465 ∈ CT.get 180 from (show CT.get 180 = [K_465] from rfl) ▸ by simp) hd
theorem v_fault {d : Nat} (hd : 2 ≤ d) {M : pM} {a1 : Int} (hM : gM gAll M) (h1 : 0 ≤ a1 ∧ a1 ≤ 80) : ∃ M', xF d 180 [.inr 62, .inl a1] M = rV M' ∧ gM gAll M' ∧ Fr [(60, 22)] M M' := by
  obtain ⟨M', e, g, f, -⟩ := cOK_V (v_fault_c hd) (A := [.inr 62, .inl a1]) (show aF2 gW [aRef 62, (0, 0, 80, 0, 0, 0)] [.inr 62, .inl a1] from ⟨gW_o, gW_i h1.1 h1.2, trivial⟩) hM (show gP0 [] M from fun e he => by cases he) rfl
  exact ⟨M', e, g, f⟩
theorem v_copy2_c {d : Nat} (hd : 2 ≤ d) : cOK gAll (xF d) 62 K_13 := ct_of ct_ok (show K_13 ∈ CT.get 62 from (show CT.get 62 = [K_13, K_158] from rfl) ▸ by simp) hd
theorem v_copy2 {d : Nat} (hd : 2 ≤ d) {M : pM} (hM : gM gAll M)  : ∃ M', xF d 62 [.inr 19, .inr 9] M = rV M' ∧ gM gAll M' ∧ Fr [(17, 9), (17, 10), (17, 11), (17, 12), (18, 999), (19, 999), (20, 999), (21, 999), (22, 999), (23, 999), (24, 999), (25, 999), (26, 999)] M M' := by
  obtain ⟨M', e, g, f, -⟩ := cOK_V (v_copy2_c hd) (A := [.inr 19, .inr 9]) (show aF2 gW [aRef 19, aRef 9] [.inr 19, .inr 9] from ⟨gW_o, gW_o, trivial⟩) hM (show gP0 [] M from fun e he => by cases he) rfl
  exact ⟨M', e, g, f⟩
theorem v_read_c {d : Nat} (hd : 7 ≤ d) : cOK gAll (xF d) 107 K_148 := ct_of ct_ok (show K_148 ∈ CT.get 107 from (show CT.get 107 = [K_148] from rfl) ▸ by simp) hd
theorem v_read {d : Nat} (hd : 7 ≤ d) {M : pM} (hM : gM gAll M)  : ∃ z M', xF d 107 [.inr 6, .inr 19] M = rI z M' ∧ gM gAll M' ∧ Fr [(3, 1), (3, 2), (3, 3), (17, 9), (17, 10), (17, 11), (18, 999), (19, 999), (20, 999), (21, 999), (22, 999), (23, 999), (24, 999)] M M' := by
  obtain ⟨z, M', e, g, f, alt, ha, q, -⟩ := cOK_I (v_read_c hd) (A := [.inr 6, .inr 19]) (show aF2 gW [aRef 6, aRef 19] [.inr 6, .inr 19] from ⟨gW_o, gW_o, trivial⟩) hM (show gP0 [] M from fun e he => by cases he) rfl
  exact ⟨z, M', e, g, f⟩
theorem v_rd_c {d : Nat} (hd : 31 ≤ d) : cOK gAll (xF d) 143 K_211 := ct_of ct_ok (show K_211 ∈ CT.get 143 from (show CT.get 143 = [K_211] from rfl) ▸ by simp) hd
theorem v_rd {d : Nat} (hd : 31 ≤ d) {M : pM} (hM : gM gAll M)  : ∃ z M', xF d 143 [.inr 29, .inr 5] M = rI z M' ∧ gM gAll M' ∧ Fr [(3, 1), (3, 2), (3, 3)] M M' ∧ (-1 ≤ z ∧ z ≤ 80) := by
  obtain ⟨z, M', e, g, f, alt, ha, q, -⟩ := cOK_I (v_rd_c hd) (A := [.inr 29, .inr 5]) (show aF2 gW [aRef 29, aRef 5] [.inr 29, .inr 5] from ⟨gW_o, gW_o, trivial⟩) hM (show gP0 [] M from fun e he => by cases he) rfl
  refine ⟨z, M', e, g, f, ?_⟩
  have ha : alt ∈ [(some (0, -1, -1, 0, 0, 0), [], [(3, 2, (0, 0, 40, 0, 0, 0)), (3, 3, (0, -1, -1, 0, 0, 0))]), (some (0, 0, 80, 0, 0, 0), [], [(3, 2, (0, 0, 40, 0, 0, 0))])] := ha
  simp only [List.mem_cons, List.not_mem_nil, or_false] at ha
  rcases ha with rfl | rfl
  · obtain ⟨z2, e2, r⟩ := gW_int (show gW _ _ from q) (Nat.le_of_ble_eq_true rfl)
    cases e2
    have := gR0 r
    omega
  · obtain ⟨z2, e2, r⟩ := gW_int (show gW _ _ from q) (Nat.le_of_ble_eq_true rfl)
    cases e2
    have := gR0 r
    omega
theorem v_rd2_c {d : Nat} (hd : 2 ≤ d) : cOK gAll (xF d) 155 K_213 := ct_of ct_ok (show K_213 ∈ CT.get 155 from (show CT.get 155 = [K_213] from rfl) ▸ by simp) hd
theorem v_rd2 {d : Nat} (hd : 2 ≤ d) {M : pM} (hM : gM gAll M)  : ∃ M', xF d 155 [.inr 30, .inr 3] M = rV M' ∧ gM gAll M' ∧ Fr [(28, 1), (29, 999)] M M' := by
  obtain ⟨M', e, g, f, -⟩ := cOK_V (v_rd2_c hd) (A := [.inr 30, .inr 3]) (show aF2 gW [aRef 30, aRef 3] [.inr 30, .inr 3] from ⟨gW_o, gW_o, trivial⟩) hM (show gP0 [] M from fun e he => by cases he) rfl
  exact ⟨M', e, g, f⟩
theorem v_dayF_c {d : Nat} (hd : 5 ≤ d) : cOK gAll (xF d) 54 K_255 := ct_of ct_ok (show K_255 ∈ CT.get 54 from (show CT.get 54 = [K_255] from rfl) ▸ by simp) hd
theorem v_dayF {d : Nat} (hd : 5 ≤ d) {M : pM} (hM : gM gAll M)  : ∃ z M', xF d 54 [.inr 2] M = rI z M' ∧ gM gAll M' ∧ Fr [(3, 1), (3, 2), (3, 3)] M M' ∧ (-1 ≤ z ∧ z ≤ 80) := by
  obtain ⟨z, M', e, g, f, alt, ha, q, -⟩ := cOK_I (v_dayF_c hd) (A := [.inr 2]) (show aF2 gW [aRef 2] [.inr 2] from ⟨gW_o, trivial⟩) hM (show gP0 [] M from fun e he => by cases he) rfl
  refine ⟨z, M', e, g, f, ?_⟩
  have ha : alt ∈ [(some (0, -1, -1, 0, 0, 0), [], [(3, 2, (0, 0, 40, 0, 0, 0)), (3, 3, (0, -1, -1, 0, 0, 0))]), (some (0, 0, 80, 0, 0, 0), [], [(1, 1, (0, 1, 80, 0, 0, 0)), (3, 2, (0, 0, 40, 0, 0, 0))])] := ha
  simp only [List.mem_cons, List.not_mem_nil, or_false] at ha
  rcases ha with rfl | rfl
  · obtain ⟨z2, e2, r⟩ := gW_int (show gW _ _ from q) (Nat.le_of_ble_eq_true rfl)
    cases e2
    have := gR0 r
    omega
  · obtain ⟨z2, e2, r⟩ := gW_int (show gW _ _ from q) (Nat.le_of_ble_eq_true rfl)
    cases e2
    have := gR0 r
    omega
theorem v_thIn_c {d : Nat} (hd : 2 ≤ d) : cOK gAll (xF d) 86 K_235 := ct_of ct_ok (show K_235 ∈ CT.get 86 from (show CT.get 86 = [K_235, K_267, K_407, K_417] from rfl) ▸ by simp) hd
theorem v_thIn {d : Nat} (hd : 2 ≤ d) {M : pM} {a1 : Int} (hM : gM gAll M) (h1 : -2147483648 ≤ a1 ∧ a1 ≤ 2147483647) : ∃ z M', xF d 86 [.inr 9, .inl a1, .inr 15] M = rI z M' ∧ gM gAll M' ∧ Fr [] M M' ∧ (0 ≤ z ∧ z ≤ 1023) := by
  obtain ⟨z, M', e, g, f, alt, ha, q, -⟩ := cOK_I (v_thIn_c hd) (A := [.inr 9, .inl a1, .inr 15]) (show aF2 gW [aRef 9, (0, -2147483648, 2147483647, 0, 0, 0), aRef 15] [.inr 9, .inl a1, .inr 15] from ⟨gW_o, gW_i h1.1 h1.2, gW_o, trivial⟩) hM (show gP0 [] M from fun e he => by cases he) rfl
  refine ⟨z, M', e, g, f, ?_⟩
  have ha : alt ∈ [(some (0, 0, 1023, 0, 0, 0), [], [])] := ha
  simp only [List.mem_cons, List.not_mem_nil, or_false] at ha
  rcases ha with rfl
  · obtain ⟨z2, e2, r⟩ := gW_int (show gW _ _ from q) (Nat.le_of_ble_eq_true rfl)
    cases e2
    have := gR0 r
    omega
theorem v_load_c {d : Nat} (hd : 3 ≤ d) : cOK gAll (xF d) 87 K_239 := ct_of ct_ok (show K_239 ∈ CT.get 87 from (show CT.get 87 = [K_239, K_270, K_410, K_418] from rfl) ▸ by simp) hd
theorem v_load {d : Nat} (hd : 3 ≤ d) {M : pM} {a1 : Int} (hM : gM gAll M) (h1 : -2147483648 ≤ a1 ∧ a1 ≤ 2147483647) : ∃ z M', xF d 87 [.inr 9, .inl a1, .inr 15] M = rI z M' ∧ gM gAll M' ∧ Fr [] M M' := by
  obtain ⟨z, M', e, g, f, alt, ha, q, -⟩ := cOK_I (v_load_c hd) (A := [.inr 9, .inl a1, .inr 15]) (show aF2 gW [aRef 9, (0, -2147483648, 2147483647, 0, 0, 0), aRef 15] [.inr 9, .inl a1, .inr 15] from ⟨gW_o, gW_i h1.1 h1.2, gW_o, trivial⟩) hM (show gP0 [] M from fun e he => by cases he) rfl
  exact ⟨z, M', e, g, f⟩
theorem v_next_c {d : Nat} (hd : 4 ≤ d) : cOK gAll (xF d) 77 K_303 := ct_of ct_ok (show K_303 ∈ CT.get 77 from (show CT.get 77 = [K_303] from rfl) ▸ by simp) hd
theorem v_next {d : Nat} (hd : 4 ≤ d) {M : pM} {a1 : Int} {a2 : Int} (hM : gM gAll M) (h1 : -2147483648 ≤ a1 ∧ a1 ≤ 2147483647) (h2 : -2147483648 ≤ a2 ∧ a2 ≤ 2147483647) : ∃ z M', xF d 77 [.inr 9, .inl a1, .inl a2] M = rI z M' ∧ gM gAll M' ∧ Fr [] M M' ∧ (0 ≤ z ∧ z ≤ 63) := by
  obtain ⟨z, M', e, g, f, alt, ha, q, -⟩ := cOK_I (v_next_c hd) (A := [.inr 9, .inl a1, .inl a2]) (show aF2 gW [aRef 9, (0, -2147483648, 2147483647, 0, 0, 0), (0, -2147483648, 2147483647, 0, 0, 0)] [.inr 9, .inl a1, .inl a2] from ⟨gW_o, gW_i h1.1 h1.2, gW_i h2.1 h2.2, trivial⟩) hM (show gP0 [] M from fun e he => by cases he) rfl
  refine ⟨z, M', e, g, f, ?_⟩
  have ha : alt ∈ [(some (0, 0, 63, 0, 0, 0), [], [])] := ha
  simp only [List.mem_cons, List.not_mem_nil, or_false] at ha
  rcases ha with rfl
  · obtain ⟨z2, e2, r⟩ := gW_int (show gW _ _ from q) (Nat.le_of_ble_eq_true rfl)
    cases e2
    have := gR0 r
    omega
theorem v_sets_c {d : Nat} (hd : 2 ≤ d) : cOK gAll (xF d) 93 K_301 := ct_of ct_ok (show K_301 ∈ CT.get 93 from (show CT.get 93 = [K_301] from rfl) ▸ by simp) hd
theorem v_sets {d : Nat} (hd : 2 ≤ d) {M : pM} {a1 : Int} (hM : gM gAll M) (h1 : -2147483648 ≤ a1 ∧ a1 ≤ 2147483647) : ∃ z M', xF d 93 [.inr 9, .inl a1] M = rI z M' ∧ gM gAll M' ∧ Fr [] M M' ∧ (0 ≤ z ∧ z ≤ 255) := by
  obtain ⟨z, M', e, g, f, alt, ha, q, -⟩ := cOK_I (v_sets_c hd) (A := [.inr 9, .inl a1]) (show aF2 gW [aRef 9, (0, -2147483648, 2147483647, 0, 0, 0)] [.inr 9, .inl a1] from ⟨gW_o, gW_i h1.1 h1.2, trivial⟩) hM (show gP0 [] M from fun e he => by cases he) rfl
  refine ⟨z, M', e, g, f, ?_⟩
  have ha : alt ∈ [(some (0, 0, 255, 0, 0, 0), [], [])] := ha
  simp only [List.mem_cons, List.not_mem_nil, or_false] at ha
  rcases ha with rfl
  · obtain ⟨z2, e2, r⟩ := gW_int (show gW _ _ from q) (Nat.le_of_ble_eq_true rfl)
    cases e2
    have := gR0 r
    omega
theorem v_val_c {d : Nat} (hd : 31 ≤ d) : cOK gAll (xF d) 144 K_364 := ct_of ct_ok (show K_364 ∈ CT.get 144 from (show CT.get 144 = [K_364] from rfl) ▸ by simp) hd
theorem v_val {d : Nat} (hd : 31 ≤ d) {M : pM} {a2 : Int} {a3 : Int} (hM : gM gAll M) (h2 : -2147483648 ≤ a2 ∧ a2 ≤ 2147483647) (h3 : -2147483648 ≤ a3 ∧ a3 ≤ 2147483647) : ∃ z M', xF d 144 [.inr 29, .inr 9, .inl a2, .inl a3] M = rI z M' ∧ gM gAll M' ∧ Fr [(30, 1), (30, 2), (30, 3), (31, 999)] M M' ∧ (-999 ≤ z ∧ z ≤ 999) := by
  obtain ⟨z, M', e, g, f, alt, ha, q, -⟩ := cOK_I (v_val_c hd) (A := [.inr 29, .inr 9, .inl a2, .inl a3]) (show aF2 gW [aRef 29, aRef 9, (0, -2147483648, 2147483647, 0, 0, 0), (0, -2147483648, 2147483647, 0, 0, 0)] [.inr 29, .inr 9, .inl a2, .inl a3] from ⟨gW_o, gW_o, gW_i h2.1 h2.2, gW_i h3.1 h3.2, trivial⟩) hM (show gP0 [] M from fun e he => by cases he) rfl
  refine ⟨z, M', e, g, f, ?_⟩
  have ha : alt ∈ [(some (0, 0, 0, 0, 0, 0), [], []), (some (0, 1, 1, 0, 0, 0), [(4, 0, 0, 0, 0, 0), (4, 0, 0, 0, 0, 0), (0, 0, 9, 0, 0, 0), (0, 0, 5, 0, 0, 0)], [(7, 9, (0, 1, 6, 0, 0, 0)), (7, 10, (0, 1, 10, 0, 0, 0)), (28, 1, (0, 1, 80, 0, 0, 0)), (30, 2, (0, 1, 40, 0, 0, 0)), (31, 0, (0, 0, 9, 0, 0, 0)), (31, 1, (0, 0, 99, 0, 0, 0)), (31, 2, (0, 0, 9, 0, 0, 0)), (31, 3, (0, 0, 9, 0, 0, 0)), (31, 4, (0, 0, 63, 0, 0, 0)), (31, 5, (0, 0, 5, 0, 0, 0)), (31, 6, (0, -1, 99, 0, 0, 0)), (31, 7, (0, 0, 63, 0, 0, 0)), (31, 8, (0, 0, 1, 0, 0, 0))]), (some (0, -999, 999, 0, 0, 0), [(4, 0, 0, 0, 0, 0), (4, 0, 0, 0, 0, 0), (0, 0, 9, 0, 0, 0), (0, 0, 5, 0, 0, 0)], [(7, 9, (0, 1, 6, 0, 0, 0)), (7, 10, (0, 1, 10, 0, 0, 0)), (28, 1, (0, 1, 80, 0, 0, 0)), (30, 2, (0, 0, 40, 0, 0, 0)), (31, 0, (0, 0, 9, 0, 0, 0)), (31, 1, (0, 0, 99, 0, 0, 0)), (31, 2, (0, 0, 9, 0, 0, 0)), (31, 3, (0, 0, 9, 0, 0, 0)), (31, 4, (0, 0, 63, 0, 0, 0)), (31, 5, (0, 0, 5, 0, 0, 0)), (31, 6, (0, -1, 99, 0, 0, 0)), (31, 7, (0, 0, 63, 0, 0, 0)), (31, 8, (0, 0, 1, 0, 0, 0))])] := ha
  simp only [List.mem_cons, List.not_mem_nil, or_false] at ha
  rcases ha with rfl | rfl | rfl
  · obtain ⟨z2, e2, r⟩ := gW_int (show gW _ _ from q) (Nat.le_of_ble_eq_true rfl)
    cases e2
    have := gR0 r
    omega
  · obtain ⟨z2, e2, r⟩ := gW_int (show gW _ _ from q) (Nat.le_of_ble_eq_true rfl)
    cases e2
    have := gR0 r
    omega
  · obtain ⟨z2, e2, r⟩ := gW_int (show gW _ _ from q) (Nat.le_of_ble_eq_true rfl)
    cases e2
    have := gR0 r
    omega
theorem v_at_c {d : Nat} (hd : 2 ≤ d) : cOK gAll (xF d) 154 K_259 := ct_of ct_ok (show K_259 ∈ CT.get 154 from (show CT.get 154 = [K_259] from rfl) ▸ by simp) hd
theorem v_at {d : Nat} (hd : 2 ≤ d) {M : pM} {a1 : Int} (hM : gM gAll M) (h1 : -2147483648 ≤ a1 ∧ a1 ≤ 2147483647) : ∃ z M', xF d 154 [.inr 3, .inl a1] M = rI z M' ∧ gM gAll M' ∧ Fr [] M M' ∧ (-1 ≤ z ∧ z ≤ 255) := by
  obtain ⟨z, M', e, g, f, alt, ha, q, -⟩ := cOK_I (v_at_c hd) (A := [.inr 3, .inl a1]) (show aF2 gW [aRef 3, (0, -2147483648, 2147483647, 0, 0, 0)] [.inr 3, .inl a1] from ⟨gW_o, gW_i h1.1 h1.2, trivial⟩) hM (show gP0 [] M from fun e he => by cases he) rfl
  refine ⟨z, M', e, g, f, ?_⟩
  have ha : alt ∈ [(some (0, -1, -1, 0, 0, 0), [], []), (some (0, 0, 0, 0, 0, 0), [(4, 0, 0, 0, 0, 0), (0, 0, 79, 0, 0, 0)], [(1, 1, (0, 1, 80, 0, 0, 0))]), (some (0, 0, 255, 0, 0, 0), [(4, 0, 0, 0, 0, 0), (0, 0, 79, 0, 0, 0)], [(1, 1, (0, 1, 80, 0, 0, 0))])] := ha
  simp only [List.mem_cons, List.not_mem_nil, or_false] at ha
  rcases ha with rfl | rfl | rfl
  · obtain ⟨z2, e2, r⟩ := gW_int (show gW _ _ from q) (Nat.le_of_ble_eq_true rfl)
    cases e2
    have := gR0 r
    omega
  · obtain ⟨z2, e2, r⟩ := gW_int (show gW _ _ from q) (Nat.le_of_ble_eq_true rfl)
    cases e2
    have := gR0 r
    omega
  · obtain ⟨z2, e2, r⟩ := gW_int (show gW _ _ from q) (Nat.le_of_ble_eq_true rfl)
    cases e2
    have := gR0 r
    omega
theorem v_carry_c {d : Nat} (hd : 6 ≤ d) : cOK gAll (xF d) 11 K_234 := ct_of ct_ok (show K_234 ∈ CT.get 11 from (show CT.get 11 = [K_234] from rfl) ▸ by simp) hd
theorem v_carry {d : Nat} (hd : 6 ≤ d) {M : pM} {a1 : Int} {a2 : Int} (hM : gM gAll M) (h1 : -2147483648 ≤ a1 ∧ a1 ≤ 2147483647) (h2 : -2147483648 ≤ a2 ∧ a2 ≤ 2147483647) : ∃ z M', xF d 11 [.inr 2, .inl a1, .inl a2] M = rI z M' ∧ gM gAll M' ∧ Fr [(0, 16), (13, 999), (39, 3), (40, 999), (41, 999), (42, 999)] M M' ∧ (-3 ≤ z ∧ z ≤ 45) := by
  obtain ⟨z, M', e, g, f, alt, ha, q, -⟩ := cOK_I (v_carry_c hd) (A := [.inr 2, .inl a1, .inl a2]) (show aF2 gW [aRef 2, (0, -2147483648, 2147483647, 0, 0, 0), (0, -2147483648, 2147483647, 0, 0, 0)] [.inr 2, .inl a1, .inl a2] from ⟨gW_o, gW_i h1.1 h1.2, gW_i h2.1 h2.2, trivial⟩) hM (show gP0 [] M from fun e he => by cases he) rfl
  refine ⟨z, M', e, g, f, ?_⟩
  have ha : alt ∈ [(some (0, -1, -1, 0, 0, 0), [], []), (some (0, -2, -2, 0, 0, 0), [(4, 0, 0, 0, 0, 0), (0, 0, 9, 0, 0, 0), (0, 0, 5, 0, 0, 0)], [(7, 9, (0, 1, 6, 0, 0, 0)), (7, 10, (0, 1, 10, 0, 0, 0))]), (some (0, -3, -3, 0, 0, 0), [(4, 0, 0, 0, 0, 0), (0, 0, 9, 0, 0, 0), (0, 0, 5, 0, 0, 0)], [(7, 9, (0, 1, 6, 0, 0, 0)), (7, 10, (0, 1, 10, 0, 0, 0))]), (some (0, 0, 45, 0, 0, 0), [(4, 0, 0, 0, 0, 0), (0, 0, 9, 0, 0, 0), (0, 0, 5, 0, 0, 0)], [(7, 9, (0, 1, 6, 0, 0, 0)), (7, 10, (0, 1, 10, 0, 0, 0))])] := ha
  simp only [List.mem_cons, List.not_mem_nil, or_false] at ha
  rcases ha with rfl | rfl | rfl | rfl
  · obtain ⟨z2, e2, r⟩ := gW_int (show gW _ _ from q) (Nat.le_of_ble_eq_true rfl)
    cases e2
    have := gR0 r
    omega
  · obtain ⟨z2, e2, r⟩ := gW_int (show gW _ _ from q) (Nat.le_of_ble_eq_true rfl)
    cases e2
    have := gR0 r
    omega
  · obtain ⟨z2, e2, r⟩ := gW_int (show gW _ _ from q) (Nat.le_of_ble_eq_true rfl)
    cases e2
    have := gR0 r
    omega
  · obtain ⟨z2, e2, r⟩ := gW_int (show gW _ _ from q) (Nat.le_of_ble_eq_true rfl)
    cases e2
    have := gR0 r
    omega
end
section
/-! signs come behind the text, on both sides -/
def sgX (b : Int) (k : Nat) : Int := jand (jushr b (24 + -8 * (k : Int))) 255
def sgM (b : Int) (k : Nat) : Int := jb (jb (jshr b (8 * (3 + -1 * (k : Int)))))
/-- the text of object t (its length at place p of object q) with k signs more -/
def tapp (M : pM) (q p t L : Nat) (s : Nat → Int) (k : Nat) : pM := fun o i => if o = t ∧ L ≤ i ∧ i < L + k then s (i - L) else if o = q ∧ i = p then ((L + k : Nat) : Int) else M o i
theorem tapp_len {M : pM} {q p t L : Nat} {s : Nat → Int} {k : Nat} (h : q ≠ t) : tapp M q p t L s k q p = ((L + k : Nat) : Int) := by
  unfold tapp
  rw [if_neg (fun z => h z.1), if_pos ⟨rfl, rfl⟩]
theorem tapp_zero {M : pM} {q p t L : Nat} {s : Nat → Int} (hL : M q p = L) : tapp M q p t L s 0 = M := by
  funext o i
  unfold tapp
  rw [if_neg (by omega)]
  by_cases h : o = q ∧ i = p
  · rw [if_pos h, h.1, h.2, hL]; rfl
  · rw [if_neg h]
theorem tapp_succ {M : pM} {q p t L : Nat} {s : Nat → Int} {k : Nat} (h : q ≠ t) : pset (pset (tapp M q p t L s k) t (L + k) (s k)) q p (((L + k : Nat) : Int) + 1) = tapp M q p t L s (k + 1) := by
  funext o i
  unfold pset tapp
  by_cases h1 : o = q ∧ i = p
  · rw [if_pos h1, if_neg (fun z => h (h1.1.symm.trans z.1)), if_pos h1]; rfl
  · rw [if_neg h1]
    by_cases h2 : o = t ∧ i = L + k
    · rw [if_pos h2, if_pos ⟨h2.1, by omega, by omega⟩, h2.2, Nat.add_sub_cancel_left]
    · rw [if_neg h2]
      by_cases h3 : o = t ∧ L ≤ i ∧ i < L + k
      · rw [if_pos h3, if_pos ⟨h3.1, h3.2.1, by omega⟩]
      · rw [if_neg h3, if_neg h1]
        by_cases h4 : o = t ∧ L ≤ i ∧ i < L + (k + 1)
        · exact absurd ⟨h4.1, by omega⟩ h2
        · rw [if_neg h4, if_neg h1]
theorem tapp_succ' {M : pM} {q p t L : Nat} {s : Nat → Int} {k : Nat} (h : q ≠ t) : pset (pset (tapp M q p t L s k) q p (((L + k : Nat) : Int) + 1)) t (L + k) (s k) = tapp M q p t L s (k + 1) := by
  rw [← tapp_succ h]
  funext o i
  unfold pset
  by_cases h1 : o = t ∧ i = L + k
  · rw [if_pos h1, if_neg (fun z => h (z.1.symm.trans h1.1)), if_pos h1]
  · rw [if_neg h1]
    by_cases h2 : o = q ∧ i = p
    · rw [if_pos h2, if_pos h2]
    · rw [if_neg h2, if_neg h2, if_neg h1]
theorem c_append {d : Nat} (hd : 1 ≤ d) {M : pM} {L : Nat} (hL : M 1 1 = L) (h8 : L ≤ 80) {b : Int} : xF d 152 [.inr 3, .inl b] M = if L + 4 ≤ 80 then rI 1 (tapp M 1 1 2 L (sgX b) 4) else rI 0 M := by
  obtain ⟨D, rfl, -⟩ := dsucc hd
  rw [T_Text_append, hL, if_neg (by rw [lt32_iff] <;> omega)]
  by_cases h4 : L + 4 ≤ 80
  · rw [if_pos (by rw [le32_iff] <;> omega), if_pos h4]
    have key : ∀ m k : Nat, k + m = 4 → xE D 152 13 [.inr 3, .inl b, .inl (24 + -8 * (k : Int))] [] (tapp M 1 1 2 L (sgX b) k) = rI 1 (tapp M 1 1 2 L (sgX b) 4) := by
      intro m
      induction m with
      | zero =>
        intro k hk
        have hk : k = 4 := by omega
        subst hk
        rw [L_Text_append_13, if_pos (by decide)]
      | succ m ih =>
        intro k hk
        rw [L_Text_append_13, if_neg (by rw [lt32_iff] <;> omega), tapp_len (by decide), if_pos (by omega), Int.toNat_natCast, pset_ne (o := 2) (o' := 1) (by decide), tapp_len (by decide)]
        rw [show jand (jushr b (24 + -8 * (k : Int))) 255 = sgX b k from rfl, tapp_succ (by decide), show 24 + -8 * (k : Int) + -8 = 24 + -8 * ((k + 1 : Nat) : Int) by omega]
        exact ih (k + 1) (by omega)
    have h := key 4 0 rfl
    rw [tapp_zero hL] at h
    exact h
  · rw [if_neg (by rw [le32_iff] <;> omega), if_neg h4]
theorem c_sign {d : Nat} (hd : 2 ≤ d) {M : pM} {L : Nat} (hL : M 1 1 = L) (h8 : L ≤ 80) {b : Int} : xF d 0 [.inr 2, .inl b] M = if L + 4 ≤ 80 then rI ((L + 4 : Nat) : Int) (tapp M 1 1 2 L (sgX b) 4) else rI (-1) M := by
  obtain ⟨D, rfl, hD⟩ := dsucc hd
  rw [T_X_sign, c_append hD hL h8]
  by_cases h4 : L + 4 ≤ 80
  · rw [if_pos h4, if_pos h4, pbI_rI, if_neg (by decide), tapp_len (by decide)]
  · rw [if_neg h4, if_neg h4, pbI_rI, if_pos (by decide)]
theorem m_sign {d : Nat} (hd : 1 ≤ d) {M : pM} {L : Nat} (hL : M 60 14 = L) (h8 : L ≤ 80) {b : Int} : xF d 175 [.inr 62, .inl b] M = if L + 4 ≤ 80 then rI ((L + 4 : Nat) : Int) (tapp (pset M 60 17 0) 60 14 68 L (sgM b) 4) else rI (-1) (pset M 60 17 0) := by
  obtain ⟨D, rfl, -⟩ := dsucc hd
  have hL2 : pset M 60 17 0 60 14 = L := by rw [pset_ne2 (by decide), hL]
  rw [T_M_sign, hL2]
  by_cases h4 : L + 4 ≤ 80
  · rw [if_pos (by rw [le32_iff] <;> omega), if_pos h4]
    generalize hM : pset M 60 17 0 = M9 at hL2 ⊢
    have key : ∀ m k : Nat, k + m = 4 → xE D 175 13 [.inr 62, .inl b, .inl (3 + -1 * (k : Int))] [] (tapp M9 60 14 68 L (sgM b) k) = rI ((L + 4 : Nat) : Int) (tapp M9 60 14 68 L (sgM b) 4) := by
      intro m
      induction m with
      | zero =>
        intro k hk
        have hk : k = 4 := by omega
        subst hk
        rw [L_M_sign_13, if_pos (by decide), tapp_len (by decide)]
      | succ m ih =>
        intro k hk
        rw [L_M_sign_13, if_neg (by rw [lt32_iff] <;> omega), tapp_len (by decide), if_pos (by omega), Int.toNat_natCast]
        rw [show jb (jb (jshr b (8 * (3 + -1 * (k : Int))))) = sgM b k from rfl, tapp_succ' (by decide), show 3 + -1 * (k : Int) + -1 = 3 + -1 * ((k + 1 : Nat) : Int) by omega]
        exact ih (k + 1) (by omega)
    have h := key 4 0 rfl
    rw [tapp_zero hL2] at h
    exact h
  · rw [if_neg (by rw [le32_iff] <;> omega), if_neg h4]
end
section
/-! who reads the text leaves it empty, on both sides -/
section TX
variable {D d : Nat} {M M' : pM}
theorem x_cut (hd : 1 ≤ d) {b : Int} (h1 : -2147483648 ≤ b) (h2 : b < 2147483648) (hM : gM gAll M) : xF d 153 [.inr 3, .inl b] M = if 0 ≤ b ∧ b ≤ M 1 1 then rI 1 (pset M 1 1 b) else rI 0 M := by
  obtain ⟨D, rfl, -⟩ := dsucc hd
  have r := gm_i hM 1 1 (lo := 0) (hi := 80) (by decide +kernel) (by decide +kernel)
  rw [T_Text_cut]
  by_cases q : b < 0
  · rw [if_pos (by rw [lt32_iff] <;> omega), if_neg (by omega)]
  · rw [if_neg (by rw [lt32_iff] <;> omega)]
    by_cases q2 : b ≤ M 1 1
    · rw [if_pos (by rw [le32_iff] <;> omega), if_pos (by omega)]
    · rw [if_neg (by rw [le32_iff] <;> omega), if_neg (by omega)]
theorem x_cut0 (hd : 1 ≤ d) (hM : gM gAll M) : xF d 153 [.inr 3, .inl 0] M = rI 1 (pset M 1 1 0) ∧ gM gAll (pset M 1 1 0) := by
  have r := gm_i hM 1 1 (lo := 0) (hi := 80) (by decide +kernel) (by decide +kernel)
  exact ⟨by rw [x_cut hd (by decide) (by decide) hM, if_pos (by omega)], gM_f hM (lo := 0) (hi := 80) (by decide +kernel) (by decide) (by decide)⟩
theorem rI_inj {a b : Int} {M1 M2 : pM} (h : (rI a M1 : Option pR) = rI b M2) : a = b ∧ M1 = M2 := by
  cases h; exact ⟨rfl, rfl⟩
theorem t_X_house {d : Nat} (hd : 8 ≤ d) (hM : gM gAll M) {z : Int} (e : xF d 2 [.inr 2] M = rI z M') : M' 1 1 = 0 := by
  obtain ⟨D, rfl, hD⟩ := dsucc hd
  have r := gm_i hM 1 1 (lo := 0) (hi := 80) (by decide +kernel) (by decide +kernel)
  rw [T_X_house] at e
  by_cases q : eq32 (M 1 1) 0
  · rw [if_neg (fun y => y q)] at e
    rw [← (rI_inj e).2]
    rw [eq32_iff (by omega) (by omega) (by omega) (by omega)] at q
    exact q
  · obtain ⟨M1, e1, g1, -⟩ := v_copy2 (d := D) (by omega) hM
    obtain ⟨v, M2, e2, g2, -⟩ := v_read (d := D) (by omega) g1
    obtain ⟨e3, g3⟩ := x_cut0 (d := D) (by omega) g2
    rw [if_pos q, e1, pbN_rV, e2, pbI_rI, e3, pbI_rI] at e
    by_cases q2 : lt32 v 0
    · rw [if_pos q2] at e
      rw [← (rI_inj e).2, pset_eq]
    · obtain ⟨M4, e4, g4, f4⟩ := v_become (d := D) (by omega) g3
      obtain ⟨M5, e5, g5, f5⟩ := v_hang (d := D) (by omega) g4
      obtain ⟨D', rfl, -⟩ := dsucc (show 1 ≤ D by omega)
      rw [if_neg q2, e4, pbN_rV, e5, pbN_rV, T_Past_forget, pbN_rV] at e
      rw [← (rI_inj e).2, pset_ne (by decide), f5 1 1 (by decide), f4 1 1 (by decide), pset_eq]
theorem t_X_rule {d : Nat} (hd : 32 ≤ d) (hM : gM gAll M) {z : Int} (e : xF d 3 [.inr 2] M = rI z M') : M' 1 1 = 0 := by
  obtain ⟨D, rfl, hD⟩ := dsucc hd
  obtain ⟨v, M1, e1, g1, -⟩ := v_rd (d := D) (by omega) hM
  rw [T_X_rule, e1, pbI_rI] at e
  by_cases q : eq32 v (-1)
  · obtain ⟨M2, e2, g2, -⟩ := v_rd2 (d := D) (by omega) g1
    rw [if_neg (fun y => y q), e2, pbN_rV, (x_cut0 (d := D) (by omega) g2).1, pbI_rI, if_neg (fun y => y q)] at e
    rw [← (rI_inj e).2, pset_eq]
  · rw [if_pos q, (x_cut0 (d := D) (by omega) g1).1, pbI_rI, if_pos q] at e
    rw [← (rI_inj e).2, pset_eq]
/-- the end of day -/
theorem x_dayT (hD : 5 ≤ D) (hM : gM gAll M) (h0 : M 1 1 = 0) (x2 x3 x4 : Int) : ∃ z M', (if le32 x2 x4 then
 (pbI (xF D 91 [.inr 9, .inr 15] M) fun v4 M3 =>
 if eq32 v4 0 then
 (pbN (xF D 127 [.inr 7] M3) fun M5 =>
 pbN (xF D 128 [.inr 7, .inl 0] M5) fun M6 =>
 pbN (xF D 128 [.inr 7, .inl x3] M6) fun M7 =>
 some (some (.inl x4), M7))
 else
 (pbI (xF D 53 [.inr 2] M3) fun v9 M8 =>
 pbN (xF D 127 [.inr 7] M8) fun M10 =>
 pbN (xF D 128 [.inr 7, .inl v9] M10) fun M11 =>
 pbN (xF D 128 [.inr 7, .inl x3] M11) fun M12 =>
 some (some (.inl x4), M12)))
 else
 (pbN (xF D 127 [.inr 7] M) fun M13 =>
 pbN (xF D 128 [.inr 7, .inl (-1)] M13) fun M14 =>
 pbN (xF D 128 [.inr 7, .inl x3] M14) fun M15 =>
 some (some (.inl x4), M15)) : Option pR) = rI z M' ∧ M' 1 1 = 0 := by
  have fin : ∀ (M : pM) (v : Int), gM gAll M → M 1 1 = 0 → ∃ z M', (pbN (xF D 127 [.inr 7] M) fun M13 => pbN (xF D 128 [.inr 7, .inl v] M13) fun M14 => pbN (xF D 128 [.inr 7, .inl x3] M14) fun M15 => some (some (.inl x4), M15) : Option pR) = rI z M' ∧ M' 1 1 = 0 := fun M v hM h0 => by
    obtain ⟨M1, e1, g1, f1⟩ := v_127 (d := D) (by omega) hM
    obtain ⟨M2, e2, g2, f2⟩ := v_128 (d := D) (by omega) (a1 := v) g1
    obtain ⟨M3, e3, g3, f3⟩ := v_128 (d := D) (by omega) (a1 := x3) g2
    rw [e1, pbN_rV, e2, pbN_rV, e3, pbN_rV]
    exact ⟨_, M3, rfl, by rw [f3 1 1 (by decide), f2 1 1 (by decide), f1 1 1 (by decide)]; exact h0⟩
  by_cases q : le32 x2 x4
  · obtain ⟨v, M1, e1, g1, f1, -⟩ := v_law (d := D) (by omega) hM
    have k1 : M1 1 1 = 0 := by rw [f1 1 1 (by decide)]; exact h0
    rw [if_pos q, e1, pbI_rI]
    by_cases q2 : eq32 v 0
    · rw [if_pos q2]; exact fin M1 0 g1 k1
    · obtain ⟨w, M2, e2, g2, f2, -⟩ := v_go (d := D) (by omega) g1
      rw [if_neg q2, e2, pbI_rI]
      exact fin M2 w g2 (by rw [f2 1 1 (by decide)]; exact k1)
  · rw [if_neg q]; exact fin M (-1) hM h0
theorem x_day29 (hD : 6 ≤ D) {n : Nat} (hn : n ≤ 20) (x1 : Int) : ∀ (m k : Nat) (x3 x4 : Int) (y : pV) (M : pM), k + m = n → gM gAll M → ∃ z M', xE D 13 29 [.inr 2, .inl x1, .inl (n : Int), .inl x3, .inl x4, .inl (k : Int), y] [] M = rI z M' ∧ M' 1 1 = 0 := by
  intro m
  induction m with
  | zero =>
    intro k x3 x4 y M hk hM
    obtain ⟨e0, g0⟩ := x_cut0 (d := D) (by omega) hM
    rw [L_X_day_29, if_pos (by rw [le32_iff] <;> omega), e0, pbI_rI]
    exact x_dayT (by omega) g0 pset_eq _ _ _
  | succ m ih =>
    intro k x3 x4 y M hk hM
    obtain ⟨v, M1, e1, g1, -, b1⟩ := v_at (d := D) (by omega) (a1 := (k : Int) * 4) hM ⟨by omega, by omega⟩
    obtain ⟨w, M2, e2, g2, -, b2⟩ := v_at (d := D) (by omega) (a1 := (k : Int) * 4 + 2) g1 ⟨by omega, by omega⟩
    obtain ⟨u, M3, e3, g3, -⟩ := v_carry (d := D) (by omega) (a1 := v - 97) (a2 := w - 48) g2 ⟨by omega, by omega⟩ ⟨by omega, by omega⟩
    rw [L_X_day_29, if_neg (by rw [le32_iff] <;> omega), e1, pbI_rI, e2, pbI_rI, e3, pbI_rI, show ((k : Int) + 1) = ((k + 1 : Nat) : Int) by omega]
    by_cases q : le32 0 u
    · rw [if_pos q]; exact ih (k + 1) _ _ _ M3 (by omega) g3
    · obtain ⟨e0, g0⟩ := x_cut0 (d := D) (by omega) g3
      rw [if_neg q, e0, pbI_rI]
      exact x_dayT (by omega) g0 pset_eq _ _ _
theorem t_X_day {d : Nat} (hd : 7 ≤ d) (hM : gM gAll M) {z : Int} (e : xF d 13 [.inr 2] M = rI z M') : M' 1 1 = 0 := by
  obtain ⟨D, rfl, hD⟩ := dsucc hd
  obtain ⟨v, M1, e1, g1, -, b1⟩ := v_dayF (d := D) (by omega) hM
  have r := gm_i g1 1 1 (lo := 0) (hi := 80) (by decide +kernel) (by decide +kernel)
  rw [T_X_day, e1, pbI_rI] at e
  by_cases q : eq32 v (-1)
  · rw [if_pos q] at e
    obtain ⟨L, hL⟩ := natI r.1
    have ej : jdiv (M1 1 1 + 1) 4 = (((L + 1) / 4 : Nat) : Int) := by
      rw [hL, show ((L : Int) + 1) = ((L + 1 : Nat) : Int) by omega, show (4 : Int) = ((4 : Nat) : Int) from rfl, jdiv_nat (by omega) (by omega) (by omega)]
    rw [ej] at e
    obtain ⟨z2, M2, e2, k2⟩ := x_day29 (D := D) (by omega) (n := (L + 1) / 4) (by omega) v ((L + 1) / 4) 0 0 0 (.inr 0) M1 (by omega) g1
    have e3 := e.symm.trans e2
    rw [(rI_inj e3).2]; exact k2
  · rw [if_neg q, (x_cut0 (d := D) (by omega) g1).1, pbI_rI] at e
    rw [← (rI_inj e).2, pset_eq]
/-! the reference -/
theorem m_rule42 : ∀ (m x : Nat) (x1 z : Int) (M M' : pM), x1 ≤ (x : Int) + m → x1 ≤ 80 → x ≤ 80 → xE D 193 42 [.inr 62, .inl x1, .inl (x : Int)] [] M = rI z M' → 0 ≤ x1 → M' 60 14 = M 60 14 := by
  intro m
  induction m with
  | zero =>
    intro x x1 z M M' h1 h2 h3 e h4
    rw [L_M_rule_42, if_pos (by rw [le32_iff] <;> omega)] at e
    rw [← (rI_inj e).2, pset_ne2 (by decide)]
  | succ m ih =>
    intro x x1 z M M' h1 h2 h3 e h4
    rw [L_M_rule_42] at e
    by_cases q : x1 ≤ (x : Int)
    · rw [if_pos (by rw [le32_iff] <;> omega)] at e
      rw [← (rI_inj e).2, pset_ne2 (by decide)]
    · rw [if_neg (by rw [le32_iff] <;> omega), if_pos (by omega)] at e
      by_cases q2 : 0 ≤ (x : Int) ∧ (x : Int) < 40
      · rw [if_pos q2, show ((x : Int) + 1) = ((x + 1 : Nat) : Int) by omega] at e
        rw [ih (x + 1) x1 z _ M' (by omega) h2 (by omega) e h4, pset_ne (by decide)]
      · rw [if_neg q2] at e; cases e
theorem t_M_rule {d : Nat} (hd : 345 ≤ d) (hM : gM gAll M) {z : Int} (e : xF d 193 [.inr 62] M = rI z M') : M' 60 14 = 0 := by
  obtain ⟨D, rfl, hD⟩ := dsucc hd
  obtain ⟨D', rfl, -⟩ := dsucc (show 1 ≤ D by omega)
  have b0 := gm_i hM 60 14 (lo := 0) (hi := 80) (by decide +kernel) (by decide +kernel)
  have gt := gM_thr hM
  have b1 : 0 ≤ pset M 60 17 0 60 14 ∧ pset M 60 17 0 60 14 ≤ 80 := by rw [pset_ne2 (by decide)]; exact b0
  rw [T_M_rule, T_M_begin_68, pbN_rV] at e
  generalize pset M 60 17 0 = M0 at gt b1 e
  have gB : gM gAll (pset (pset (pset (pset (pset (pset (pset M0 60 18 70) 60 19 (M0 60 14)) 60 20 40) 60 21 0) 60 22 (-1)) 60 14 0) 60 26 (-1)) := gM_f (gM_f (gM_f (gM_f (gM_f (gM_f (gM_f gt (lo := 0) (hi := 200) (by decide +kernel) (by omega) (by omega)) (lo := 0) (hi := 80) (by decide +kernel) b1.1 b1.2) (lo := 0) (hi := 80) (by decide +kernel) (by omega) (by omega)) (lo := 0) (hi := 80) (by decide +kernel) (by omega) (by omega)) (lo := -1) (hi := 80) (by decide +kernel) (by omega) (by omega)) (lo := 0) (hi := 80) (by decide +kernel) (by omega) (by omega)) (lo := -1) (hi := 9) (by decide +kernel) (by omega) (by omega)
  have e14 : (pset (pset (pset (pset (pset (pset (pset M0 60 18 70) 60 19 (M0 60 14)) 60 20 40) 60 21 0) 60 22 (-1)) 60 14 0) 60 26 (-1)) 60 14 = 0 := by rw [pset_ne2 (by decide), pset_eq]
  have e18 : (pset (pset (pset (pset (pset (pset (pset M0 60 18 70) 60 19 (M0 60 14)) 60 20 40) 60 21 0) 60 22 (-1)) 60 14 0) 60 26 (-1)) 60 18 = 70 := by
    rw [pset_ne2 (by decide), pset_ne2 (by decide), pset_ne2 (by decide), pset_ne2 (by decide), pset_ne2 (by decide), pset_ne2 (by decide), pset_eq]
  have e20 : (pset (pset (pset (pset (pset (pset (pset M0 60 18 70) 60 19 (M0 60 14)) 60 20 40) 60 21 0) 60 22 (-1)) 60 14 0) 60 26 (-1)) 60 20 = 40 := by
    rw [pset_ne2 (by decide), pset_ne2 (by decide), pset_ne2 (by decide), pset_ne2 (by decide), pset_eq]
  have e21 : (pset (pset (pset (pset (pset (pset (pset M0 60 18 70) 60 19 (M0 60 14)) 60 20 40) 60 21 0) 60 22 (-1)) 60 14 0) 60 26 (-1)) 60 21 = 0 := by
    rw [pset_ne2 (by decide), pset_ne2 (by decide), pset_ne2 (by decide), pset_eq]
  have e22 : (pset (pset (pset (pset (pset (pset (pset M0 60 18 70) 60 19 (M0 60 14)) 60 20 40) 60 21 0) 60 22 (-1)) 60 14 0) 60 26 (-1)) 60 22 = -1 := by
    rw [pset_ne2 (by decide), pset_ne2 (by decide), pset_eq]
  generalize pset (pset (pset (pset (pset (pset (pset M0 60 18 70) 60 19 (M0 60 14)) 60 20 40) 60 21 0) 60 22 (-1)) 60 14 0) 60 26 (-1) = MB at gB e14 e18 e20 e21 e22 e
  generalize M0 60 14 = L at b1 e
  have fin : ∀ M1 : pM, M1 60 14 = 0 → xE (D' + 1) 193 42 [.inr 62, .inl L, .inl 0] [] M1 = rI z M' → M' 60 14 = 0 := fun M1 h1 h2 => by
    rw [m_rule42 80 0 L z M1 M' (by omega) b1.2 (by decide) h2 b1.1]; exact h1
  have tl : ∀ M1 : pM, M1 60 14 = 0 → (pbI (xF (D' + 1) 179 [.inr 62] M1) fun v5 M4 => if ¬ eq32 v5 0 then xE (D' + 1) 193 42 [.inr 62, .inl L, .inl 0] [] M4 else some (some (.inl ((-1) - (M4 60 22))), M4)) = rI z M' → M' 60 14 = 0 := fun M1 h1 h2 => by
    rw [T_M_fine] at h2
    by_cases q : eq32 (M1 60 22) (-1)
    · rw [if_neg (fun y => y q), pbI_rI, if_pos (by decide)] at h2
      exact fin M1 h1 h2
    · rw [if_pos q, pbI_rI, if_neg (fun y => y rfl)] at h2
      rw [← (rI_inj h2).2]; exact h1
  by_cases q : le32 L 0
  · rw [if_pos q] at e; exact fin MB e14 e
  · obtain ⟨v, M2, e2, g2, f2⟩ := v_held (d := D' + 1) (by omega) (a1 := 0) gB (by decide) (by omega) (by omega) (by omega) (by omega)
    have k2 : M2 60 14 = 0 := by rw [f2 60 14 (by decide)]; exact e14
    have b21 := gm_i g2 60 21 (lo := 0) (hi := 80) (by decide +kernel) (by decide +kernel)
    rw [if_neg q, e2, pbI_rI] at e
    by_cases q2 : le32 L (M2 60 21)
    · rw [if_pos q2] at e; exact tl M2 k2 e
    · obtain ⟨M3, e3, g3, f3⟩ := v_fault (d := D' + 1) (by omega) (a1 := M2 60 21) g2 b21
      rw [if_neg q2, e3, pbN_rV] at e
      exact tl M3 (by rw [f3 60 14 (by decide)]; exact k2) e
end TX
end
section
/-! strength and keep: what they answer, on both sides -/
section TY
variable {D d : Nat} {M M' : pM}
theorem pbN_inv {x : Option pR} {f : pM → Option pR} {r : pR} (h : pbN x f = some r) : ∃ M1, x = rV M1 ∧ f M1 = some r := by
  unfold pbN at h
  split at h
  · exact ⟨_, rfl, h⟩
  · cases h
theorem t_X_strength {d : Nat} (hd : 1 ≤ d) {b z : Int} (h1 : -2147483648 ≤ b) (h2 : b ≤ 2147483647) (e : xF d 9 [.inr 2, .inl b] M = rI z M') : z = (if 1 ≤ b ∧ b ≤ 999 then M 0 17 else -1) ∧ M' 0 17 = (if 1 ≤ b ∧ b ≤ 999 then b else M 0 17) := by
  obtain ⟨D, rfl, -⟩ := dsucc hd
  rw [T_X_strength] at e
  by_cases q : b < 1
  · rw [if_pos (by rw [lt32_iff] <;> omega)] at e
    rw [if_neg (by omega), if_neg (by omega), (rI_inj e).2]
    exact ⟨(rI_inj e).1.symm, rfl⟩
  · rw [if_neg (by rw [lt32_iff] <;> omega)] at e
    by_cases q2 : b ≤ 999
    · rw [if_pos (by rw [le32_iff] <;> omega)] at e
      rw [if_pos (by omega), if_pos (by omega), ← (rI_inj e).2, pset_eq]
      exact ⟨(rI_inj e).1.symm, rfl⟩
    · rw [if_neg (by rw [le32_iff] <;> omega)] at e
      rw [if_neg (by omega), if_neg (by omega), (rI_inj e).2]
      exact ⟨(rI_inj e).1.symm, rfl⟩
theorem t_M_strength {d : Nat} (hd : 2 ≤ d) {b z : Int} (h1 : -2147483648 ≤ b) (h2 : b ≤ 2147483647) (e : xF d 205 [.inr 62, .inl b] M = rI z M') : z = (if 1 ≤ b ∧ b ≤ 999 then M 60 12 else -1) ∧ M' 60 12 = (if 1 ≤ b ∧ b ≤ 999 then b else M 60 12) := by
  obtain ⟨D, rfl, hD⟩ := dsucc hd
  rw [T_M_strength, m_in (by omega), pbI_rI] at e
  by_cases q : 1 ≤ b ∧ b ≤ 999
  · have hz : ¬ (lt32 b 1 ∨ lt32 999 b) := by
      rw [lt32_iff (by omega) (by omega) (by omega) (by omega), lt32_iff (by omega) (by omega) (by omega) (by omega)]
      omega
    rw [if_neg hz, if_pos (by decide), pset_ne2 (show 12 ≠ 17 by decide)] at e
    rw [if_pos q, if_pos q, ← (rI_inj e).2, pset_eq]
    exact ⟨(rI_inj e).1.symm, rfl⟩
  · have hz : lt32 b 1 ∨ lt32 999 b := by
      rw [lt32_iff (by omega) (by omega) (by omega) (by omega), lt32_iff (by omega) (by omega) (by omega) (by omega)]
      omega
    rw [if_pos hz, if_neg (fun y => y rfl)] at e
    rw [if_neg q, if_neg q, ← (rI_inj e).2, pset_ne2 (show 12 ≠ 17 by decide)]
    exact ⟨(rI_inj e).1.symm, rfl⟩
theorem t_X_keep {d : Nat} (hd : 2 ≤ d) {b z : Int} (h1 : -2147483648 ≤ b) (h2 : b ≤ 2147483647) (e : xF d 43 [.inr 2, .inl b] M = rI z M') : z = if 0 ≤ b ∧ b ≤ 1 then 1 else 0 := by
  obtain ⟨D, rfl, hD⟩ := dsucc hd
  obtain ⟨D', rfl, -⟩ := dsucc (show 1 ≤ D by omega)
  rw [T_X_keep, T_X_keptAt] at e
  have no : pbR (some (some (.inr 1), M) : Option pR) (fun k2 M1 => xE (D' + 1) 43 3 [.inr 2, .inl b, .inr 0] [.inr (k2 + 1)] M1) = rI 0 M := L_X_keep_n_3 (D' + 1) b M
  by_cases q : b < 0
  · rw [if_pos (by rw [lt32_iff] <;> omega), no] at e
    rw [if_neg (by omega)]; exact (rI_inj e).1.symm
  · rw [if_neg (by rw [lt32_iff] <;> omega)] at e
    by_cases q2 : 2 ≤ b
    · rw [if_pos (by rw [le32_iff] <;> omega), no] at e
      rw [if_neg (by omega)]; exact (rI_inj e).1.symm
    · rw [if_neg (by rw [le32_iff] <;> omega), if_pos (by omega)] at e
      rw [if_pos (by omega)]
      have hb : b = 0 ∨ b = 1 := by omega
      rcases hb with rfl | rfl
      · have e2 : xE (D' + 1) 43 3 [.inr 2, .inl 0, .inr 0] [.inr 46] M = rI z M' := e
        rw [L_X_keep_44_3] at e2
        obtain ⟨M1, -, e3⟩ := pbN_inv e2
        exact (rI_inj e3).1.symm
      · have e2 : xE (D' + 1) 43 3 [.inr 2, .inl 1, .inr 0] [.inr 48] M = rI z M' := e
        rw [L_X_keep_46_3] at e2
        obtain ⟨M1, -, e3⟩ := pbN_inv e2
        exact (rI_inj e3).1.symm
theorem m_keep23 (x1 : Int) : ∀ (m x : Nat) (z : Int) (M M' : pM), x + m = 10 → xE D 266 23 [.inr 62, .inl x1, .inl (x : Int)] [] M = rI z M' → z = 1 := by
  intro m
  induction m with
  | zero =>
    intro x z M M' hx e
    rw [L_M_keep_23, if_pos (by rw [le32_iff] <;> omega)] at e
    split at e
    · split at e
      · exact (rI_inj e).1.symm
      · cases e
    · cases e
  | succ m ih =>
    intro x z M M' hx e
    rw [L_M_keep_23, if_neg (by rw [le32_iff] <;> omega), show ((x : Int) + 1) = ((x + 1 : Nat) : Int) by omega] at e
    split at e
    · split at e
      · exact ih (x + 1) z _ M' (by omega) e
      · cases e
    · cases e
theorem t_M_keep {d : Nat} (hd : 2 ≤ d) {b z : Int} (h1 : -2147483648 ≤ b) (h2 : b ≤ 2147483647) (e : xF d 266 [.inr 62, .inl b] M = rI z M') : z = if 0 ≤ b ∧ b ≤ 1 then 1 else 0 := by
  obtain ⟨D, rfl, hD⟩ := dsucc hd
  rw [T_M_keep, m_in (by omega), pbI_rI] at e
  by_cases q : 0 ≤ b ∧ b ≤ 1
  · have hz : ¬ (lt32 b 0 ∨ lt32 1 b) := by
      rw [lt32_iff (by omega) (by omega) (by omega) (by omega), lt32_iff (by omega) (by omega) (by omega) (by omega)]
      omega
    rw [if_neg hz, if_pos (by decide), if_pos (by omega), if_pos (by omega)] at e
    rw [if_pos q]
    exact m_keep23 (D := D) b 10 0 z _ M' (by decide) e
  · have hz : lt32 b 0 ∨ lt32 1 b := by
      rw [lt32_iff (by omega) (by omega) (by omega) (by omega), lt32_iff (by omega) (by omega) (by omega) (by omega)]
      omega
    rw [if_pos hz, if_neg (fun y => y rfl)] at e
    rw [if_neg q]; exact (rI_inj e).1.symm
end TY
end
section
/-! the calls that may throw, on the class's side -/
set_option maxRecDepth 10000 in
theorem RT_room (D : Nat) (b c : Int) (M : pM) : xRc D 4 10 [.inr 2, .inl b, .inl c] M =
 pbI (xF D 63 [.inr 9, .inl b] M) fun v2 M1 =>
 if eq32 v2 0 then
 some (none, M1)
 else
 (if lt32 c 0 then
 some (none, M1)
 else
 (if le32 c 3 then
 (if eq32 c 0 then
 (if 0 ≤ b ∧ b < 6 then
 some (some (.inl (M1 8 b.toNat)), M1)
 else none)
 else
 if eq32 c 1 then
 (pbI (xF D 86 [.inr 9, .inl b, .inr 15] M1) fun v8 M7 =>
 some (some (.inl v8), M7))
 else
 if eq32 c 2 then
 (if 0 ≤ b ∧ b < 6 then
 pbI (xF D 87 [.inr 9, .inl b, .inr 15] M1) fun v6 M5 =>
 some (some (.inl ((M1 8 b.toNat) - v6)), M5)
 else none)
 else
 (pbI (xF D 77 [.inr 9, .inl b, .inl 1] M1) fun v4 M3 =>
 some (some (.inl v4), M3)))
 else
 some (none, M1))) := rfl
set_option maxRecDepth 10000 in
theorem RT_thing (D : Nat) (b c : Int) (M : pM) : xRc D 5 10 [.inr 2, .inl b, .inl c] M =
 pbI (xF D 64 [.inr 9, .inl b] M) fun v2 M1 =>
 if eq32 v2 0 then
 some (none, M1)
 else
 (if lt32 c 0 then
 some (none, M1)
 else
 (if le32 c 6 then
 (if eq32 c 0 then
 (if 0 ≤ b ∧ b < 10 then
 some (some (.inl (M1 10 b.toNat)), M1)
 else none)
 else
 if eq32 c 1 then
 (if 0 ≤ b ∧ b < 10 then
 some (some (.inl (M1 11 b.toNat)), M1)
 else none)
 else
 if eq32 c 2 then
 (if 0 ≤ b ∧ b < 10 then
 some (some (.inl (M1 12 b.toNat)), M1)
 else none)
 else
 if eq32 c 3 then
 (if 0 ≤ b ∧ b < 10 then
 some (some (.inl (M1 13 b.toNat)), M1)
 else none)
 else
 if eq32 c 4 then
 (pbI (xF D 93 [.inr 9, .inl b] M1) fun v6 M5 =>
 some (some (.inl v6), M5))
 else
 if eq32 c 5 then
 (if 0 ≤ b ∧ b < 10 then
 some (some (.inl (M1 16 b.toNat)), M1)
 else none)
 else
 (if 0 ≤ b ∧ b < 10 then
 pbI (xF D 144 [.inr 29, .inr 9, .inl b, .inl (M1 13 b.toNat)] M1) fun v4 M3 =>
 some (some (.inl v4), M3)
 else none))
 else
 some (none, M1))) := rfl
set_option maxRecDepth 10000 in
theorem RT_row (D : Nat) (b : Int) (M : pM) : xRc D 46 7 [.inr 2, .inl b] M =
 if lt32 b 0 then
 some (none, M)
 else
 (if lt32 b (M 5 1) then
 (pbI (xF D 47 [.inr 8, .inl b] M) fun v2 M1 =>
 some (some (.inl v2), M1))
 else
 some (none, M)) := rfl
theorem yL_thr {D k pl : Nat} {a : List pV} {M : pM} (h1 : xF D k a M = none) (h2 : xRc D k pl a M = some (none, M)) : yL D k pl a M = rI 1 M := by
  unfold yL
  rw [h1, h2]
theorem yL_ok {D k pl : Nat} {a : List pV} {M M1 : pM} {v : Int} (h : xF D k a M = rI v M1) : yL D k pl a M = rI 0 (pset M1 90 0 (iI v).toInt) := by
  unfold yL
  rw [h]
def okY (D k pl : Nat) (A : List pV) (w : List (Nat × Nat)) (M : pM) : Prop := ∃ z M', yL D k pl A M = rI z M' ∧ gM gAll M' ∧ Fr w M M'
section YY
variable {D d : Nat} {M M1 : pM}
theorem okY_ok {k pl : Nat} {a : List pV} {w : List (Nat × Nat)} {v : Int} (h : xF D k a M = rI v M1) (g : gM gAll M1) (f : Fr w M M1) (hw : wOK w 90 0 = true) : okY D k pl a w M := ⟨_, _, yL_ok h, gMs_set g (by rw [show gAll 90 0 = (1, 0, 0, 0, 0, 0) by decide +kernel]; exact Or.inr (Or.inl rfl)), Fr_set f hw⟩
theorem okY_thr {k pl : Nat} {a : List pV} {w : List (Nat × Nat)} (h1 : xF D k a M = none) (h2 : xRc D k pl a M = some (none, M)) (g : gM gAll M) : okY D k pl a w M := ⟨_, _, yL_thr h1 h2, g, Fr_rfl⟩
theorem x_isR7 (hd : 1 ≤ d) (hM : gM gAll M) {b : Int} (h1 : -2147483648 ≤ b) (h2 : b ≤ 2147483647) : xF d 63 [.inr 9, .inl b] M = rI (if 0 ≤ b ∧ b < M 7 9 then 1 else 0) M := by
  obtain ⟨D, rfl, -⟩ := dsucc hd
  have r := gm_i hM 7 9 (lo := 0) (hi := 6) (by decide +kernel) (by decide +kernel)
  rw [T_House_isRoom_7]
  by_cases q : b < 0
  · rw [if_pos (by rw [lt32_iff] <;> omega), if_neg (by omega)]
  · rw [if_neg (by rw [lt32_iff] <;> omega)]
    by_cases q2 : M 7 9 ≤ b
    · rw [if_pos (by rw [le32_iff] <;> omega), if_neg (by omega)]
    · rw [if_neg (by rw [le32_iff] <;> omega), if_pos (by omega)]
theorem x_isT7 (hd : 1 ≤ d) (hM : gM gAll M) {b : Int} (h1 : -2147483648 ≤ b) (h2 : b ≤ 2147483647) : xF d 64 [.inr 9, .inl b] M = rI (if 0 ≤ b ∧ b < M 7 10 then 1 else 0) M := by
  obtain ⟨D, rfl, -⟩ := dsucc hd
  have r := gm_i hM 7 10 (lo := 0) (hi := 10) (by decide +kernel) (by decide +kernel)
  rw [T_House_isThing]
  by_cases q : b < 0
  · rw [if_pos (by rw [lt32_iff] <;> omega), if_neg (by omega)]
  · rw [if_neg (by rw [lt32_iff] <;> omega)]
    by_cases q2 : M 7 10 ≤ b
    · rw [if_pos (by rw [le32_iff] <;> omega), if_neg (by omega)]
    · rw [if_neg (by rw [le32_iff] <;> omega), if_pos (by omega)]
theorem y_room (hd : 5 ≤ d) (hM : gM gAll M) {b c : Int} (h1 : -2147483648 ≤ b ∧ b ≤ 2147483647) (h2 : -2147483648 ≤ c ∧ c ≤ 2147483647) : okY d 4 10 [.inr 2, .inl b, .inl c] [(90, 999)] M := by
  obtain ⟨D, rfl, hD⟩ := dsucc hd
  have r := gm_i hM 7 9 (lo := 0) (hi := 6) (by decide +kernel) (by decide +kernel)
  have hT := T_X_room D b c M
  have hR := RT_room (D + 1) b c M
  rw [x_isR7 (by omega) hM h1.1 h1.2, pbI_rI] at hT hR
  by_cases q : 0 ≤ b ∧ b < M 7 9
  · have i6 : 0 ≤ b ∧ b < 6 := by omega
    rw [if_pos q, if_neg (by decide)] at hT hR
    by_cases q2 : lt32 c 0
    · rw [if_pos q2] at hT hR; exact okY_thr hT hR hM
    · rw [if_neg q2] at hT hR
      by_cases q3 : le32 c 3
      · rw [if_pos q3] at hT
        by_cases c0 : eq32 c 0
        · rw [if_pos c0, if_pos i6] at hT; exact okY_ok hT hM Fr_rfl rfl
        · rw [if_neg c0] at hT
          by_cases c1 : eq32 c 1
          · obtain ⟨v, M2, e2, g2, f2, -⟩ := v_thIn (d := D) (by omega) (a1 := b) hM h1
            rw [if_pos c1, e2, pbI_rI] at hT; exact okY_ok hT g2 (Fr_mono f2 (by decide)) rfl
          · rw [if_neg c1] at hT
            by_cases c2 : eq32 c 2
            · obtain ⟨v, M2, e2, g2, f2⟩ := v_load (d := D) (by omega) (a1 := b) hM h1
              rw [if_pos c2, if_pos i6, e2, pbI_rI] at hT; exact okY_ok hT g2 (Fr_mono f2 (by decide)) rfl
            · obtain ⟨v, M2, e2, g2, f2, -⟩ := v_next (d := D) (by omega) (a1 := b) (a2 := 1) hM h1 (by decide)
              rw [if_neg c2, e2, pbI_rI] at hT; exact okY_ok hT g2 (Fr_mono f2 (by decide)) rfl
      · rw [if_neg q3] at hT hR; exact okY_thr hT hR hM
  · rw [if_neg q, if_pos rfl] at hT hR; exact okY_thr hT hR hM
def wYt : List (Nat × Nat) := [(30, 1), (30, 2), (30, 3), (31, 999), (90, 999)]
theorem y_thing (hd : 33 ≤ d) (hM : gM gAll M) {b c : Int} (h1 : -2147483648 ≤ b ∧ b ≤ 2147483647) (h2 : -2147483648 ≤ c ∧ c ≤ 2147483647) : okY d 5 10 [.inr 2, .inl b, .inl c] wYt M := by
  obtain ⟨D, rfl, hD⟩ := dsucc hd
  have r := gm_i hM 7 10 (lo := 0) (hi := 10) (by decide +kernel) (by decide +kernel)
  have hT := T_X_thing D b c M
  have hR := RT_thing (D + 1) b c M
  rw [x_isT7 (by omega) hM h1.1 h1.2, pbI_rI] at hT hR
  by_cases q : 0 ≤ b ∧ b < M 7 10
  · have i6 : 0 ≤ b ∧ b < 10 := by omega
    rw [if_pos q, if_neg (by decide)] at hT hR
    by_cases q2 : lt32 c 0
    · rw [if_pos q2] at hT hR; exact okY_thr hT hR hM
    · rw [if_neg q2] at hT hR
      by_cases q3 : le32 c 6
      · rw [if_pos q3] at hT
        by_cases c0 : eq32 c 0
        · rw [if_pos c0, if_pos i6] at hT; exact okY_ok hT hM Fr_rfl rfl
        · rw [if_neg c0] at hT
          by_cases c1 : eq32 c 1
          · rw [if_pos c1, if_pos i6] at hT; exact okY_ok hT hM Fr_rfl rfl
          · rw [if_neg c1] at hT
            by_cases c2 : eq32 c 2
            · rw [if_pos c2, if_pos i6] at hT; exact okY_ok hT hM Fr_rfl rfl
            · rw [if_neg c2] at hT
              by_cases c3 : eq32 c 3
              · rw [if_pos c3, if_pos i6] at hT; exact okY_ok hT hM Fr_rfl rfl
              · rw [if_neg c3] at hT
                by_cases c4 : eq32 c 4
                · obtain ⟨v, M2, e2, g2, f2, -⟩ := v_sets (d := D) (by omega) (a1 := b) hM h1
                  rw [if_pos c4, e2, pbI_rI] at hT; exact okY_ok hT g2 (Fr_mono f2 (by decide)) rfl
                · rw [if_neg c4] at hT
                  by_cases c5 : eq32 c 5
                  · rw [if_pos c5, if_pos i6] at hT; exact okY_ok hT hM Fr_rfl rfl
                  · have b13 := gm_r hM (o := 13) (lo := 0) (hi := 5) (by decide +kernel) (by decide +kernel) (k := b.toNat) (show b.toNat < 10 by omega)
                    obtain ⟨v, M2, e2, g2, f2, -⟩ := v_val (d := D) (by omega) (a2 := b) (a3 := M 13 b.toNat) hM h1 ⟨by omega, by omega⟩
                    rw [if_neg c5, if_pos i6, e2, pbI_rI] at hT; exact okY_ok hT g2 (Fr_mono f2 (by decide)) rfl
      · rw [if_neg q3] at hT hR; exact okY_thr hT hR hM
  · rw [if_neg q, if_pos rfl] at hT hR; exact okY_thr hT hR hM
theorem y_row (hd : 3 ≤ d) (hM : gM gAll M) {b : Int} (h1 : -2147483648 ≤ b ∧ b ≤ 2147483647) : okY d 46 7 [.inr 2, .inl b] [(90, 999)] M := by
  obtain ⟨D, rfl, hD⟩ := dsucc hd
  obtain ⟨D', rfl, -⟩ := dsucc (show 1 ≤ D by omega)
  have r := gm_i hM 5 1 (lo := 0) (hi := 12) (by decide +kernel) (by decide +kernel)
  have hT := T_X_row (D' + 1) b M
  have hR := RT_row (D' + 1 + 1) b M
  by_cases q : lt32 b 0
  · rw [if_pos q] at hT hR; exact okY_thr hT hR hM
  · rw [if_neg q] at hT hR
    by_cases q2 : lt32 b (M 5 1)
    · rw [lt32_iff (by omega) (by omega) (by omega) (by omega)] at q
      have q3 := q2
      rw [lt32_iff (by omega) (by omega) (by omega) (by omega)] at q3
      rw [if_pos q2, T_X_numberAt_6, if_neg (by rw [lt32_iff] <;> omega), if_neg (by rw [le32_iff] <;> omega), if_pos (by omega), pbI_rI] at hT
      exact okY_ok hT hM Fr_rfl rfl
    · rw [if_neg q2] at hT hR; exact okY_thr hT hR hM
end YY
end
section
/-! every call of the reference keeps its invariant (by program) -/
section WR
variable {M : pM}
theorem w_M_sign {a1 : Int} (h : RI0 M) (h1 : -2147483648 ≤ a1 ∧ a1 ≤ 2147483647) : okR 1000 175 [.inr 62, .inl a1] [(60, 14), (60, 17), (68, 999)] M := by
  obtain ⟨z, M', e, g, f, -⟩ := q_M_sign (d := 1000) (by decide) h.1 h1
  exact ⟨z, M', e, RI0_Fr g f (by decide) h, f⟩
theorem w_M_end {a1 : Int} (h : RI0 M) (h1 : -2147483648 ≤ a1 ∧ a1 ≤ 2147483647) : okR 1000 176 [.inr 62, .inl a1] [(60, 14), (60, 17)] M := by
  obtain ⟨z, M', e, g, f, -⟩ := q_M_end (d := 1000) (by decide) h.1 h1
  exact ⟨z, M', e, RI0_Fr g f (by decide) h, f⟩
theorem w_M_rule  (h : RI0 M)  : okR 1000 193 [.inr 62] [(60, 14), (60, 17), (60, 18), (60, 19), (60, 20), (60, 21), (60, 22), (60, 25), (60, 26), (71, 999)] M := by
  obtain ⟨z, M', e, g, f, -⟩ := q_M_rule (d := 1000) (by decide) h.1 
  exact ⟨z, M', e, RI0_Fr g f (by decide) h, f⟩
theorem w_M_room {a1 : Int} {a2 : Int} (h : RI0 M) (h1 : -2147483648 ≤ a1 ∧ a1 ≤ 2147483647) (h2 : -2147483648 ≤ a2 ∧ a2 ≤ 2147483647) : okR 1000 199 [.inr 62, .inl a1, .inl a2] [(60, 17)] M := by
  obtain ⟨z, M', e, g, f⟩ := q_M_room (d := 1000) (by decide) h.1 h1 h2
  exact ⟨z, M', e, RI0_Fr g f (by decide) h, f⟩
theorem w_M_thing {a1 : Int} {a2 : Int} (h : RI0 M) (h1 : -2147483648 ≤ a1 ∧ a1 ≤ 2147483647) (h2 : -2147483648 ≤ a2 ∧ a2 ≤ 2147483647) : okR 1000 201 [.inr 62, .inl a1, .inl a2] [(60, 17), (60, 18), (60, 19), (60, 20), (60, 21), (60, 22), (60, 26), (60, 27), (60, 30), (72, 999), (73, 999)] M := by
  obtain ⟨z, M', e, g, f, -⟩ := q_M_thing (d := 1000) (by decide) h.1 h1 h2
  exact ⟨z, M', e, RI0_Fr g f (by decide) h, f⟩
theorem w_M_set {a1 : Int} (h : RI0 M) (h1 : -2147483648 ≤ a1 ∧ a1 ≤ 2147483647) : okR 1000 202 [.inr 62, .inl a1] [(60, 17)] M := by
  obtain ⟨z, M', e, g, f, -⟩ := q_M_set (d := 1000) (by decide) h.1 h1
  exact ⟨z, M', e, RI0_Fr g f (by decide) h, f⟩
theorem w_M_door {a1 : Int} {a2 : Int} (h : RI0 M) (h1 : -2147483648 ≤ a1 ∧ a1 ≤ 2147483647) (h2 : -2147483648 ≤ a2 ∧ a2 ≤ 2147483647) : okR 1000 203 [.inr 62, .inl a1, .inl a2] [(60, 17)] M := by
  obtain ⟨z, M', e, g, f, -⟩ := q_M_door (d := 1000) (by decide) h.1 h1 h2
  exact ⟨z, M', e, RI0_Fr g f (by decide) h, f⟩
theorem w_M_widen {a1 : Int} {a2 : Int} {a3 : Int} (h : RI0 M) (h1 : -2147483648 ≤ a1 ∧ a1 ≤ 2147483647) (h2 : -2147483648 ≤ a2 ∧ a2 ≤ 2147483647) (h3 : -2147483648 ≤ a3 ∧ a3 ≤ 2147483647) : okR 1000 204 [.inr 62, .inl a1, .inl a2, .inl a3] [(60, 17), (62, 999)] M := by
  exact r_widen (d := 1000) (by decide) h1.1 h1.2 h2.1 h2.2 h3.1 h3.2 h
theorem w_M_strength {a1 : Int} (h : RI0 M) (h1 : -2147483648 ≤ a1 ∧ a1 ≤ 2147483647) : okR 1000 205 [.inr 62, .inl a1] [(60, 12), (60, 17)] M := by
  obtain ⟨z, M', e, g, f, -⟩ := q_M_strength (d := 1000) (by decide) h.1 h1
  exact ⟨z, M', e, RI0_Fr g f (by decide) h, f⟩
theorem w_M_sheet {a1 : Int} {a2 : Int} {a3 : Int} {a4 : Int} (h : RI0 M) (h1 : -2147483648 ≤ a1 ∧ a1 ≤ 2147483647) (h2 : -2147483648 ≤ a2 ∧ a2 ≤ 2147483647) (h3 : -2147483648 ≤ a3 ∧ a3 ≤ 2147483647) (h4 : -2147483648 ≤ a4 ∧ a4 ≤ 2147483647) : okR 1000 206 [.inr 62, .inl a1, .inl a2, .inl a3, .inl a4] [(60, 17), (65, 999)] M := by
  exact r_sheet (d := 1000) (by decide)  h
theorem w_M_carry {a1 : Int} {a2 : Int} (h : RI0 M) (h1 : -2147483648 ≤ a1 ∧ a1 ≤ 2147483647) (h2 : -2147483648 ≤ a2 ∧ a2 ≤ 2147483647) : okR 1000 216 [.inr 62, .inl a1, .inl a2] wCarry M := by
  exact r_carry (d := 1000) (by decide) h1.1 h1.2 h2.1 h2.2 h
theorem w_M_evening  (h : RI0 M)  : okR 1000 218 [.inr 62] wEv M := by
  exact r_evening (d := 1000) (by decide)  h
theorem w_M_undo  (h : RI0 M)  : okR 1000 220 [.inr 62] wUndo M := by
  exact r_undo (d := 1000) (by decide)  h
theorem w_M_judge {a1 : Int} {a2 : Int} (h : RI0 M) (h1 : -2147483648 ≤ a1 ∧ a1 ≤ 2147483647) (h2 : -2147483648 ≤ a2 ∧ a2 ≤ 2147483647) : okR 1000 221 [.inr 62, .inl a1, .inl a2] wJg M := by
  exact r_judge (d := 1000) (by decide) h1.1 h1.2 h
theorem w_M_clumps  (h : RI0 M)  : okR 1000 222 [.inr 62] [(60, 16), (60, 17), (60, 30), (69, 999), (72, 999), (73, 999)] M := by
  obtain ⟨z, M', e, g, f, -⟩ := q_M_clumps (d := 1000) (by decide) h.1 
  exact ⟨z, M', e, RI0_Fr g f (by decide) h, f⟩
theorem w_M_heaviest  (h : RI0 M)  : okR 1000 224 [.inr 62] [(60, 16), (60, 17), (60, 30), (69, 999), (72, 999), (73, 999)] M := by
  obtain ⟨z, M', e, g, f, -⟩ := q_M_heaviest (d := 1000) (by decide) h.1 
  exact ⟨z, M', e, RI0_Fr g f (by decide) h, f⟩
theorem w_M_without {a1 : Int} (h : RI0 M) (h1 : -2147483648 ≤ a1 ∧ a1 ≤ 2147483647) : okR 1000 225 [.inr 62, .inl a1] [(60, 16), (60, 17), (60, 30), (69, 999), (72, 999), (73, 999)] M := by
  obtain ⟨z, M', e, g, f, -⟩ := q_M_without (d := 1000) (by decide) h.1 h1
  exact ⟨z, M', e, RI0_Fr g f (by decide) h, f⟩
theorem w_M_breaks {a1 : Int} (h : RI0 M) (h1 : -2147483648 ≤ a1 ∧ a1 ≤ 2147483647) : okR 1000 226 [.inr 62, .inl a1] wBreaks M := by
  exact r_breaks (d := 1000) (by decide) h1.1 h1.2 h
theorem w_M_ties  (h : RI0 M)  : okR 1000 227 [.inr 62] [(60, 17), (60, 30), (72, 999), (73, 999)] M := by
  obtain ⟨z, M', e, g, f, -⟩ := q_M_ties (d := 1000) (by decide) h.1 
  exact ⟨z, M', e, RI0_Fr g f (by decide) h, f⟩
theorem w_M_fits  (h : RI0 M)  : okR 1000 234 [.inr 62] [(60, 16), (60, 17), (60, 30), (60, 39), (60, 40), (69, 999), (72, 999), (73, 999), (78, 999), (79, 999), (80, 999)] M := by
  rcases RI0_rooms h with p | p
  · obtain ⟨z, M', e, g, f⟩ := q_M_fits_1 (d := 1000) (by decide) h.1  p
    exact ⟨z, M', e, RI0_Fr g f (by decide) h, Fr_mono f (by decide)⟩
  · obtain ⟨z, M', e, g, f⟩ := q_M_fits_0 (d := 1000) (by decide) h.1  p.1 p.2
    exact ⟨z, M', e, RI0_Fr g f (by decide) h, Fr_mono f (by decide)⟩
theorem w_M_worth  (h : RI0 M)  : okR 1000 235 [.inr 62] [(60, 17), (60, 18), (60, 19), (60, 20), (60, 21), (60, 22), (60, 26), (60, 27)] M := by
  obtain ⟨z, M', e, g, f⟩ := q_M_worth (d := 1000) (by decide) h.1 
  exact ⟨z, M', e, RI0_Fr g f (by decide) h, f⟩
theorem w_M_best  (h : RI0 M)  : okR 1000 236 [.inr 62] wBest M := by
  have s0 := h.2.1
  rcases RI0_rooms h with p | p
  · obtain ⟨z, M', e, g, f⟩ := r_best (d := 1000) (by decide)  h.1 p.1 s0
    exact ⟨z, M', e, RI0_Fr g f (by decide) h, f⟩
  · obtain ⟨z, M', e, g, f, -⟩ := q_M_best_0 (d := 1000) (by decide)  h.1  p.1 p.2 ⟨by omega, by omega⟩
    exact ⟨z, M', e, RI0_Fr g f (by decide) h, Fr_mono f (by decide)⟩
theorem w_M_near  (h : RI0 M)  : okR 1000 238 [.inr 62] [(60, 16), (60, 17), (60, 30), (60, 39), (60, 40), (69, 999), (72, 999), (73, 999), (74, 999), (78, 999), (79, 999), (80, 999)] M := by
  rcases RI0_rooms h with p | p
  · obtain ⟨z, M', e, g, f, -⟩ := q_M_near_1 (d := 1000) (by decide) h.1  p
    exact ⟨z, M', e, RI0_Fr g f (by decide) h, Fr_mono f (by decide)⟩
  · obtain ⟨z, M', e, g, f, -⟩ := q_M_near_0 (d := 1000) (by decide) h.1  p.1 p.2
    exact ⟨z, M', e, RI0_Fr g f (by decide) h, Fr_mono f (by decide)⟩
theorem w_M_guest {a1 : Int} {a2 : Int} (h : RI0 M) (h1 : -2147483648 ≤ a1 ∧ a1 ≤ 2147483647) (h2 : -2147483648 ≤ a2 ∧ a2 ≤ 2147483647) : okR 1000 239 [.inr 62, .inl a1, .inl a2] [(60, 16), (60, 17), (60, 30), (60, 39), (60, 40), (69, 999), (72, 999), (73, 999), (74, 999), (78, 999), (79, 999), (80, 999)] M := by
  rcases RI0_rooms h with p | p
  · obtain ⟨z, M', e, g, f, -⟩ := q_M_guest_1 (d := 1000) (by decide) h.1 h1 h2 p
    exact ⟨z, M', e, RI0_Fr g f (by decide) h, Fr_mono f (by decide)⟩
  · obtain ⟨z, M', e, g, f, -⟩ := q_M_guest_0 (d := 1000) (by decide) h.1 h1 h2 p.1 p.2
    exact ⟨z, M', e, RI0_Fr g f (by decide) h, Fr_mono f (by decide)⟩
theorem w_M_space  (h : RI0 M)  : okR 1000 240 [.inr 62] [(60, 16), (60, 17), (60, 30), (60, 39), (60, 40), (69, 999), (72, 999), (73, 999), (78, 999), (79, 999), (80, 999)] M := by
  obtain ⟨z, M', e, g, f⟩ := q_M_space (d := 1000) (by decide) h.1 
  exact ⟨z, M', e, RI0_Fr g f (by decide) h, f⟩
theorem w_M_could {a1 : Int} {a2 : Int} (h : RI0 M) (h1 : -2147483648 ≤ a1 ∧ a1 ≤ 2147483647) (h2 : -2147483648 ≤ a2 ∧ a2 ≤ 2147483647) : okR 1000 241 [.inr 62, .inl a1, .inl a2] [(60, 17), (60, 30), (60, 39), (60, 40), (72, 999), (73, 999), (78, 999), (79, 999)] M := by
  rcases RI0_rooms h with p | p
  · obtain ⟨z, M', e, g, f, -⟩ := q_M_could_1 (d := 1000) (by decide) h.1 h1 h2 p
    exact ⟨z, M', e, RI0_Fr g f (by decide) h, Fr_mono f (by decide)⟩
  · obtain ⟨z, M', e, g, f, -⟩ := q_M_could_0 (d := 1000) (by decide) h.1 h1 h2 p.1 p.2
    exact ⟨z, M', e, RI0_Fr g f (by decide) h, Fr_mono f (by decide)⟩
theorem w_M_may {a1 : Int} (h : RI0 M) (h1 : -2147483648 ≤ a1 ∧ a1 ≤ 2147483647) : okR 1000 242 [.inr 62, .inl a1] wMay M := by
  have s0 := h.2.1
  rcases RI0_rooms h with p | p
  · obtain ⟨z, M', e, g, f⟩ := r_may (d := 1000) (by decide) h1.1 h1.2 h.1 p.1 s0
    exact ⟨z, M', e, RI0_Fr g f (by decide) h, f⟩
  · obtain ⟨z, M', e, g, f, -⟩ := q_M_may_0 (d := 1000) (by decide)  h.1 h1 p.1 p.2
    exact ⟨z, M', e, RI0_Fr g f (by decide) h, Fr_mono f (by decide)⟩
theorem w_M_together {a1 : Int} {a2 : Int} (h : RI0 M) (h1 : -2147483648 ≤ a1 ∧ a1 ≤ 2147483647) (h2 : -2147483648 ≤ a2 ∧ a2 ≤ 2147483647) : okR 1000 243 [.inr 62, .inl a1, .inl a2] [(60, 16), (60, 17), (60, 30), (60, 39), (60, 40), (69, 999), (72, 999), (73, 999), (78, 999), (79, 999)] M := by
  rcases RI0_rooms h with p | p
  · obtain ⟨z, M', e, g, f⟩ := q_M_together_1 (d := 1000) (by decide) h.1 h1 h2 p
    exact ⟨z, M', e, RI0_Fr g f (by decide) h, Fr_mono f (by decide)⟩
  · obtain ⟨z, M', e, g, f⟩ := q_M_together_0 (d := 1000) (by decide) h.1 h1 h2 p.1 p.2
    exact ⟨z, M', e, RI0_Fr g f (by decide) h, Fr_mono f (by decide)⟩
theorem w_M_fullest {a1 : Int} (h : RI0 M) (h1 : -2147483648 ≤ a1 ∧ a1 ≤ 2147483647) : okR 1000 244 [.inr 62, .inl a1] [(60, 16), (60, 17), (60, 30), (60, 39), (60, 40), (69, 999), (72, 999), (73, 999), (78, 999), (79, 999), (80, 999)] M := by
  rcases RI0_rooms h with p | p
  · obtain ⟨z, M', e, g, f⟩ := q_M_fullest_1 (d := 1000) (by decide) h.1 h1 p
    exact ⟨z, M', e, RI0_Fr g f (by decide) h, Fr_mono f (by decide)⟩
  · obtain ⟨z, M', e, g, f⟩ := q_M_fullest_0 (d := 1000) (by decide) h.1 h1 p.1 p.2
    exact ⟨z, M', e, RI0_Fr g f (by decide) h, Fr_mono f (by decide)⟩
theorem w_M_swap {a1 : Int} {a2 : Int} (h : RI0 M) (h1 : -2147483648 ≤ a1 ∧ a1 ≤ 2147483647) (h2 : -2147483648 ≤ a2 ∧ a2 ≤ 2147483647) : okR 1000 245 [.inr 62, .inl a1, .inl a2] [(60, 16), (60, 17), (69, 999), (74, 999), (78, 999)] M := by
  obtain ⟨z, M', e, g, f, -⟩ := q_M_swap (d := 1000) (by decide) h.1 h1 h2
  exact ⟨z, M', e, RI0_Fr g f (by decide) h, f⟩
theorem w_M_sell  (h : RI0 M)  : okR 1000 246 [.inr 62] [(60, 16), (60, 17), (60, 30), (60, 38), (60, 39), (60, 40), (69, 999), (72, 999), (73, 999), (78, 999), (79, 999)] M := by
  have s0 := h.2.1
  rcases RI0_rooms h with p | p
  · obtain ⟨z, M', e, g, f, alt, ha, q, pp⟩ := cOK_I (q_M_sell_1_c (d := 1000) (by decide)) (A := [.inr 62]) (show aF2 gW [aRef 62] [.inr 62] from ⟨gW_o, trivial⟩) h.1 (show gP0 [(60, 0, (0, 1, 6, 0, 0, 0)), (60, 38, (0, 0, 0, 0, 0, 0))] M from fun e he => by
        simp only [List.mem_cons, List.not_mem_nil, or_false] at he
        rcases he with rfl | rfl
        · exact gR_i p.1 p.2
        · exact gR_i (show (0 : Int) ≤ M 60 38 by omega) (show M 60 38 ≤ (0 : Int) by omega)) rfl
    have k38 : M' 60 38 = 0 := by
      have ha : alt ∈ [(some (0, -3, -3, 0, 0, 0), [], [(60, 0, (0, 1, 6, 0, 0, 0)), (60, 17, (0, 0, 0, 0, 0, 0)), (60, 38, (0, 0, 0, 0, 0, 0)), (60, 39, (0, 20001, 1000000, 0, 0, 0))]), (some (0, 0, 63, 0, 0, 0), [], [(60, 0, (0, 1, 6, 0, 0, 0)), (60, 16, (0, 1, 1, 0, 0, 0)), (60, 17, (0, 0, 0, 0, 0, 0)), (60, 38, (0, 0, 0, 0, 0, 0)), (60, 39, (0, 1, 20000, 0, 0, 0)), (69, 0, (0, -2147483648, 2147483647, 0, 0, 0))])] := ha
      simp only [List.mem_cons, List.not_mem_nil, or_false] at ha
      rcases ha with rfl | rfl
      · have : 0 ≤ M' 60 38 ∧ M' 60 38 ≤ 0 := gR0 (pp (60, 38, (0, 0, 0, 0, 0, 0)) (by simp)).1
        omega
      · have : 0 ≤ M' 60 38 ∧ M' 60 38 ≤ 0 := gR0 (pp (60, 38, (0, 0, 0, 0, 0, 0)) (by simp)).1
        omega
    exact ⟨z, M', e, ⟨g, k38, WM_Fr f (by decide) (by decide) (by decide) (by decide) h.2.2.1, UM_Fr f (by decide) (by decide) (by decide) (by decide) (by decide) h.2.2.2⟩, f⟩
  · obtain ⟨z, M', e, g, f, alt, ha, q, pp⟩ := cOK_I (q_M_sell_0_c (d := 1000) (by decide)) (A := [.inr 62]) (show aF2 gW [aRef 62] [.inr 62] from ⟨gW_o, trivial⟩) h.1 (show gP0 [(60, 0, (0, 0, 0, 0, 0, 0)), (60, 3, (0, 0, 0, 0, 0, 0)), (60, 38, (0, 0, 0, 0, 0, 0))] M from fun e he => by
        simp only [List.mem_cons, List.not_mem_nil, or_false] at he
        rcases he with rfl | rfl | rfl
        · exact gR_i p.1.1 p.1.2
        · exact gR_i p.2.1 p.2.2
        · exact gR_i (show (0 : Int) ≤ M 60 38 by omega) (show M 60 38 ≤ (0 : Int) by omega)) rfl
    have k38 : M' 60 38 = 0 := by
      have ha : alt ∈ [(some (0, 0, 63, 0, 0, 0), [], [(60, 0, (0, 0, 0, 0, 0, 0)), (60, 3, (0, 0, 0, 0, 0, 0)), (60, 16, (0, 1, 1, 0, 0, 0)), (60, 17, (0, 0, 0, 0, 0, 0)), (60, 30, (0, 0, 0, 0, 0, 0)), (60, 38, (0, 0, 0, 0, 0, 0)), (60, 39, (0, 1, 1, 0, 0, 0)), (69, 0, (0, -2147483648, 2147483647, 0, 0, 0))])] := ha
      simp only [List.mem_cons, List.not_mem_nil, or_false] at ha
      rcases ha with rfl
      · have : 0 ≤ M' 60 38 ∧ M' 60 38 ≤ 0 := gR0 (pp (60, 38, (0, 0, 0, 0, 0, 0)) (by simp)).1
        omega
    exact ⟨z, M', e, ⟨g, k38, WM_Fr f (by decide) (by decide) (by decide) (by decide) h.2.2.1, UM_Fr f (by decide) (by decide) (by decide) (by decide) (by decide) h.2.2.2⟩, Fr_mono f (by decide)⟩
theorem w_M_build  (h : RI0 M)  : okR 1000 248 [.inr 62] wBu M := by
  obtain ⟨z, M', e, g, f⟩ := r_build0 (d := 1000) (by decide) h.1
  exact ⟨z, M', e, RI0_Fr g f (by decide) h, f⟩
theorem w_M_way {a1 : Int} {a2 : Int} (h : RI0 M) (h1 : -2147483648 ≤ a1 ∧ a1 ≤ 2147483647) (h2 : -2147483648 ≤ a2 ∧ a2 ≤ 2147483647) : okR 1000 250 [.inr 62, .inl a1, .inl a2] wWay M := by
  obtain ⟨z, M', e, g, f⟩ := r_way (d := 1000) (by decide) h1.1 h1.2 h2.1 h2.2 h.1 h.2.2.1.2.1 (fun t ht => (h.2.2.1.2.2.2.1 t ht).2.2.2)
  exact ⟨z, M', e, RI0_Fr g f (by decide) h, f⟩
theorem w_M_widest {a1 : Int} {a2 : Int} (h : RI0 M) (h1 : -2147483648 ≤ a1 ∧ a1 ≤ 2147483647) (h2 : -2147483648 ≤ a2 ∧ a2 ≤ 2147483647) : okR 1000 251 [.inr 62, .inl a1, .inl a2] [(60, 17), (74, 999)] M := by
  obtain ⟨z, M', e, g, f, -⟩ := q_M_widest (d := 1000) (by decide) h.1 h1 h2
  exact ⟨z, M', e, RI0_Fr g f (by decide) h, f⟩
theorem w_M_stuck  (h : RI0 M)  : okR 1000 252 [.inr 62] [(60, 17), (74, 999)] M := by
  obtain ⟨z, M', e, g, f, -⟩ := q_M_stuck (d := 1000) (by decide) h.1 
  exact ⟨z, M', e, RI0_Fr g f (by decide) h, f⟩
theorem w_M_hinge {a1 : Int} (h : RI0 M) (h1 : -2147483648 ≤ a1 ∧ a1 ≤ 2147483647) : okR 1000 254 [.inr 62, .inl a1] wHinge M := by
  exact r_hinge (d := 1000) (by decide) h1.1 h1.2 h
theorem w_M_aim  (h : RI0 M)  : okR 1000 255 [.inr 62] [(60, 14), (60, 17), (60, 43), (60, 44), (81, 999)] M := by
  obtain ⟨z, M', e, g, f, -⟩ := q_M_aim (d := 1000) (by decide) h.1 
  exact ⟨z, M', e, RI0_Fr g f (by decide) h, f⟩
theorem w_M_apart  (h : RI0 M)  : okR 1000 257 [.inr 62] [(60, 16), (60, 17), (69, 999), (74, 999)] M := by
  obtain ⟨z, M', e, g, f, -⟩ := q_M_apart (d := 1000) (by decide) h.1 
  exact ⟨z, M', e, RI0_Fr g f (by decide) h, f⟩
theorem w_M_queue  (h : RI0 M)  : okR 1000 259 [.inr 62] wQu M := by
  exact r_queue (d := 1000) (by decide)  h
theorem w_M_evenings  (h : RI0 M)  : okR 1000 263 [.inr 62] wWk M := by
  have s0 := h.2.1
  rcases RI0_rooms h with p | p
  · obtain ⟨z, M', e, g, f⟩ := r_evenings (d := 1000) (by decide)  h.1 p.1 s0
    exact ⟨z, M', e, RI0_Fr g f (by decide) h, f⟩
  · obtain ⟨z, M', e, g, f, -⟩ := q_M_evenings_0 (d := 1000) (by decide)  h.1  p.1 p.2 ⟨by omega, by omega⟩
    exact ⟨z, M', e, RI0_Fr g f (by decide) h, Fr_mono f (by decide)⟩
theorem w_M_weakest  (h : RI0 M)  : okR 1000 264 [.inr 62] wWk M := by
  have s0 := h.2.1
  rcases RI0_rooms h with p | p
  · obtain ⟨z, M', e, g, f⟩ := r_weakest (d := 1000) (by decide)  h.1 p.1 s0
    exact ⟨z, M', e, RI0_Fr g f (by decide) h, f⟩
  · obtain ⟨z, M', e, g, f, -⟩ := q_M_weakest_0 (d := 1000) (by decide)  h.1  p.1 p.2 ⟨by omega, by omega⟩
    exact ⟨z, M', e, RI0_Fr g f (by decide) h, Fr_mono f (by decide)⟩
theorem w_M_keep {a1 : Int} (h : RI0 M) (h1 : -2147483648 ≤ a1 ∧ a1 ≤ 2147483647) : okR 1000 266 [.inr 62, .inl a1] wKeep M := by
  exact r_keep (d := 1000) (by decide) h1.1 h1.2 h
theorem w_M_again {a1 : Int} (h : RI0 M) (h1 : -2147483648 ≤ a1 ∧ a1 ≤ 2147483647) : okR 1000 267 [.inr 62, .inl a1] wAgain M := by
  exact r_again (d := 1000) (by decide) h1.1 h1.2 h
theorem w_M_count {a1 : Int} (h : RI0 M) (h1 : -2147483648 ≤ a1 ∧ a1 ≤ 2147483647) : okR 1000 268 [.inr 62, .inl a1] [(60, 17)] M := by
  obtain ⟨z, M', e, g, f⟩ := q_M_count (d := 1000) (by decide) h.1 h1
  exact ⟨z, M', e, RI0_Fr g f (by decide) h, f⟩
theorem w_M_row {a1 : Int} (h : RI0 M) (h1 : -2147483648 ≤ a1 ∧ a1 ≤ 2147483647) : okR 1000 269 [.inr 62, .inl a1] [(60, 17)] M := by
  obtain ⟨z, M', e, g, f⟩ := q_M_row (d := 1000) (by decide) h.1 h1
  exact ⟨z, M', e, RI0_Fr g f (by decide) h, f⟩
end WR
end
end
section
section
/-! the class's reader, sign by sign: the same states as the reference's (61a) -/
def ux (z : Int) : Int := if z < 0 then z + 256 else z
def hx (tx : Nat → Int) (st a : Nat) : Int := if a < st then ux (tx a) else -1
def XSt (tx : Nat → Int) (st : Nat) (M : pM) (s : rgs) : Prop := M 3 2 = (st : Int) ∧ st ≤ 76 ∧ (∀ i, i < 80 → M 2 i = ux (tx i)) ∧ (∀ i, i < 80 → -128 ≤ tx i ∧ tx i ≤ 127) ∧ 0 ≤ M 3 1 ∧ M 3 1 ≤ 80 ∧ (match s with
  | .inl p => M 3 3 = (p : Int) ∧ p ≤ 80
  | .inr a => M 3 1 = (a : Int) ∧ a ≤ st ∧ M 3 3 = -1)
/-- all but where the class's reader stands is the same -/
def AGx (M M' : pM) : Prop := ∀ o i, ¬ (o = 3 ∧ (i = 1 ∨ i = 3)) → M' o i = M o i
theorem AGx_rfl {M : pM} : AGx M M := fun _ _ _ => rfl
theorem AGx_tr {M M1 M2 : pM} (h1 : AGx M M1) (h2 : AGx M1 M2) : AGx M M2 := fun o i h => (h2 o i h).trans (h1 o i h)
theorem AGx_set {M M' : pM} (h : AGx M M') {k : Nat} {v : Int} (hk : k = 1 ∨ k = 3) : AGx M (pset M' 3 k v) := fun o i q => by
  unfold pset
  rw [if_neg (fun z => q ⟨z.1, by omega⟩)]
  exact h o i q
section XR
variable {tx : Nat → Int} {st d : Nat} {M : pM}
theorem hx_range {s : rgs} (h : XSt tx st M s) (a : Nat) : -1 ≤ hx tx st a ∧ hx tx st a ≤ 255 := by
  have h4 := h.2.2.2.1
  have h2 := h.2.1
  unfold hx ux
  by_cases q : a < st
  · have := h4 a (by omega)
    rw [if_pos q]; split <;> omega
  · rw [if_neg q]; omega
/-- a sign of 0 to 127 is the same on both sides -/
theorem hx_hc {s : rgs} (h : XSt tx st M s) {a : Nat} {lo hi : Int} (h1 : 0 ≤ lo) (h2 : hi ≤ 127) : (lo ≤ hx tx st a ∧ hx tx st a ≤ hi) ↔ (lo ≤ hc tx st a ∧ hc tx st a ≤ hi) := by
  have h4 := h.2.2.2.1
  have h3 := h.2.1
  unfold hx hc ux
  by_cases q : a < st
  · have := h4 a (by omega)
    rw [if_pos q, if_pos q]; split <;> omega
  · rw [if_neg q, if_neg q]
theorem hx_same {s : rgs} (h : XSt tx st M s) {a : Nat} (h1 : 0 ≤ hc tx st a) : hx tx st a = hc tx st a := by
  unfold hx
  unfold hc at h1 ⊢
  by_cases q : a < st
  · rw [if_pos q] at h1 ⊢
    rw [if_pos q]; unfold ux; rw [if_neg (by omega)]
  · rw [if_neg q, if_neg q]
theorem hx_is {s : rgs} (h : XSt tx st M s) {a : Nat} {c : Int} (h1 : 0 ≤ c) (h2 : c ≤ 127) : hx tx st a = c ↔ hc tx st a = c := by
  have := hx_hc h (a := a) h1 h2
  constructor
  · intro e
    have := this.mp ⟨by omega, by omega⟩; omega
  · intro e
    have := this.mpr ⟨by omega, by omega⟩; omega
theorem x_peekG (hd : 1 ≤ d) {a : Nat} (h : XSt tx st M (.inr a)) : xF d 133 [.inr 5] M = rI (hx tx st a) M := by
  obtain ⟨D, rfl, -⟩ := dsucc hd
  obtain ⟨h2, h3, h4, h5, h6, h7, h8, h9, h10⟩ := h
  rw [T_Reader_peek_3, h10, h8, h2, if_neg (fun z => z rfl), if_neg (by rw [lt32_iff] <;> omega)]
  unfold hx
  by_cases q : a < st
  · rw [if_neg (by rw [le32_iff] <;> omega), if_neg (by rw [le32_iff] <;> omega), if_pos (by omega), Int.toNat_natCast, h4 a (by omega), if_pos q]
  · rw [if_pos (by rw [le32_iff] <;> omega), if_neg q]
theorem x_peekB (hd : 1 ≤ d) {p : Nat} (h : XSt tx st M (.inl p)) : xF d 133 [.inr 5] M = rI (-1) M := by
  obtain ⟨D, rfl, -⟩ := dsucc hd
  obtain ⟨h2, h3, h4, h5, h6, h7, h8, h9⟩ := h
  rw [T_Reader_peek_3, h8, if_pos (by rw [eq32_iff] <;> omega)]
theorem x_goesG (hd : 1 ≤ d) {a : Nat} (h : XSt tx st M (.inr a)) : xF d 134 [.inr 5] M = rI (if a < st then 1 else 0) M := by
  obtain ⟨D, rfl, -⟩ := dsucc hd
  obtain ⟨h2, h3, h4, h5, h6, h7, h8, h9, h10⟩ := h
  rw [T_Reader_goesOn_3, h10, h8, h2, if_neg (fun z => z rfl)]
  by_cases q : a < st
  · rw [if_neg (by rw [le32_iff] <;> omega), if_pos q]
  · rw [if_pos (by rw [le32_iff] <;> omega), if_neg q]
theorem x_goesB (hd : 1 ≤ d) {p : Nat} (h : XSt tx st M (.inl p)) : xF d 134 [.inr 5] M = rI 0 M := by
  obtain ⟨D, rfl, -⟩ := dsucc hd
  obtain ⟨h2, h3, h4, h5, h6, h7, h8, h9⟩ := h
  rw [T_Reader_goesOn_3, h8, if_pos (by rw [eq32_iff] <;> omega)]
theorem x_failB (hd : 1 ≤ d) {p : Nat} (h : XSt tx st M (.inl p)) (v : Int) : xF d 135 [.inr 5, .inl v] M = rV M := by
  obtain ⟨D, rfl, -⟩ := dsucc hd
  obtain ⟨h2, h3, h4, h5, h6, h7, h8, h9⟩ := h
  rw [T_Reader_fail_3, h8, if_pos (by rw [eq32_iff] <;> omega)]
theorem x_failG (hd : 1 ≤ d) {a : Nat} (h : XSt tx st M (.inr a)) {p : Nat} (hp : p ≤ 80) : xF d 135 [.inr 5, .inl (p : Int)] M = rV (pset M 3 3 p) ∧ XSt tx st (pset M 3 3 p) (.inl p) := by
  obtain ⟨D, rfl, -⟩ := dsucc hd
  obtain ⟨h2, h3, h4, h5, h6, h7, h8, h9, h10⟩ := h
  rw [T_Reader_fail_3, h10, if_neg (fun z => z rfl)]
  exact ⟨rfl, by rw [pset_ne2 (by decide)]; exact h2, h3, fun i hi => by rw [pset_ne (by decide)]; exact h4 i hi, h5, by rw [pset_ne2 (by decide)]; exact h6, by rw [pset_ne2 (by decide)]; exact h7, pset_eq, hp⟩
theorem XSt_next {a : Nat} (h : XSt tx st M (.inr a)) (ha : a < st) : XSt tx st (pset M 3 1 ((a : Int) + 1)) (.inr (a + 1)) := by
  obtain ⟨h2, h3, h4, h5, h6, h7, h8, h9, h10⟩ := h
  exact ⟨by rw [pset_ne2 (by decide)]; exact h2, h3, fun i hi => by rw [pset_ne (by decide)]; exact h4 i hi, h5, by rw [pset_eq]; omega, by rw [pset_eq]; omega, by rw [pset_eq]; omega, by omega, by rw [pset_ne2 (by decide)]; exact h10⟩
theorem XSt_at {a : Nat} (h : XSt tx st M (.inr a)) : M 3 1 = (a : Int) := h.2.2.2.2.2.2.1
theorem x_take (hd : 2 ≤ d) {s : rgs} (h : XSt tx st M s) {c : Int} (hc0 : 0 ≤ c) (hc1 : c ≤ 127) : ∃ M', xF d 137 [.inr 5, .inl c] M = rV M' ∧ XSt tx st M' (sgN tx st c s) ∧ AGx M M' := by
  obtain ⟨D, rfl, hD⟩ := dsucc hd
  rw [T_Reader_take_3]
  cases s with
  | inl p =>
    have h8 := h.2.2.2.2.2.2.1
    have h9 := h.2.2.2.2.2.2.2
    rw [h8, if_pos (by rw [eq32_iff] <;> omega), x_failB (by omega) h, pbN_rV]
    exact ⟨M, rfl, h, AGx_rfl⟩
  | inr a =>
    have h10 := h.2.2.2.2.2.2.2.2
    have ha := h.2.2.2.2.2.2.2.1
    have hr := hx_range h a
    have h3 := h.2.1
    rw [h10, if_neg (fun z => z rfl), x_peekG (by omega) h, pbI_rI, XSt_at h]
    show ∃ M', _ ∧ XSt tx st M' (if hc tx st a = c then .inr (a + 1) else .inl a) ∧ AGx M M'
    by_cases q : hc tx st a = c
    · have q2 := (hx_is h hc0 hc1).mpr q
      have hl : a < st := hc_lt (tx := tx) (st := st) (by rw [q]; omega)
      rw [if_neg (fun z => z (by rw [q2])), if_pos q]
      exact ⟨_, rfl, XSt_next h hl, AGx_set AGx_rfl (Or.inl rfl)⟩
    · have q2 : hx tx st a ≠ c := fun z => q ((hx_is h hc0 hc1).mp z)
      obtain ⟨e, r⟩ := x_failG (d := D) (by omega) h (p := a) (by omega)
      rw [if_pos (by rw [eq32_iff] <;> omega), e, pbN_rV, if_neg q]
      exact ⟨_, rfl, r, AGx_set AGx_rfl (Or.inr rfl)⟩
/-- a digit of lo to hi: what it is when all is good -/
theorem x_digit (hd : 3 ≤ d) {s : rgs} (h : XSt tx st M s) {lo hi : Int} (h1 : 0 ≤ lo) (h2 : lo ≤ 9) (h3 : -1 ≤ hi) (h4 : hi ≤ 9) : ∃ v M', xF d 139 [.inr 5, .inl lo, .inl (hi + 1)] M = rI v M' ∧ XSt tx st M' (sgD tx st lo hi s) ∧ AGx M M' ∧ (-1 ≤ v ∧ v ≤ 9) ∧ (∀ b, sgD tx st lo hi s = .inr b → v = sgV tx st lo hi s) ∧ (∀ p, sgD tx st lo hi s = .inl p → v = -1) := by
  obtain ⟨D, rfl, hD⟩ := dsucc hd
  obtain ⟨D', rfl, hD'⟩ := dsucc (show 1 ≤ D by omega)
  rw [T_Reader_digit_3]
  cases s with
  | inl p =>
    rw [x_peekB (by omega) h, pbI_rI, T_Reader_counted_3, if_pos (by rw [lt32_iff] <;> omega), x_failB (by omega) h, pbN_rV, pbI_rI]
    exact ⟨_, M, rfl, h, AGx_rfl, by decide, fun b hb => (by cases hb), fun _ _ => rfl⟩
  | inr a =>
    have ha := h.2.2.2.2.2.2.2.1
    have hr := hx_range h a
    have hst := h.2.1
    rw [x_peekG (by omega) h, pbI_rI, T_Reader_counted_3, XSt_at h]
    show ∃ v M', _ ∧ XSt tx st M' (if 48 ≤ hc tx st a ∧ hc tx st a ≤ 57 ∧ lo ≤ hc tx st a - 48 ∧ hc tx st a - 48 ≤ hi then .inr (a + 1) else .inl a) ∧ AGx M M' ∧ (-1 ≤ v ∧ v ≤ 9) ∧ (∀ b, (if 48 ≤ hc tx st a ∧ hc tx st a ≤ 57 ∧ lo ≤ hc tx st a - 48 ∧ hc tx st a - 48 ≤ hi then (.inr (a + 1) : rgs) else .inl a) = .inr b → v = if 48 ≤ hc tx st a ∧ hc tx st a ≤ 57 ∧ lo ≤ hc tx st a - 48 ∧ hc tx st a - 48 ≤ hi then hc tx st a - 48 else 0) ∧ (∀ p, (if 48 ≤ hc tx st a ∧ hc tx st a ≤ 57 ∧ lo ≤ hc tx st a - 48 ∧ hc tx st a - 48 ≤ hi then (.inr (a + 1) : rgs) else .inl a) = .inl p → v = -1)
    by_cases q : 48 ≤ hc tx st a ∧ hc tx st a ≤ 57 ∧ lo ≤ hc tx st a - 48 ∧ hc tx st a - 48 ≤ hi
    · have q2 := hx_same h (a := a) (by omega)
      have hl : a < st := hc_lt (tx := tx) (st := st) (by omega)
      rw [q2, if_neg (by rw [lt32_iff] <;> omega), if_pos (by rw [lt32_iff] <;> omega), pbI_rI, if_pos q, if_pos q]
      exact ⟨_, _, rfl, XSt_next h hl, AGx_set AGx_rfl (Or.inl rfl), by omega, fun _ _ => rfl, fun p hp => (by cases hp)⟩
    · have q2 : ¬ (lo + 48 ≤ hx tx st a ∧ hx tx st a ≤ hi + 48) := fun z => by
        have := (hx_hc h (a := a) (lo := lo + 48) (hi := hi + 48) (by omega) (by omega)).mp z
        omega
      obtain ⟨e, r⟩ := x_failG (d := D') (by omega) h (p := a) (by omega)
      rw [if_neg q, if_neg q]
      by_cases q3 : hx tx st a - 48 < lo
      · rw [if_pos (by rw [lt32_iff] <;> omega), e, pbN_rV, pbI_rI]
        exact ⟨_, _, rfl, r, AGx_set AGx_rfl (Or.inr rfl), by decide, fun b hb => (by cases hb), fun _ _ => rfl⟩
      · rw [if_neg (by rw [lt32_iff] <;> omega), if_neg (by rw [lt32_iff] <;> omega), e, pbN_rV, pbI_rI]
        exact ⟨_, _, rfl, r, AGx_set AGx_rfl (Or.inr rfl), by decide, fun b hb => (by cases hb), fun _ _ => rfl⟩
theorem x_seesG (hd : 2 ≤ d) {a : Nat} (h : XSt tx st M (.inr a)) : xF d 138 [.inr 5] M = rI (if 48 ≤ hc tx st a ∧ hc tx st a ≤ 57 then 1 else 0) M := by
  obtain ⟨D, rfl, hD⟩ := dsucc hd
  have hr := hx_range h a
  have e := hx_hc h (a := a) (lo := 48) (hi := 57) (by decide) (by decide)
  rw [T_Reader_seesDigit_3, x_peekG (by omega) h, pbI_rI]
  by_cases q : 48 ≤ hc tx st a ∧ hc tx st a ≤ 57
  · have := e.mpr q
    rw [if_neg (by rw [lt32_iff] <;> omega), if_neg (by rw [lt32_iff] <;> omega), if_pos q]
  · have q2 : ¬ (48 ≤ hx tx st a ∧ hx tx st a ≤ 57) := fun z => q (e.mp z)
    rw [if_neg q]
    by_cases q3 : hx tx st a < 48
    · rw [if_pos (by rw [lt32_iff] <;> omega)]
    · rw [if_neg (by rw [lt32_iff] <;> omega), if_pos (by rw [lt32_iff] <;> omega)]
theorem x_seesB (hd : 2 ≤ d) {p : Nat} (h : XSt tx st M (.inl p)) : xF d 138 [.inr 5] M = rI 0 M := by
  obtain ⟨D, rfl, hD⟩ := dsucc hd
  rw [T_Reader_seesDigit_3, x_peekB (by omega) h, pbI_rI, if_pos (by decide)]
/-- 1 or 2 digits, not 0 -/
theorem x_inches (hd : 4 ≤ d) {s : rgs} (h : XSt tx st M s) : ∃ v M', xF d 142 [.inr 5] M = rI v M' ∧ XSt tx st M' (sgI tx st s) ∧ AGx M M' ∧ (-11 ≤ v ∧ v ≤ 99) ∧ (∀ b, sgI tx st s = .inr b → v = sgIv tx st s) := by
  obtain ⟨D, rfl, hD⟩ := dsucc hd
  rw [T_Reader_inches]
  obtain ⟨v, M1, e1, r1, a1, b1, i1, j1⟩ := x_digit (d := D) (by omega) h (lo := 0) (hi := 9) (by decide) (by decide) (by decide) (by decide)
  have e1' : xF D 139 [.inr 5, .inl 0, .inl 10] M = rI v M1 := e1
  rw [e1', pbI_rI]
  cases s with
  | inl p =>
    have r1 : XSt tx st M1 (.inl p) := r1
    have := j1 p rfl
    rw [x_seesB (by omega) r1, pbI_rI, if_pos rfl, if_pos (by rw [eq32_iff] <;> omega)]
    exact ⟨_, M1, rfl, r1, a1, by omega, fun b hb => (by cases hb)⟩
  | inr a =>
    have g1 : sgD tx st 0 9 (.inr a) = if 48 ≤ hc tx st a ∧ hc tx st a ≤ 57 then .inr (a + 1) else .inl a := by
      show (if 48 ≤ hc tx st a ∧ hc tx st a ≤ 57 ∧ 0 ≤ hc tx st a - 48 ∧ hc tx st a - 48 ≤ 9 then (.inr (a + 1) : rgs) else .inl a) = _
      by_cases q : 48 ≤ hc tx st a ∧ hc tx st a ≤ 57
      · rw [if_pos q, if_pos (by omega)]
      · rw [if_neg q, if_neg (by omega)]
    have g2 : sgV tx st 0 9 (.inr a) = if 48 ≤ hc tx st a ∧ hc tx st a ≤ 57 then hc tx st a - 48 else 0 := by
      show (if 48 ≤ hc tx st a ∧ hc tx st a ≤ 57 ∧ 0 ≤ hc tx st a - 48 ∧ hc tx st a - 48 ≤ 9 then hc tx st a - 48 else 0) = _
      by_cases q : 48 ≤ hc tx st a ∧ hc tx st a ≤ 57
      · rw [if_pos q, if_pos (by omega)]
      · rw [if_neg q, if_neg (by omega)]
    rw [g1] at r1 i1 j1
    rw [g2] at i1
    show ∃ v M', _ ∧ XSt tx st M' (if 48 ≤ hc tx st a ∧ hc tx st a ≤ 57 then (if 48 ≤ hc tx st (a + 1) ∧ hc tx st (a + 1) ≤ 57 then (if 10 * (hc tx st a - 48) + (hc tx st (a + 1) - 48) = 0 then .inl (a + 1) else .inr (a + 2)) else (if hc tx st a - 48 = 0 then .inl a else .inr (a + 1))) else .inl a) ∧ AGx M M' ∧ (-11 ≤ v ∧ v ≤ 99) ∧ (∀ b, (if 48 ≤ hc tx st a ∧ hc tx st a ≤ 57 then (if 48 ≤ hc tx st (a + 1) ∧ hc tx st (a + 1) ≤ 57 then (if 10 * (hc tx st a - 48) + (hc tx st (a + 1) - 48) = 0 then (.inl (a + 1) : rgs) else .inr (a + 2)) else (if hc tx st a - 48 = 0 then .inl a else .inr (a + 1))) else .inl a) = .inr b → v = if 48 ≤ hc tx st a ∧ hc tx st a ≤ 57 then (if 48 ≤ hc tx st (a + 1) ∧ hc tx st (a + 1) ≤ 57 then 10 * (hc tx st a - 48) + (hc tx st (a + 1) - 48) else hc tx st a - 48) else 0)
    by_cases q : 48 ≤ hc tx st a ∧ hc tx st a ≤ 57
    · rw [if_pos q] at r1 i1 j1
      rw [if_pos q] at i1
      have hv := i1 (a + 1) rfl
      have hst := r1.2.1
      have ha1 := r1.2.2.2.2.2.2.2.1
      simp only [if_pos q]
      rw [x_seesG (by omega) r1, pbI_rI]
      by_cases q2 : 48 ≤ hc tx st (a + 1) ∧ hc tx st (a + 1) ≤ 57
      · obtain ⟨w, M2, e2, r2, a2, b2, i2, j2⟩ := x_digit (d := D) (by omega) r1 (lo := 0) (hi := 9) (by decide) (by decide) (by decide) (by decide)
        have e2' : xF D 139 [.inr 5, .inl 0, .inl 10] M1 = rI w M2 := e2
        have g3 : sgD tx st 0 9 (.inr (a + 1)) = .inr (a + 2) := if_pos ⟨q2.1, q2.2, by omega, by omega⟩
        have g4 : sgV tx st 0 9 (.inr (a + 1)) = hc tx st (a + 1) - 48 := if_pos ⟨q2.1, q2.2, by omega, by omega⟩
        rw [g3] at r2 i2
        have hw := i2 (a + 2) rfl
        rw [g4] at hw
        simp only [if_pos q2]
        rw [if_neg (by decide), e2', pbI_rI]
        by_cases q3 : 10 * (hc tx st a - 48) + (hc tx st (a + 1) - 48) = 0
        · obtain ⟨e, r⟩ := x_failG (d := D) (by omega) r2 (p := a + 1) (by omega)
          simp only [if_pos q3]
          rw [if_neg (fun z => z (by rw [eq32_iff] <;> omega)), XSt_at r2, show (((a + 2 : Nat) : Int) - 1) = ((a + 1 : Nat) : Int) by omega, e, pbN_rV]
          exact ⟨_, _, rfl, r, AGx_tr a1 (AGx_set a2 (Or.inr rfl)), by omega, fun b hb => (by cases hb)⟩
        · simp only [if_neg q3]
          rw [if_pos (by rw [eq32_iff] <;> omega)]
          exact ⟨_, _, rfl, r2, AGx_tr a1 a2, by omega, fun b _ => by omega⟩
      · simp only [if_neg q2]
        rw [if_pos trivial]
        by_cases q3 : hc tx st a - 48 = 0
        · obtain ⟨e, r⟩ := x_failG (d := D) (by omega) r1 (p := a) (by omega)
          simp only [if_pos q3]
          rw [if_neg (fun z => z (by rw [eq32_iff] <;> omega)), XSt_at r1, show (((a + 1 : Nat) : Int) - 1) = (a : Int) by omega, e, pbN_rV]
          exact ⟨_, _, rfl, r, AGx_set a1 (Or.inr rfl), by omega, fun b hb => (by cases hb)⟩
        · simp only [if_neg q3]
          rw [if_pos (by rw [eq32_iff] <;> omega)]
          exact ⟨_, _, rfl, r1, a1, by omega, fun b _ => by omega⟩
    · rw [if_neg q] at r1 j1
      have := j1 a rfl
      simp only [if_neg q]
      rw [x_seesB (by omega) r1, pbI_rI, if_pos rfl, if_pos (by rw [eq32_iff] <;> omega)]
      exact ⟨_, M1, rfl, r1, a1, by omega, fun b hb => (by cases hb)⟩
end XR
end
section
/-! the class reads a set's letters -/
/-- the class's state against the told one: the same, or it stops a step earlier at a sign that can't stand -/
def rlS (tx : Nat → Int) (st : Nat) (s s' : rgs) : Prop := s' = s ∨ ∃ b, s = .inr b ∧ s' = .inl b ∧ b < st ∧ hc tx st b ≠ 59
section XL
variable {tx : Nat → Int} {st d D T : Nat} {M : pM}
theorem x_letter (hd : 3 ≤ d) {a : Nat} (h : XSt tx st M (.inr a)) {lo : Int} (h1 : 0 ≤ lo) (h2 : lo ≤ 10) (hT : T ≤ 10) : ∃ v M', xF d 140 [.inr 5, .inl lo, .inl (T : Int)] M = rI v M' ∧ AGx M M' ∧ ((lo ≤ hc tx st a - 97 ∧ hc tx st a - 97 < (T : Int) ∧ v = hc tx st a - 97 ∧ XSt tx st M' (.inr (a + 1))) ∨ (¬ (lo ≤ hc tx st a - 97 ∧ hc tx st a - 97 < (T : Int)) ∧ v = -1 ∧ XSt tx st M' (.inl a))) := by
  obtain ⟨D, rfl, hD⟩ := dsucc hd
  obtain ⟨D', rfl, hD'⟩ := dsucc (show 1 ≤ D by omega)
  have ha := h.2.2.2.2.2.2.2.1
  have hr := hx_range h a
  have hst := h.2.1
  rw [T_Reader_letter, x_peekG (by omega) h, pbI_rI, T_Reader_counted_3, XSt_at h]
  by_cases q : lo ≤ hc tx st a - 97 ∧ hc tx st a - 97 < (T : Int)
  · have q2 := hx_same h (a := a) (by omega)
    have hl : a < st := hc_lt (tx := tx) (st := st) (by omega)
    rw [q2, if_neg (by rw [lt32_iff] <;> omega), if_pos (by rw [lt32_iff] <;> omega), pbI_rI]
    exact ⟨_, _, rfl, AGx_set AGx_rfl (Or.inl rfl), Or.inl ⟨q.1, q.2, rfl, XSt_next h hl⟩⟩
  · have q2 : ¬ (lo + 97 ≤ hx tx st a ∧ hx tx st a ≤ (T : Int) + 96) := fun z => by
      have := (hx_hc h (a := a) (lo := lo + 97) (hi := (T : Int) + 96) (by omega) (by omega)).mp z
      omega
    obtain ⟨e, r⟩ := x_failG (d := D') (by omega) h (p := a) (by omega)
    by_cases q3 : hx tx st a - 97 < lo
    · rw [if_pos (by rw [lt32_iff] <;> omega), e, pbN_rV, pbI_rI]
      exact ⟨_, _, rfl, AGx_set AGx_rfl (Or.inr rfl), Or.inr ⟨q, rfl, r⟩⟩
    · rw [if_neg (by rw [lt32_iff] <;> omega), if_neg (by rw [lt32_iff] <;> omega), e, pbN_rV, pbI_rI]
      exact ⟨_, _, rfl, AGx_set AGx_rfl (Or.inr rfl), Or.inr ⟨q, rfl, r⟩⟩
theorem x_letB (hD : 1 ≤ D) {p : Nat} (h : XSt tx st M (.inl p)) (x1 x2 x3 x4 : Int) : xE D 111 16 [.inr 6, .inl x1, .inl x2, .inl x3, .inl x4] [] M = rI x3 M := by
  rw [L_HouseReader_letters_16]
  split
  · rfl
  · rw [x_goesB hD h, pbI_rI, if_pos rfl]
theorem x_lets (hD : 3 ≤ D) (hT : T ≤ 10) : ∀ (f a bits : Nat) (last x4 : Int) (M : pM), XSt tx st M (.inr a) → bits ≠ 0 → bits < 1024 → 0 ≤ last → last ≤ 9 → 10 ≤ (f : Int) + last → 0 ≤ x4 → x4 ≤ last → ∃ z M' s', xE D 111 16 [.inr 6, .inl (T : Int), .inl last, .inl (bits : Int), .inl x4] [] M = rI z M' ∧ XSt tx st M' s' ∧ AGx M M' ∧ rlS tx st (sgL tx st T f a bits last).1 s' ∧ (∀ b, s' = .inr b → z = ((sgL tx st T f a bits last).2 : Int)) := by
  intro f
  induction f with
  | zero => intro a bits last x4 M h hb0 hb hl1 hl2 hf; omega
  | succ f ih =>
    intro a bits last x4 M h hb0 hb hl1 hl2 hf hx1 hx2
    have hr := hx_range h a
    have hu : sgL tx st T (f + 1) a bits last = if 97 ≤ hc tx st a ∧ hc tx st a ≤ 106 then (if hc tx st a - 97 ≤ last ∨ (T : Int) ≤ hc tx st a - 97 then (.inl a, bits) else sgL tx st T f (a + 1) (bits ||| 2 ^ (hc tx st a - 97).toNat) (hc tx st a - 97)) else (if bits = 0 then .inl a else .inr a, bits) := rfl
    rw [L_HouseReader_letters_16, if_neg (by rw [le32_iff] <;> omega), x_goesG (by omega) h, pbI_rI]
    by_cases q1 : a < st
    · rw [if_pos q1, if_neg (by decide), x_peekG (by omega) h, pbI_rI]
      by_cases q2 : hc tx st a = 59
      · have q3 := (hx_is h (by decide) (by decide)).mpr q2
        rw [if_pos (by rw [q3]), hu, if_neg (by omega), if_neg hb0]
        exact ⟨_, M, .inr a, rfl, h, AGx_rfl, Or.inl rfl, fun _ _ => rfl⟩
      · have q3 : hx tx st a ≠ 59 := fun z => q2 ((hx_is h (by decide) (by decide)).mp z)
        obtain ⟨v, M1, e1, a1, alt⟩ := x_letter (d := D) (by omega) h (lo := last + 1) (by omega) (by omega) hT
        rw [if_neg (by rw [eq32_iff] <;> omega), e1, pbI_rI]
        rcases alt with ⟨r1, r2, rfl, r4⟩ | ⟨r1, rfl, r4⟩
        · have hp : 2 ^ (hc tx st a - 97).toNat < 1024 := show _ < 2 ^ 10 from Nat.pow_lt_pow_right (by decide) (by omega)
          have ej : jshl 1 (hc tx st a - 97) = ((2 ^ (hc tx st a - 97).toNat : Nat) : Int) := by
            rw [← jshl_one _ (show (hc tx st a - 97).toNat < 31 by omega), Int.toNat_of_nonneg (by omega)]
          rw [if_pos (by rw [le32_iff] <;> omega), ej, jor_nat (by omega) (by omega), hu, if_pos (by omega), if_neg (by omega)]
          have hor : bits ≤ bits ||| 2 ^ (hc tx st a - 97).toNat := Nat.left_le_or
          obtain ⟨z, M', s', i1, i2, i3, i4, i5⟩ := ih (a + 1) (bits ||| 2 ^ (hc tx st a - 97).toNat) (hc tx st a - 97) (x4 + 1) M1 r4 (by omega) (or_bit (by omega) hb) (by omega) (by omega) (by omega) (by omega) (by omega)
          exact ⟨z, M', s', i1, i2, AGx_tr a1 i3, i4, i5⟩
        · rw [if_neg (by decide), x_letB (by omega) r4]
          refine ⟨_, M1, .inl a, rfl, r4, a1, ?_, fun b hb2 => (by cases hb2)⟩
          rw [hu]
          by_cases q4 : 97 ≤ hc tx st a ∧ hc tx st a ≤ 106
          · rw [if_pos q4, if_pos (by omega)]; exact Or.inl rfl
          · rw [if_neg q4, if_neg hb0]; exact Or.inr ⟨a, rfl, rfl, q1, q2⟩
    · have q2 : hc tx st a = -1 := if_neg q1
      rw [if_neg q1, if_pos rfl, hu, if_neg (by omega), if_neg hb0]
      exact ⟨_, M, .inr a, rfl, h, AGx_rfl, Or.inl rfl, fun _ _ => rfl⟩
theorem x_letters (hd : 4 ≤ d) (hT : T ≤ 10) {a : Nat} (h : XSt tx st M (.inr a)) : ∃ z M' s', xF d 111 [.inr 6, .inl (T : Int)] M = rI z M' ∧ XSt tx st M' s' ∧ AGx M M' ∧ rlS tx st (sgL tx st T 11 a 0 (-1)).1 s' ∧ (∀ b, s' = .inr b → z = ((sgL tx st T 11 a 0 (-1)).2 : Int)) := by
  obtain ⟨D, rfl, hD⟩ := dsucc hd
  have hu : sgL tx st T (10 + 1) a 0 (-1) = if 97 ≤ hc tx st a ∧ hc tx st a ≤ 106 then (if hc tx st a - 97 ≤ -1 ∨ (T : Int) ≤ hc tx st a - 97 then (.inl a, 0) else sgL tx st T 10 (a + 1) (0 ||| 2 ^ (hc tx st a - 97).toNat) (hc tx st a - 97)) else (if 0 = 0 then .inl a else .inr a, 0) := rfl
  obtain ⟨v, M1, e1, a1, alt⟩ := x_letter (d := D) (by omega) h (lo := 0) (by decide) (by decide) hT
  rw [T_HouseReader_letters, e1, pbI_rI, show (11 : Nat) = 10 + 1 from rfl]
  rcases alt with ⟨r1, r2, rfl, r4⟩ | ⟨r1, rfl, r4⟩
  · have hp : 2 ^ (hc tx st a - 97).toNat < 1024 := show _ < 2 ^ 10 from Nat.pow_lt_pow_right (by decide) (by omega)
    have hp0 : 0 < 2 ^ (hc tx st a - 97).toNat := Nat.two_pow_pos _
    have ej : jshl 1 (hc tx st a - 97) = ((2 ^ (hc tx st a - 97).toNat : Nat) : Int) := by
      rw [← jshl_one _ (show (hc tx st a - 97).toNat < 31 by omega), Int.toNat_of_nonneg (by omega)]
    rw [if_pos (by rw [le32_iff] <;> omega), ej, hu, if_pos (by omega), if_neg (by omega), Nat.zero_or]
    obtain ⟨z, M', s', i1, i2, i3, i4, i5⟩ := x_lets (D := D) (by omega) hT 10 (a + 1) (2 ^ (hc tx st a - 97).toNat) (hc tx st a - 97) 0 M1 r4 (by omega) hp (by omega) (by omega) (by omega) (by decide) (by omega)
    exact ⟨z, M', s', i1, i2, AGx_tr a1 i3, i4, i5⟩
  · rw [if_neg (by decide), x_letB (by omega) r4]
    refine ⟨_, M1, .inl a, rfl, r4, a1, ?_, fun b hb2 => (by cases hb2)⟩
    rw [hu]
    by_cases q4 : 97 ≤ hc tx st a ∧ hc tx st a ≤ 106
    · rw [if_pos q4, if_pos (by omega)]; exact Or.inl rfl
    · rw [if_neg q4, if_pos rfl]; exact Or.inl rfl
end XL
end
section
/-! the class reads a line into its draft (object 17) -/
/-- the draft is h -/
def YH (M h : pM) : Prop := M 17 9 = hR h ∧ M 17 10 = hT h ∧ M 17 11 = hS h ∧ (∀ r, r < hR h → M 18 r = h 1 r) ∧ (∀ p, p < 36 → M 19 p = h 2 p) ∧ (∀ t, t < hT h → M 20 t = h 3 t ∧ M 21 t = h 4 t ∧ M 22 t = h 5 t ∧ M 23 t = h 6 t) ∧ (∀ s, s < hS h → M 24 s = me h s)
/-- all but the reader and the draft is the same -/
def AGl (M M' : pM) : Prop := ∀ o i, ¬ (o = 3 ∧ (i = 1 ∨ i = 3)) → ¬ (17 ≤ o ∧ o ≤ 24) → M' o i = M o i
theorem AGl_x {M M1 : pM} (a : AGx M M1) : AGl M M1 := fun o i q _ => a o i q
theorem AGl_tr {M M1 M2 : pM} (h1 : AGl M M1) (h2 : AGl M1 M2) : AGl M M2 := fun o i q q2 => (h2 o i q q2).trans (h1 o i q q2)
theorem AGl_set {M M' : pM} (h : AGl M M') {o k : Nat} {v : Int} (h1 : 17 ≤ o) (h2 : o ≤ 24) : AGl M (pset M' o k v) := fun o' i q q2 => by
  unfold pset
  rw [if_neg (fun z => q2 ⟨by omega, by omega⟩)]
  exact h o' i q q2
section XN
variable {tx : Nat → Int} {st d D : Nat} {M M' h : pM}
theorem YH_x (y : YH M h) (a : AGx M M') : YH M' h := by
  obtain ⟨y1, y2, y3, y4, y5, y6, y7⟩ := y
  exact ⟨by rw [a 17 9 (by omega)]; exact y1, by rw [a 17 10 (by omega)]; exact y2, by rw [a 17 11 (by omega)]; exact y3, fun r hr => by rw [a 18 r (by omega)]; exact y4 r hr, fun p hp => by rw [a 19 p (by omega)]; exact y5 p hp, fun t ht => by rw [a 20 t (by omega), a 21 t (by omega), a 22 t (by omega), a 23 t (by omega)]; exact y6 t ht, fun s hs => by rw [a 24 s (by omega)]; exact y7 s hs⟩
theorem XSt_ne {s : rgs} (x : XSt tx st M s) {o k : Nat} {v : Int} (h1 : o ≠ 3) (h2 : o ≠ 2) : XSt tx st (pset M o k v) s := by
  obtain ⟨a1, a2, a3, a4, a5, a6, a7⟩ := x
  refine ⟨by rw [pset_ne h1.symm]; exact a1, a2, fun i hi => by rw [pset_ne h2.symm]; exact a3 i hi, a4, by rw [pset_ne h1.symm]; exact a5, by rw [pset_ne h1.symm]; exact a6, ?_⟩
  cases s with
  | inl p => exact ⟨by rw [pset_ne h1.symm]; exact a7.1, a7.2⟩
  | inr a => exact ⟨by rw [pset_ne h1.symm]; exact a7.1, a7.2.1, by rw [pset_ne h1.symm]; exact a7.2.2⟩
/-- a room more; nothing is written when there are 6 -/
theorem x_addRoom (hd : 1 ≤ d) {s : rgs} (x : XSt tx st M s) (y : YH M h) (hr : hR h < 6) (v : Int) : ∃ M', xF d 70 [.inr 19, .inl v] M = rV M' ∧ XSt tx st M' s ∧ YH M' (addR h v) ∧ AGl M M' := by
  obtain ⟨D, rfl, -⟩ := dsucc hd
  obtain ⟨y1, y2, y3, y4, y5, y6, y7⟩ := y
  rw [T_House_addRoom, y1, if_neg (by rw [lt32_iff] <;> omega), if_neg (by rw [le32_iff] <;> omega), if_pos (by omega), Int.toNat_natCast, pset_ne (show 17 ≠ 18 by decide), y1]
  refine ⟨_, rfl, XSt_ne (XSt_ne x (by decide) (by decide)) (by decide) (by decide), ⟨?_, ?_, ?_, fun r hr2 => ?_, fun p hp => ?_, fun t ht => ?_, fun s hs => ?_⟩, AGl_set (AGl_set (fun _ _ _ _ => rfl) (by decide) (by decide)) (by decide) (by decide)⟩
  · rw [pset_eq, hR_addR]; omega
  · rw [hT_addR, pset_ne2 (by decide), pset_ne (by decide)]; exact y2
  · rw [hS_addR, pset_ne2 (by decide), pset_ne (by decide)]; exact y3
  · rw [hR_addR] at hr2
    unfold addR
    rw [pset_ne (show 18 ≠ 17 by decide), pset_ne (show 1 ≠ 0 by decide)]
    by_cases q : r = hR h
    · rw [q, pset_eq, pset_eq]
    · rw [pset_ne2 q, pset_ne2 q]; exact y4 r (by omega)
  · unfold addR
    rw [pset_ne (by decide), pset_ne (by decide), pset_ne (by decide), pset_ne (by decide)]; exact y5 p hp
  · rw [hT_addR] at ht
    unfold addR
    simp only [pset_ne (show 20 ≠ 17 by decide), pset_ne (show 21 ≠ 17 by decide), pset_ne (show 22 ≠ 17 by decide), pset_ne (show 23 ≠ 17 by decide), pset_ne (show 20 ≠ 18 by decide), pset_ne (show 21 ≠ 18 by decide), pset_ne (show 22 ≠ 18 by decide), pset_ne (show 23 ≠ 18 by decide), pset_ne (show 3 ≠ 0 by decide), pset_ne (show 4 ≠ 0 by decide), pset_ne (show 5 ≠ 0 by decide), pset_ne (show 6 ≠ 0 by decide), pset_ne (show 3 ≠ 1 by decide), pset_ne (show 4 ≠ 1 by decide), pset_ne (show 5 ≠ 1 by decide), pset_ne (show 6 ≠ 1 by decide)]
    exact y6 t ht
  · rw [hS_addR] at hs
    unfold addR me
    rw [pset_ne (show 24 ≠ 17 by decide), pset_ne (show 24 ≠ 18 by decide), pset_ne (show 7 ≠ 0 by decide), pset_ne (show 7 ≠ 1 by decide)]
    exact y7 s hs
theorem x_addSet (hd : 1 ≤ d) {s : rgs} (x : XSt tx st M s) (y : YH M h) (hr : hS h < 8) (b : Nat) : ∃ M', xF d 72 [.inr 19, .inl (b : Int)] M = rV M' ∧ XSt tx st M' s ∧ YH M' (addS h b) ∧ AGl M M' := by
  obtain ⟨D, rfl, -⟩ := dsucc hd
  obtain ⟨y1, y2, y3, y4, y5, y6, y7⟩ := y
  rw [T_House_addSet, y3, if_neg (by rw [lt32_iff] <;> omega), if_neg (by rw [le32_iff] <;> omega), if_pos (by omega), Int.toNat_natCast, pset_ne (show 17 ≠ 24 by decide), y3]
  refine ⟨_, rfl, XSt_ne (XSt_ne x (by decide) (by decide)) (by decide) (by decide), ⟨?_, ?_, ?_, fun r hr2 => ?_, fun p hp => ?_, fun t ht => ?_, fun s hs => ?_⟩, AGl_set (AGl_set (fun _ _ _ _ => rfl) (by decide) (by decide)) (by decide) (by decide)⟩
  · rw [hR_addS, pset_ne2 (by decide), pset_ne (by decide)]; exact y1
  · rw [hT_addS, pset_ne2 (by decide), pset_ne (by decide)]; exact y2
  · rw [pset_eq, hS_addS]; omega
  · rw [hR_addS] at hr2
    unfold addS
    rw [pset_ne (show 18 ≠ 17 by decide), pset_ne (show 18 ≠ 24 by decide), pset_ne (show 1 ≠ 0 by decide), pset_ne (show 1 ≠ 7 by decide)]; exact y4 r hr2
  · unfold addS
    rw [pset_ne (by decide), pset_ne (by decide), pset_ne (by decide), pset_ne (by decide)]; exact y5 p hp
  · rw [hT_addS] at ht
    unfold addS
    simp only [pset_ne (show 20 ≠ 17 by decide), pset_ne (show 21 ≠ 17 by decide), pset_ne (show 22 ≠ 17 by decide), pset_ne (show 23 ≠ 17 by decide), pset_ne (show 20 ≠ 24 by decide), pset_ne (show 21 ≠ 24 by decide), pset_ne (show 22 ≠ 24 by decide), pset_ne (show 23 ≠ 24 by decide), pset_ne (show 3 ≠ 0 by decide), pset_ne (show 4 ≠ 0 by decide), pset_ne (show 5 ≠ 0 by decide), pset_ne (show 6 ≠ 0 by decide), pset_ne (show 3 ≠ 7 by decide), pset_ne (show 4 ≠ 7 by decide), pset_ne (show 5 ≠ 7 by decide), pset_ne (show 6 ≠ 7 by decide)]
    exact y6 t ht
  · rw [hS_addS] at hs
    unfold addS me
    rw [pset_ne (show 24 ≠ 17 by decide), pset_ne (show 7 ≠ 0 by decide)]
    by_cases q : s = hS h
    · rw [q, pset_eq, pset_eq]; rfl
    · rw [pset_ne2 q, pset_ne2 q]; exact y7 s (by omega)
theorem x_addThing (hd : 1 ≤ d) {s : rgs} (x : XSt tx st M s) (y : YH M h) (hr : hT h < 10) (b w g r : Int) : ∃ M', xF d 71 [.inr 19, .inl b, .inl w, .inl g, .inl r] M = rV M' ∧ XSt tx st M' s ∧ YH M' (addT h b w g r) ∧ AGl M M' := by
  obtain ⟨D, rfl, -⟩ := dsucc hd
  obtain ⟨y1, y2, y3, y4, y5, y6, y7⟩ := y
  have a1 : ∀ (M : pM) (i : Nat) (v : Int), pset M 20 i v 17 10 = M 17 10 := fun _ _ _ => pset_ne (by decide)
  have a2 : ∀ (M : pM) (i : Nat) (v : Int), pset M 21 i v 17 10 = M 17 10 := fun _ _ _ => pset_ne (by decide)
  have a3 : ∀ (M : pM) (i : Nat) (v : Int), pset M 22 i v 17 10 = M 17 10 := fun _ _ _ => pset_ne (by decide)
  have a4 : ∀ (M : pM) (i : Nat) (v : Int), pset M 23 i v 17 10 = M 17 10 := fun _ _ _ => pset_ne (by decide)
  have i1 : (0 : Int) ≤ (hT h : Int) ∧ (hT h : Int) < 10 := by omega
  rw [T_House_addThing]
  simp only [a1, a2, a3, a4, y2, Int.toNat_natCast]
  rw [if_neg (by rw [lt32_iff] <;> omega), if_neg (by rw [le32_iff] <;> omega), if_pos i1, if_pos i1, if_pos i1, if_pos i1]
  refine ⟨_, rfl, XSt_ne (XSt_ne (XSt_ne (XSt_ne (XSt_ne x (by decide) (by decide)) (by decide) (by decide)) (by decide) (by decide)) (by decide) (by decide)) (by decide) (by decide), ⟨?_, ?_, ?_, fun r hr2 => ?_, fun p hp => ?_, fun t ht => ?_, fun s hs => ?_⟩, AGl_set (AGl_set (AGl_set (AGl_set (AGl_set (fun _ _ _ _ => rfl) (by decide) (by decide)) (by decide) (by decide)) (by decide) (by decide)) (by decide) (by decide)) (by decide) (by decide)⟩
  · rw [hR_addT, pset_ne2 (by decide), pset_ne (by decide), pset_ne (by decide), pset_ne (by decide), pset_ne (by decide)]; exact y1
  · rw [pset_eq, hT_addT]; omega
  · rw [hS_addT, pset_ne2 (by decide), pset_ne (by decide), pset_ne (by decide), pset_ne (by decide), pset_ne (by decide)]; exact y3
  · rw [hR_addT] at hr2
    unfold addT
    rw [pset_ne (show 18 ≠ 17 by decide), pset_ne (show 18 ≠ 23 by decide), pset_ne (show 18 ≠ 22 by decide), pset_ne (show 18 ≠ 21 by decide), pset_ne (show 18 ≠ 20 by decide), pset_ne (show 1 ≠ 0 by decide), pset_ne (show 1 ≠ 6 by decide), pset_ne (show 1 ≠ 5 by decide), pset_ne (show 1 ≠ 4 by decide), pset_ne (show 1 ≠ 3 by decide)]; exact y4 r hr2
  · unfold addT
    rw [pset_ne (show 19 ≠ 17 by decide), pset_ne (show 19 ≠ 23 by decide), pset_ne (show 19 ≠ 22 by decide), pset_ne (show 19 ≠ 21 by decide), pset_ne (show 19 ≠ 20 by decide), pset_ne (show 2 ≠ 0 by decide), pset_ne (show 2 ≠ 6 by decide), pset_ne (show 2 ≠ 5 by decide), pset_ne (show 2 ≠ 4 by decide), pset_ne (show 2 ≠ 3 by decide)]; exact y5 p hp
  · rw [hT_addT] at ht
    unfold addT
    simp only [pset_ne (show 20 ≠ 17 by decide), pset_ne (show 21 ≠ 17 by decide), pset_ne (show 22 ≠ 17 by decide), pset_ne (show 23 ≠ 17 by decide), pset_ne (show 20 ≠ 21 by decide), pset_ne (show 20 ≠ 22 by decide), pset_ne (show 20 ≠ 23 by decide), pset_ne (show 21 ≠ 22 by decide), pset_ne (show 21 ≠ 23 by decide), pset_ne (show 21 ≠ 20 by decide), pset_ne (show 22 ≠ 20 by decide), pset_ne (show 22 ≠ 21 by decide), pset_ne (show 22 ≠ 23 by decide), pset_ne (show 23 ≠ 20 by decide), pset_ne (show 23 ≠ 21 by decide), pset_ne (show 23 ≠ 22 by decide), pset_ne (show 3 ≠ 0 by decide), pset_ne (show 4 ≠ 0 by decide), pset_ne (show 5 ≠ 0 by decide), pset_ne (show 6 ≠ 0 by decide), pset_ne (show 3 ≠ 4 by decide), pset_ne (show 3 ≠ 5 by decide), pset_ne (show 3 ≠ 6 by decide), pset_ne (show 4 ≠ 3 by decide), pset_ne (show 4 ≠ 5 by decide), pset_ne (show 4 ≠ 6 by decide), pset_ne (show 5 ≠ 3 by decide), pset_ne (show 5 ≠ 4 by decide), pset_ne (show 5 ≠ 6 by decide), pset_ne (show 6 ≠ 3 by decide), pset_ne (show 6 ≠ 4 by decide), pset_ne (show 6 ≠ 5 by decide)]
    by_cases q : t = hT h
    · rw [q]; simp only [pset_eq, and_self]
    · simp only [pset_ne2 q]; exact y6 t (by omega)
  · rw [hS_addT] at hs
    unfold addT me
    rw [pset_ne (show 24 ≠ 17 by decide), pset_ne (show 24 ≠ 23 by decide), pset_ne (show 24 ≠ 22 by decide), pset_ne (show 24 ≠ 21 by decide), pset_ne (show 24 ≠ 20 by decide), pset_ne (show 7 ≠ 0 by decide), pset_ne (show 7 ≠ 6 by decide), pset_ne (show 7 ≠ 5 by decide), pset_ne (show 7 ≠ 4 by decide), pset_ne (show 7 ≠ 3 by decide)]
    exact y7 s hs
end XN
end
section
/-! the class reads a door's line, a thing's line -/
section XD
variable {tx : Nat → Int} {st d D : Nat} {M M' h : pM}
theorem x_isR17 (hd : 1 ≤ d) (y : YH M h) (hR6 : hR h ≤ 6) {b : Int} (h1 : -2147483648 ≤ b) (h2 : b < 2147483648) : xF d 63 [.inr 19, .inl b] M = rI (if 0 ≤ b ∧ b < (hR h : Int) then 1 else 0) M := by
  obtain ⟨D, rfl, -⟩ := dsucc hd
  rw [T_House_isRoom_17, y.1]
  by_cases q : b < 0
  · rw [if_pos (by rw [lt32_iff] <;> omega), if_neg (by omega)]
  · rw [if_neg (by rw [lt32_iff] <;> omega)]
    by_cases q2 : (hR h : Int) ≤ b
    · rw [if_pos (by rw [le32_iff] <;> omega), if_neg (by omega)]
    · rw [if_neg (by rw [le32_iff] <;> omega), if_pos (by omega)]
theorem x_makeDoor (hd : 3 ≤ d) {s : rgs} (x : XSt tx st M s) (y : YH M h) (hR6 : hR h ≤ 6) {a b : Nat} (ha : a < hR h) (hb : b < hR h) (hab : a ≠ b) (w : Int) : ∃ M', xF d 73 [.inr 19, .inl (a : Int), .inl (b : Int), .inl w] M = rV M' ∧ XSt tx st M' s ∧ YH M' (addD h a b w) ∧ AGl M M' := by
  obtain ⟨D, rfl, hD⟩ := dsucc hd
  obtain ⟨D', rfl, hD'⟩ := dsucc (show 1 ≤ D by omega)
  have qa : 0 ≤ (a : Int) ∧ (a : Int) < (hR h : Int) := by omega
  have qb : 0 ≤ (b : Int) ∧ (b : Int) < (hR h : Int) := by omega
  rw [T_House_makeDoor_17, T_House_areUnlikeRooms_17, x_isR17 (by omega) y hR6 (by omega) (by omega), pbI_rI, if_pos qa, if_neg (by decide), x_isR17 (by omega) y hR6 (by omega) (by omega), pbI_rI, if_pos qb, if_neg (by decide), if_neg (by rw [eq32_iff] <;> omega), pbI_rI, if_neg (by decide), if_pos (by omega), if_pos (by omega), show ((a : Int) * 6 + (b : Int)).toNat = 6 * a + b by omega, show ((b : Int) * 6 + (a : Int)).toNat = 6 * b + a by omega]
  obtain ⟨y1, y2, y3, y4, y5, y6, y7⟩ := y
  have e : ∀ o i, o ≠ 19 → pset (pset M 19 (6 * a + b) w) 19 (6 * b + a) w o i = M o i := fun o i ho => by rw [pset_ne ho, pset_ne ho]
  have eh : ∀ o i, o ≠ 2 → addD h a b w o i = h o i := fun o i ho => by
    unfold addD; rw [pset_ne ho, pset_ne ho]
  have eR : hR (addD h a b w) = hR h := by unfold hR; rw [eh 0 0 (by decide)]
  have eT : hT (addD h a b w) = hT h := by unfold hT; rw [eh 0 1 (by decide)]
  have eS : hS (addD h a b w) = hS h := by unfold hS; rw [eh 0 2 (by decide)]
  refine ⟨_, rfl, XSt_ne (XSt_ne x (by decide) (by decide)) (by decide) (by decide), ⟨by rw [e 17 9 (by decide), eR]; exact y1, by rw [e 17 10 (by decide), eT]; exact y2, by rw [e 17 11 (by decide), eS]; exact y3, fun r hr => ?_, fun p hp => ?_, fun t ht => ?_, fun s hs => ?_⟩, AGl_set (AGl_set (fun _ _ _ _ => rfl) (by decide) (by decide)) (by decide) (by decide)⟩
  · rw [eR] at hr; rw [e 18 r (by decide), eh 1 r (by decide)]; exact y4 r hr
  · unfold addD
    by_cases q : p = 6 * b + a
    · rw [q, pset_eq, pset_eq]
    · rw [pset_ne2 q, pset_ne2 q]
      by_cases q2 : p = 6 * a + b
      · rw [q2, pset_eq, pset_eq]
      · rw [pset_ne2 q2, pset_ne2 q2]; exact y5 p hp
  · rw [eT] at ht
    rw [e 20 t (by decide), e 21 t (by decide), e 22 t (by decide), e 23 t (by decide), eh 3 t (by decide), eh 4 t (by decide), eh 5 t (by decide), eh 6 t (by decide)]; exact y6 t ht
  · rw [eS] at hs
    unfold me
    rw [e 24 s (by decide), eh 7 s (by decide)]; exact y7 s hs
theorem x_doorT (hD : 3 ≤ D) {s : rgs} (x : XSt tx st M s) (y : YH M h) (hR6 : hR h ≤ 6) {v1 v2 : Int} {a b : Nat} (hv : ∀ c, s = .inr c → v1 = (a : Int) ∧ v2 = (b : Int) ∧ a < hR h ∧ b < hR h ∧ a ≠ b) : ∃ M', (pbN (xF D 137 [.inr 5, .inl 61] M) fun M6 =>
 pbI (xF D 139 [.inr 5, .inl 1, .inl 10] M6) fun v8 M7 =>
 if ¬ eq32 (M7 3 3) (-1) then
 some (none, M7)
 else
 (pbN (xF D 73 [.inr 19, .inl v1, .inl v2, .inl v8] M7) fun M9 =>
 some (none, M9))) = rV M' ∧ XSt tx st M' (sgD tx st 1 9 (sgN tx st 61 s)) ∧ AGl M M' ∧ ∀ c, sgD tx st 1 9 (sgN tx st 61 s) = .inr c → YH M' (addD h a b (sgV tx st 1 9 (sgN tx st 61 s))) := by
  obtain ⟨M1, e1, r1, a1⟩ := x_take (d := D) (by omega) x (c := 61) (by decide) (by decide)
  obtain ⟨w, M2, e2, r2, a2, b2, i2, j2⟩ := x_digit (d := D) (by omega) r1 (lo := 1) (hi := 9) (by decide) (by decide) (by decide) (by decide)
  have e2' : xF D 139 [.inr 5, .inl 1, .inl 10] M1 = rI w M2 := e2
  have A : AGx M M2 := AGx_tr a1 a2
  rw [e1, pbN_rV, e2', pbI_rI]
  generalize hs : sgD tx st 1 9 (sgN tx st 61 s) = s6 at r2 i2 j2 ⊢
  cases s6 with
  | inl p =>
    have h8 := r2.2.2.2.2.2.2.1
    have h9 := r2.2.2.2.2.2.2.2
    rw [h8, if_pos (by rw [eq32_iff] <;> omega)]
    exact ⟨M2, rfl, r2, AGl_x A, fun c hc => (by cases hc)⟩
  | inr c =>
    have h10 := r2.2.2.2.2.2.2.2.2
    obtain ⟨c1, hc1, -⟩ := sgD_inr hs
    obtain ⟨c0, hc0, -⟩ := sgN_inr hc1
    obtain ⟨rfl, rfl, q1, q2, q3⟩ := hv c0 hc0
    obtain ⟨M3, e3, r3, y3, a3⟩ := x_makeDoor (d := D) (by omega) r2 (YH_x y A) hR6 q1 q2 q3 w
    rw [h10, if_neg (fun z => z rfl), e3, pbN_rV]
    have hw := i2 c rfl
    exact ⟨M3, rfl, r3, AGl_tr (AGl_x A) a3, fun _ _ => by rw [← hw]; exact y3⟩
theorem x_doorLine (hd : 4 ≤ d) {a : Nat} (x : XSt tx st M (.inr (a + 1))) (y : YH M h) (hR6 : hR h ≤ 6) : ∃ M', xF d 109 [.inr 6, .inr 19] M = rV M' ∧ XSt tx st M' (sgD tx st 1 9 (d3S tx st (hR h) a)) ∧ AGl M M' ∧ ∀ c, sgD tx st 1 9 (d3S tx st (hR h) a) = .inr c → YH M' (addD h (d1V tx st (hR h) a).toNat (d2V tx st (hR h) a).toNat (d3V tx st (hR h) a)) := by
  obtain ⟨D, rfl, hD⟩ := dsucc hd
  have eR : (hR h : Int) = ((hR h : Int) - 1) + 1 := by omega
  obtain ⟨v1, M1, e1, r1, a1, b1, i1, j1⟩ := x_digit (d := D) (by omega) x (lo := 0) (hi := (hR h : Int) - 1) (by decide) (by decide) (by omega) (by omega)
  rw [← eR] at e1
  obtain ⟨M2, e2, r2, a2⟩ := x_take (d := D) (by omega) r1 (c := 45) (by decide) (by decide)
  have r2 : XSt tx st M2 (d2S tx st (hR h) a) := r2
  obtain ⟨v2, M3, e3, r3, a3, b3, i3, j3⟩ := x_digit (d := D) (by omega) r2 (lo := 0) (hi := (hR h : Int) - 1) (by decide) (by decide) (by omega) (by omega)
  rw [← eR] at e3
  have y2 := YH_x y (AGx_tr a1 a2)
  have y3 := YH_x y2 a3
  have A3 := AGx_tr (AGx_tr a1 a2) a3
  rw [T_HouseReader_doorLine, y.1, e1, pbI_rI, e2, pbN_rV, y2.1, e3, pbI_rI]
  generalize hs : sgD tx st 0 ((hR h : Int) - 1) (d2S tx st (hR h) a) = s3 at r3 i3 j3
  have e6 : d3S tx st (hR h) a = sgN tx st 61 (sgE (d1V tx st (hR h) a) (d2V tx st (hR h) a) s3) := by
    unfold d3S; rw [hs]
  have ed3 : d3V tx st (hR h) a = sgV tx st 1 9 (sgN tx st 61 (sgE (d1V tx st (hR h) a) (d2V tx st (hR h) a) s3)) := by
    unfold d3V; rw [e6]
  -- the told values, when all is good
  have good : ∀ c, s3 = .inr c → v1 = d1V tx st (hR h) a ∧ v2 = d2V tx st (hR h) a ∧ 0 ≤ v1 ∧ v1 < (hR h : Int) ∧ 0 ≤ v2 ∧ v2 < (hR h : Int) ∧ 1 ≤ c ∧ M2 3 1 = ((c - 1 : Nat) : Int) := fun c hc => by
    rw [hc] at hs
    obtain ⟨c1, g1, g2, g3, g4, -⟩ := sgD_inr hs
    have g1' : sgN tx st 45 (sgD tx st 0 ((hR h : Int) - 1) (.inr (a + 1))) = .inr c1 := g1
    obtain ⟨c0, f1, -⟩ := sgN_inr g1'
    obtain ⟨-, -, -, k3, k4, -⟩ := sgD_inr f1
    have q1 := i1 c0 f1
    have q2 := i3 c hc
    have r2' := r2
    rw [g1] at r2'
    have := XSt_at r2'
    refine ⟨q1, q2, ?_, ?_, ?_, ?_, by omega, by rw [this]; omega⟩
    · rw [q1]; exact k3
    · rw [q1]; omega
    · rw [q2]; exact g3
    · rw [q2]; omega
  by_cases q : v1 = v2
  · rw [if_neg (fun z => z (by rw [q]))]
    have fl : ∃ M4, xF D 135 [.inr 5, .inl (M2 3 1)] M3 = rV M4 ∧ XSt tx st M4 (sgE (d1V tx st (hR h) a) (d2V tx st (hR h) a) s3) ∧ AGx M3 M4 ∧ ∀ c, sgE (d1V tx st (hR h) a) (d2V tx st (hR h) a) s3 ≠ .inr c := by
      cases s3 with
      | inl p =>
        rw [x_failB (by omega) r3]
        exact ⟨M3, rfl, r3, AGx_rfl, fun c hc => (by cases hc)⟩
      | inr c =>
        obtain ⟨g1, g2, -, -, -, -, g5, g6⟩ := good c rfl
        have hcs := r3.2.2.2.2.2.2.2.1
        have hst := r3.2.1
        obtain ⟨e, r⟩ := x_failG (d := D) (by omega) r3 (p := c - 1) (by omega)
        have es : sgE (d1V tx st (hR h) a) (d2V tx st (hR h) a) (.inr c) = .inl (c - 1) := if_pos (by rw [← g1, ← g2]; exact q)
        rw [g6, e, es]
        exact ⟨_, rfl, r, AGx_set AGx_rfl (Or.inr rfl), fun c hc => (by cases hc)⟩
    obtain ⟨M4, e4, r4, a4, n4⟩ := fl
    obtain ⟨M', t1, t2, t3, t4⟩ := x_doorT (D := D) (by omega) r4 (YH_x y3 a4) hR6 (v1 := v1) (v2 := v2) (a := (d1V tx st (hR h) a).toNat) (b := (d2V tx st (hR h) a).toNat) (fun c hc => absurd hc (n4 c))
    rw [e4, pbN_rV, t1, e6, ed3]
    exact ⟨M', rfl, t2, AGl_tr (AGl_x (AGx_tr A3 a4)) t3, t4⟩
  · rw [if_pos (by rw [eq32_iff] <;> omega)]
    have es : sgE (d1V tx st (hR h) a) (d2V tx st (hR h) a) s3 = s3 := by
      cases s3 with
      | inl p => rfl
      | inr c =>
        obtain ⟨g1, g2, -⟩ := good c rfl
        exact if_neg (by rw [← g1, ← g2]; exact q)
    rw [es] at e6 ed3
    obtain ⟨M', t1, t2, t3, t4⟩ := x_doorT (D := D) (by omega) r3 y3 hR6 (v1 := v1) (v2 := v2) (a := (d1V tx st (hR h) a).toNat) (b := (d2V tx st (hR h) a).toNat) (fun c hc => by
      obtain ⟨g1, g2, g3, g4, g5, g6, -⟩ := good c hc
      refine ⟨?_, ?_, ?_, ?_, ?_⟩ <;> omega)
    rw [t1, e6, ed3]
    exact ⟨M', rfl, t2, AGl_tr (AGl_x A3) t3, t4⟩
theorem x_thingLine (hd : 5 ≤ d) {s : rgs} (x : XSt tx st M s) (y : YH M h) (hR6 : hR h ≤ 6) (hT10 : hT h < 10) : ∃ M', xF d 110 [.inr 6, .inr 19] M = rV M' ∧ XSt tx st M' (sgT tx st (hR h) s) ∧ AGl M M' ∧ ∀ c, sgT tx st (hR h) s = .inr c → YH M' (addT h (sgIv tx st s) (tvW tx st s) (tvG tx st s) (tvR tx st (hR h) s)) := by
  obtain ⟨D, rfl, hD⟩ := dsucc hd
  have eR : (hR h : Int) = ((hR h : Int) - 1) + 1 := by omega
  obtain ⟨v1, M1, e1, r1, a1, b1, i1⟩ := x_inches (d := D) (by omega) x
  obtain ⟨M2, e2, r2, a2⟩ := x_take (d := D) (by omega) r1 (c := 44) (by decide) (by decide)
  obtain ⟨v3, M3, e3, r3, a3, b3, i3, j3⟩ := x_digit (d := D) (by omega) r2 (lo := 1) (hi := 9) (by decide) (by decide) (by decide) (by decide)
  obtain ⟨M4, e4, r4, a4⟩ := x_take (d := D) (by omega) r3 (c := 44) (by decide) (by decide)
  obtain ⟨v5, M5, e5, r5, a5, b5, i5, j5⟩ := x_digit (d := D) (by omega) r4 (lo := 1) (hi := 9) (by decide) (by decide) (by decide) (by decide)
  obtain ⟨M6, e6, r6, a6⟩ := x_take (d := D) (by omega) r5 (c := 64) (by decide) (by decide)
  obtain ⟨v7, M7, e7, r7, a7, b7, i7, j7⟩ := x_digit (d := D) (by omega) r6 (lo := 0) (hi := (hR h : Int) - 1) (by decide) (by decide) (by omega) (by omega)
  have e3' : xF D 139 [.inr 5, .inl 1, .inl 10] M2 = rI v3 M3 := e3
  have e5' : xF D 139 [.inr 5, .inl 1, .inl 10] M4 = rI v5 M5 := e5
  rw [← eR] at e7
  have A6 : AGx M M6 := AGx_tr (AGx_tr (AGx_tr (AGx_tr (AGx_tr a1 a2) a3) a4) a5) a6
  have A7 := AGx_tr A6 a7
  have r7 : XSt tx st M7 (sgT tx st (hR h) s) := r7
  rw [T_HouseReader_thingLine, e1, pbI_rI, e2, pbN_rV, e3', pbI_rI, e4, pbN_rV, e5', pbI_rI, e6, pbN_rV, (YH_x y A6).1, e7, pbI_rI]
  cases hs : sgT tx st (hR h) s with
  | inl p =>
    rw [hs] at r7
    have h8 := r7.2.2.2.2.2.2.1
    have h9 := r7.2.2.2.2.2.2.2
    rw [h8, if_pos (by rw [eq32_iff] <;> omega)]
    exact ⟨M7, rfl, r7, AGl_x A7, fun c hc => (by cases hc)⟩
  | inr c =>
    have q7 := i7 c hs
    obtain ⟨c6, k6, -⟩ := sgD_inr (show sgD tx st 0 ((hR h : Int) - 1) _ = .inr c from hs)
    obtain ⟨c5, k5, -⟩ := sgN_inr k6
    have q5 := i5 c5 k5
    obtain ⟨c4, k4, -⟩ := sgD_inr k5
    obtain ⟨c3, k3, -⟩ := sgN_inr k4
    have q3 := i3 c3 k3
    obtain ⟨c2, k2, -⟩ := sgD_inr k3
    obtain ⟨c1, k1, -⟩ := sgN_inr k2
    have q1 := i1 c1 k1
    rw [hs] at r7
    have h10 := r7.2.2.2.2.2.2.2.2
    obtain ⟨M8, e8, r8, y8, a8⟩ := x_addThing (d := D) (by omega) r7 (YH_x y A7) hT10 v1 v3 v5 v7
    rw [h10, if_neg (fun z => z rfl), e8, pbN_rV]
    refine ⟨M8, rfl, r8, AGl_tr (AGl_x A7) a8, fun _ _ => ?_⟩
    rw [q1, q3, q5, q7] at y8
    exact y8
end XD
end
section
/-! the class reads a line -/
section XHL
variable {tx : Nat → Int} {st d D : Nat} {M M' h : pM}
theorem x_addSet0 (hd : 1 ≤ d) {s : rgs} (x : XSt tx st M s) (y : YH M h) (hr : hS h < 8) (v : Int) : ∃ M', xF d 72 [.inr 19, .inl v] M = rV M' ∧ XSt tx st M' s ∧ AGl M M' := by
  obtain ⟨D, rfl, -⟩ := dsucc hd
  rw [T_House_addSet, y.2.2.1, if_neg (by rw [lt32_iff] <;> omega), if_neg (by rw [le32_iff] <;> omega), if_pos (by omega)]
  exact ⟨_, rfl, XSt_ne (XSt_ne x (by decide) (by decide)) (by decide) (by decide), AGl_set (AGl_set (fun _ _ _ _ => rfl) (by decide) (by decide)) (by decide) (by decide)⟩
theorem sgT_bad {a R : Nat} (h : ¬ (48 ≤ hc tx st a ∧ hc tx st a ≤ 57)) : sgT tx st R (.inr a) = .inl a := by
  have e : sgI tx st (.inr a) = .inl a := if_neg h
  unfold sgT
  rw [e]
  rfl
theorem x_tail (hD : 5 ≤ D) {a : Nat} (x : XSt tx st M (.inr a)) (y : YH M h) (hR6 : hR h ≤ 6) (hT10 : hT h ≤ 10) : ∃ M', (pbI (xF D 138 [.inr 5] M) fun v4 M3 =>
 if eq32 v4 0 then
 (pbN (xF D 135 [.inr 5, .inl (M3 3 1)] M3) fun M5 =>
 some (none, M5))
 else
 (if le32 10 (M3 17 10) then
 (pbN (xF D 135 [.inr 5, .inl (M3 3 1)] M3) fun M6 =>
 some (none, M6))
 else
 (pbN (xF D 110 [.inr 6, .inr 19] M3) fun M7 =>
 some (none, M7)))) = rV M' ∧ AGl M M' ∧ ((¬ ((48 ≤ hc tx st a ∧ hc tx st a ≤ 57) ∧ hT h < 10) ∧ XSt tx st M' (.inl a)) ∨ ((48 ≤ hc tx st a ∧ hc tx st a ≤ 57) ∧ hT h < 10 ∧ XSt tx st M' (sgT tx st (hR h) (.inr a)) ∧ ∀ c, sgT tx st (hR h) (.inr a) = .inr c → YH M' (addT h (sgIv tx st (.inr a)) (tvW tx st (.inr a)) (tvG tx st (.inr a)) (tvR tx st (hR h) (.inr a))))) := by
  have hst := x.2.1
  have ha := x.2.2.2.2.2.2.2.1
  obtain ⟨e, r⟩ := x_failG (d := D) (by omega) x (p := a) (by omega)
  rw [x_seesG (by omega) x, pbI_rI, XSt_at x, y.2.1]
  by_cases q : 48 ≤ hc tx st a ∧ hc tx st a ≤ 57
  · rw [if_pos q, if_neg (by decide)]
    by_cases q2 : hT h < 10
    · obtain ⟨M1, e1, r1, a1, y1⟩ := x_thingLine (d := D) (by omega) x y hR6 q2
      rw [if_neg (by rw [le32_iff] <;> omega), e1, pbN_rV]
      exact ⟨M1, rfl, a1, Or.inr ⟨q, q2, r1, y1⟩⟩
    · rw [if_pos (by rw [le32_iff] <;> omega), e, pbN_rV]
      exact ⟨_, rfl, AGl_x (AGx_set AGx_rfl (Or.inr rfl)), Or.inl ⟨fun z => q2 z.2, r⟩⟩
  · rw [if_neg q, if_pos rfl, e, pbN_rV]
    exact ⟨_, rfl, AGl_x (AGx_set AGx_rfl (Or.inr rfl)), Or.inl ⟨fun z => q z.1, r⟩⟩
theorem x_line (hd : 6 ≤ d) {a : Nat} (x : XSt tx st M (.inr a)) (y : YH M h) (hR6 : hR h ≤ 6) (hT10 : hT h ≤ 10) (hS8 : hS h ≤ 8) : ∃ M' s', xF d 108 [.inr 6, .inr 19] M = rV M' ∧ XSt tx st M' s' ∧ AGl M M' ∧ rlS tx st (lnS tx st h a).1 s' ∧ ∀ b, s' = .inr b → YH M' (lnS tx st h a).2 := by
  obtain ⟨D, rfl, hD⟩ := dsucc hd
  have hr := hx_range x a
  have y1 := y.1
  have y3 := y.2.2.1
  obtain ⟨MT, eT, aT, altT⟩ := x_tail (D := D) (by omega) x y hR6 hT10
  rw [T_HouseReader_line, x_peekG (by omega) x, pbI_rI, y1, y3, XSt_at x, eT]
  unfold lnS
  by_cases c1 : hc tx st a = 114
  · have k1 := (hx_is x (by decide) (by decide)).mpr c1
    rw [k1, if_neg (fun z => z rfl), if_pos c1]
    by_cases q : hR h = 6
    · rw [if_pos (by rw [le32_iff] <;> omega), if_pos (by decide), if_pos (by decide), if_pos q]
      rcases altT with ⟨-, r⟩ | ⟨z, -⟩
      · exact ⟨MT, .inl a, rfl, r, aT, Or.inl rfl, fun b hb => (by cases hb)⟩
      · omega
    · have hl : a < st := hc_lt (tx := tx) (st := st) (by omega)
      have x2 := XSt_next x hl
      have a2 : AGx M (pset M 3 1 ((a : Int) + 1)) := AGx_set AGx_rfl (Or.inl rfl)
      obtain ⟨v, M1, e1, r1, a1, b1, i1⟩ := x_inches (d := D) (by omega) x2
      obtain ⟨M2, e2, r2, y2, a3⟩ := x_addRoom (d := D) (by omega) r1 (YH_x y (AGx_tr a2 a1)) (by omega) v
      rw [if_neg (by rw [le32_iff] <;> omega), if_neg q, e1, pbI_rI, e2, pbN_rV]
      exact ⟨M2, _, rfl, r2, AGl_tr (AGl_x (AGx_tr a2 a1)) a3, Or.inl rfl, fun b hb => by rw [← i1 b hb]; exact y2⟩
  · have n1 : hx tx st a ≠ 114 := fun z => c1 ((hx_is x (by decide) (by decide)).mp z)
    rw [if_pos (by rw [eq32_iff] <;> omega), if_neg c1]
    by_cases c2 : hc tx st a = 100
    · have k2 := (hx_is x (by decide) (by decide)).mpr c2
      have hl : a < st := hc_lt (tx := tx) (st := st) (by omega)
      have x2 := XSt_next x hl
      have a2 : AGx M (pset M 3 1 ((a : Int) + 1)) := AGx_set AGx_rfl (Or.inl rfl)
      obtain ⟨M1, e1, r1, a1, i1⟩ := x_doorLine (d := D) (by omega) x2 (YH_x y a2) hR6
      rw [k2, if_neg (fun z => z rfl), if_pos c2, e1, pbN_rV]
      exact ⟨M1, _, rfl, r1, AGl_tr (AGl_x a2) a1, Or.inl rfl, i1⟩
    · have n2 : hx tx st a ≠ 100 := fun z => c2 ((hx_is x (by decide) (by decide)).mp z)
      rw [if_pos (by rw [eq32_iff] <;> omega), if_neg c2]
      by_cases c3 : hc tx st a = 115
      · have k3 := (hx_is x (by decide) (by decide)).mpr c3
        rw [k3, if_neg (fun z => z rfl), if_pos c3]
        by_cases q : hS h = 8
        · rw [if_pos (by rw [le32_iff] <;> omega), if_pos q]
          rcases altT with ⟨-, r⟩ | ⟨z, -⟩
          · exact ⟨MT, .inl a, rfl, r, aT, Or.inl rfl, fun b hb => (by cases hb)⟩
          · omega
        · have hl : a < st := hc_lt (tx := tx) (st := st) (by omega)
          have x2 := XSt_next x hl
          have a2 : AGx M (pset M 3 1 ((a : Int) + 1)) := AGx_set AGx_rfl (Or.inl rfl)
          have y2 := YH_x y a2
          obtain ⟨v, M1, s', e1, r1, a1, l1, i1⟩ := x_letters (d := D) (by omega) hT10 x2
          rw [if_neg (by rw [le32_iff] <;> omega), if_neg q, y2.2.1, e1, pbI_rI]
          cases s' with
          | inl p =>
            obtain ⟨M2, e2, r2, a3⟩ := x_addSet0 (d := D) (by omega) r1 (YH_x y2 a1) (by omega) v
            rw [e2, pbN_rV]
            exact ⟨M2, _, rfl, r2, AGl_tr (AGl_x (AGx_tr a2 a1)) a3, l1, fun b hb => (by cases hb)⟩
          | inr c =>
            have hv := i1 c rfl
            obtain ⟨M2, e2, r2, y3', a3⟩ := x_addSet (d := D) (by omega) r1 (YH_x y2 a1) (by omega) (sgL tx st (hT h) 11 (a + 1) 0 (-1)).2
            rw [hv, e2, pbN_rV]
            exact ⟨M2, _, rfl, r2, AGl_tr (AGl_x (AGx_tr a2 a1)) a3, l1, fun b hb => y3'⟩
      · have n3 : hx tx st a ≠ 115 := fun z => c3 ((hx_is x (by decide) (by decide)).mp z)
        rw [if_pos (by rw [eq32_iff] <;> omega), if_neg c3]
        rcases altT with ⟨z, r⟩ | ⟨z1, z2, r, i⟩
        · refine ⟨MT, .inl a, rfl, r, aT, Or.inl ?_, fun b hb => (by cases hb)⟩
          by_cases q : hT h = 10
          · rw [if_pos q]
          · rw [if_neg q]; exact (sgT_bad (fun w => z ⟨w, by omega⟩)).symm
        · rw [if_neg (by omega)]
          exact ⟨MT, _, rfl, r, aT, Or.inl rfl, i⟩
end XHL
end
section
/-! the class reads all lines -/
/-- not too many of anything -/
def BD (h : pM) : Prop := hR h ≤ 6 ∧ hT h ≤ 10 ∧ hS h ≤ 8
theorem BD_ln {tx : Nat → Int} {st : Nat} {h : pM} {a b : Nat} (W : BD h) (hl : (lnS tx st h a).1 = .inr b) : BD (lnS tx st h a).2 := by
  obtain ⟨w1, w2, w3⟩ := W
  unfold lnS at hl ⊢
  by_cases c1 : hc tx st a = 114
  · rw [if_pos c1] at hl ⊢
    by_cases c2 : hR h = 6
    · rw [if_pos c2] at hl; cases hl
    · rw [if_neg c2]
      exact ⟨by dsimp only; rw [hR_addR]; omega, by dsimp only; rw [hT_addR]; exact w2, by dsimp only; rw [hS_addR]; exact w3⟩
  · rw [if_neg c1] at hl ⊢
    by_cases c2 : hc tx st a = 100
    · rw [if_pos c2]
      dsimp only
      unfold BD hR hT hS
      rw [hx_addD, hx_addD, hx_addD]
      exact ⟨w1, w2, w3⟩
    · rw [if_neg c2] at hl ⊢
      by_cases c3 : hc tx st a = 115
      · rw [if_pos c3] at hl ⊢
        by_cases c4 : hS h = 8
        · rw [if_pos c4] at hl; cases hl
        · rw [if_neg c4]
          exact ⟨by dsimp only; rw [hR_addS]; exact w1, by dsimp only; rw [hT_addS]; exact w2, by dsimp only; rw [hS_addS]; omega⟩
      · rw [if_neg c3] at hl ⊢
        by_cases c4 : hT h = 10
        · rw [if_pos c4] at hl; cases hl
        · rw [if_neg c4]
          exact ⟨by dsimp only; rw [hR_addT]; exact w1, by dsimp only; rw [hT_addT]; omega, by dsimp only; rw [hS_addT]; exact w3⟩
theorem BD_phS {tx : Nat → Int} {st : Nat} : ∀ (f a : Nat) (h : pM) (n b : Nat), BD h → (phS tx st f a h n).1 = .inr b → BD (phS tx st f a h n).2.1
  | 0, a, h, n, b, _, e => by cases e
  | f + 1, a, h, n, b, W, e => by
    have hu : phS tx st (f + 1) a h n = match (lnS tx st h a).1 with
      | .inl p => (.inl p, (lnS tx st h a).2, n + 1)
      | .inr b => if hc tx st b = 59 then phS tx st f (b + 1) (lnS tx st h a).2 (n + 1) else (.inr b, (lnS tx st h a).2, n + 1) := rfl
    rw [hu] at e ⊢
    cases q : (lnS tx st h a).1 with
    | inl p => rw [q] at e; cases e
    | inr c =>
      rw [q] at e
      have W1 := BD_ln W q
      dsimp only at e ⊢
      by_cases z : hc tx st c = 59
      · rw [if_pos z] at e ⊢; exact BD_phS f (c + 1) _ (n + 1) b W1 e
      · rw [if_neg z]; exact W1
section XRD
variable {tx : Nat → Int} {st d D L : Nat} {M M' : pM}
theorem x_faultB (hd : 1 ≤ d) {p : Nat} (x : XSt tx st M (.inl p)) : xF d 136 [.inr 5] M = rI (p : Int) M := by
  obtain ⟨D, rfl, -⟩ := dsucc hd
  have h8 := x.2.2.2.2.2.2.1
  have h9 := x.2.2.2.2.2.2.2
  rw [T_Reader_fault, h8, if_pos (by rw [eq32_iff] <;> omega)]
theorem x_faultG (hd : 1 ≤ d) {a : Nat} (x : XSt tx st M (.inr a)) (hL : M 1 1 = (L : Int)) (hL8 : L ≤ 80) : xF d 136 [.inr 5] M = rI (if L ≤ st then -1 else (st : Int)) M := by
  obtain ⟨D, rfl, -⟩ := dsucc hd
  have h10 := x.2.2.2.2.2.2.2.2
  have h3 := x.2.1
  rw [T_Reader_fault, h10, hL, x.1, if_neg (fun z => z rfl)]
  by_cases q : L ≤ st
  · rw [if_pos (by rw [le32_iff] <;> omega), if_pos q]
  · rw [if_neg (by rw [le32_iff] <;> omega), if_neg q]
theorem x_endB (hD : 1 ≤ D) {p : Nat} (x : XSt tx st M (.inl p)) (x2 x3 : Int) : xE D 107 11 [.inr 6, .inr 19, .inl x2, .inl x3] [] M = rI (-1 - (p : Int)) M := by
  have h9 := x.2.2.2.2.2.2.2
  rw [L_HouseReader_read_11]
  split
  · rw [x_faultB hD x, pbI_rI, if_pos (by rw [eq32_iff] <;> omega)]
  · rw [x_goesB hD x, pbI_rI, if_pos rfl, x_faultB hD x, pbI_rI, if_pos (by rw [eq32_iff] <;> omega)]
theorem x_lineB (hd : 4 ≤ d) {p : Nat} (x : XSt tx st M (.inl p)) : xF d 108 [.inr 6, .inr 19] M = rV M := by
  obtain ⟨D, rfl, hD⟩ := dsucc hd
  rw [T_HouseReader_line, x_peekB (by omega) x, pbI_rI, if_pos (by decide), if_pos (by decide), if_pos (by decide), x_seesB (by omega) x, pbI_rI, if_pos rfl, x_failB (by omega) x, pbN_rV]
def rdA (L : Nat) (P : rgs × pM × Nat) (z : Int) (M' : pM) : Prop := match phE L P.1 with
  | .inl p => z = -1 - (p : Int) ∧ p ≤ 80
  | .inr _ => z = (P.2.2 : Int) ∧ YH M' P.2.1
theorem x_rd (hD : 7 ≤ D) (hL8 : L ≤ 80) (hst : st = min L 76) : ∀ (f a : Nat) (h : pM) (n k : Nat) (M : pM), XSt tx st M (.inr a) → YH M h → BD h → M 1 1 = (L : Int) → st < a + f → k ≤ a → ∃ z M', (pbN (xF D 108 [.inr 6, .inr 19] M) fun M2 => xE D 107 11 [.inr 6, .inr 19, .inl ((n + 1 : Nat) : Int), .inl (k : Int)] [] M2) = rI z M' ∧ AGl M M' ∧ rdA L (phS tx st f a h n) z M' := by
  intro f
  induction f with
  | zero =>
    intro a h n k M x y W h1 hf hk
    have := x.2.2.2.2.2.2.2.1
    omega
  | succ f ih =>
    intro a h n k M x y W h1 hf hk
    have ha := x.2.2.2.2.2.2.2.1
    have hst2 := x.2.1
    obtain ⟨M1, s', e1, r1, a1, rl, y1⟩ := x_line (d := D) (by omega) x y W.1 W.2.1 W.2.2
    have k1 : M1 1 1 = (L : Int) := by rw [a1 1 1 (by omega) (by omega)]; exact h1
    have hu : phS tx st (f + 1) a h n = match (lnS tx st h a).1 with
      | .inl p => (.inl p, (lnS tx st h a).2, n + 1)
      | .inr b => if hc tx st b = 59 then phS tx st f (b + 1) (lnS tx st h a).2 (n + 1) else (.inr b, (lnS tx st h a).2, n + 1) := rfl
    rw [e1, pbN_rV]
    cases s' with
    | inl p =>
      rw [x_endB (by omega) r1]
      refine ⟨_, M1, rfl, a1, ?_⟩
      rcases rl with q | ⟨b, q1, q2, q3, q4⟩
      · rw [hu, ← q]; exact ⟨rfl, r1.2.2.2.2.2.2.2⟩
      · cases q2
        rw [hu, q1]
        dsimp only
        rw [if_neg q4]
        unfold rdA phE
        dsimp only
        rw [if_pos (by omega)]
        exact ⟨rfl, by omega⟩
    | inr b =>
      have q : (lnS tx st h a).1 = .inr b := by
        rcases rl with q | ⟨b2, q1, q2, -⟩
        · exact q.symm
        · cases q2
      have hb := r1.2.2.2.2.2.2.2.1
      have hab := lnS_gt W.2.1 q
      have W1 := BD_ln W q
      have y1' := y1 b rfl
      rw [hu, q]
      dsimp only
      rw [L_HouseReader_read_11, if_neg (by rw [le32_iff] <;> omega), x_goesG (by omega) r1, pbI_rI]
      by_cases q1 : b < st
      · obtain ⟨M2, e2, r2, a2⟩ := x_take (d := D) (by omega) r1 (c := 59) (by decide) (by decide)
        rw [if_pos q1, if_neg (by decide), e2, pbN_rV, show (((n + 1 : Nat) : Int) + 1) = ((n + 1 + 1 : Nat) : Int) by omega, show ((k : Int) + 1) = ((k + 1 : Nat) : Int) by omega]
        by_cases q2 : hc tx st b = 59
        · have es : sgN tx st 59 (.inr b) = .inr (b + 1) := if_pos q2
          rw [es] at r2
          obtain ⟨z, M', i1, i2, i3⟩ := ih (b + 1) (lnS tx st h a).2 (n + 1) (k + 1) M2 r2 (YH_x y1' a2) W1 (by rw [a2 1 1 (by omega)]; exact k1) (by omega) (by omega)
          rw [if_pos q2]
          exact ⟨z, M', i1, AGl_tr a1 (AGl_tr (AGl_x a2) i2), i3⟩
        · have es : sgN tx st 59 (.inr b) = .inl b := if_neg q2
          rw [es] at r2
          rw [x_lineB (by omega) r2, pbN_rV, x_endB (by omega) r2, if_neg q2]
          refine ⟨_, M2, rfl, AGl_tr a1 (AGl_x a2), ?_⟩
          unfold rdA phE
          dsimp only
          rw [if_pos (by omega)]
          exact ⟨rfl, by omega⟩
      · have q2 : hc tx st b = -1 := if_neg q1
        have q59 : ¬ hc tx st b = 59 := by omega
        rw [if_neg q1, if_pos rfl, x_faultG (by omega) r1 k1 hL8, pbI_rI, if_neg q59]
        unfold rdA phE
        dsimp only
        by_cases q3 : L ≤ st
        · rw [if_pos q3, if_neg (fun z => z rfl), if_neg (by omega)]
          exact ⟨_, M1, rfl, a1, rfl, y1'⟩
        · rw [if_neg q3, if_pos (by rw [eq32_iff] <;> omega), if_pos (by omega)]
          refine ⟨_, M1, rfl, a1, ?_⟩
          show (-1 : Int) - (st : Int) = -1 - (b : Int) ∧ b ≤ 80
          omega
end XRD
end
section
/-! house of the class: what it answers, which house it leaves -/
theorem pcp_ne {M : pM} {a b n o i : Nat} (h : o ≠ b) : pcp M a b n o i = M o i := if_neg (fun z => h z.1)
theorem pcp_eq {M : pM} {a b n i : Nat} (h : i < n) : pcp M a b n b i = M a i := if_pos ⟨rfl, h⟩
theorem rV_inj {M1 M2 : pM} (h : (rV M1 : Option pR) = rV M2) : M1 = M2 := by cases h; rfl
theorem phS_n (tx : Nat → Int) (st : Nat) : ∀ (f a : Nat) (h : pM) (n : Nat), (phS tx st f a h n).2.2 ≤ n + f
  | 0, a, h, n => Nat.le_refl _
  | f + 1, a, h, n => by
    have hu : phS tx st (f + 1) a h n = match (lnS tx st h a).1 with
      | .inl p => (.inl p, (lnS tx st h a).2, n + 1)
      | .inr b => if hc tx st b = 59 then phS tx st f (b + 1) (lnS tx st h a).2 (n + 1) else (.inr b, (lnS tx st h a).2, n + 1) := rfl
    rw [hu]
    cases (lnS tx st h a).1 with
    | inl p => show n + 1 ≤ _; omega
    | inr b =>
      dsimp only
      split
      · have := phS_n tx st f (b + 1) (lnS tx st h a).2 (n + 1); omega
      · show n + 1 ≤ _; omega
section XHS
variable {tx : Nat → Int} {d D L : Nat} {M M' h : pM}
theorem x_become17 (hd : 2 ≤ d) (X : XH M h) (W : BD h) : ∃ M', xF d 62 [.inr 19, .inr 9] M = rV M' ∧ YH M' h ∧ ∀ o i, ¬ (17 ≤ o ∧ o ≤ 26) → M' o i = M o i := by
  obtain ⟨D, rfl, hD⟩ := dsucc hd
  obtain ⟨x1, x2, x3, x4, x5, x6, x7⟩ := X
  have w1 := W.1
  have w2 := W.2.1
  have w3 := W.2.2
  rw [T_House_become_17_7, c_copy_8_18 (by omega), pbN_rV, c_copy_9_19 (by omega), pbN_rV, c_copy_10_20 (by omega), pbN_rV, c_copy_11_21 (by omega), pbN_rV, c_copy_12_22 (by omega), pbN_rV, c_copy_13_23 (by omega), pbN_rV, c_copy_14_24 (by omega), pbN_rV, c_copy_15_25 (by omega), pbN_rV, c_copy_16_26 (by omega), pbN_rV]
  refine ⟨_, rfl, ⟨?_, ?_, ?_, fun r hr => ?_, fun p hp => ?_, fun t ht => ⟨?_, ?_, ?_, ?_⟩, fun s hs => ?_⟩, fun o i ho => ?_⟩
  · simp (disch := decide) only [pset_ne2, pset_ne, pset_eq, pcp_ne]; exact x1
  · simp (disch := decide) only [pset_ne2, pset_ne, pset_eq, pcp_ne]; exact x2
  · simp (disch := decide) only [pset_ne2, pset_ne, pset_eq, pcp_ne]; exact x3
  · have hr6 : r < 6 := by omega
    simp (disch := first | decide | assumption) only [pset_ne, pcp_ne, pcp_eq]; exact x4 r hr
  · simp (disch := first | decide | assumption) only [pset_ne, pcp_ne, pcp_eq]; exact x5 p hp
  · have h10 : t < 10 := by omega
    simp (disch := first | decide | assumption) only [pset_ne, pcp_ne, pcp_eq]; exact (x6 t ht).1
  · have h10 : t < 10 := by omega
    simp (disch := first | decide | assumption) only [pset_ne, pcp_ne, pcp_eq]; exact (x6 t ht).2.1
  · have h10 : t < 10 := by omega
    simp (disch := first | decide | assumption) only [pset_ne, pcp_ne, pcp_eq]; exact (x6 t ht).2.2.1
  · have h10 : t < 10 := by omega
    simp (disch := first | decide | assumption) only [pset_ne, pcp_ne, pcp_eq]; exact (x6 t ht).2.2.2
  · have h8 : s < 8 := by omega
    simp (disch := first | decide | assumption) only [pset_ne, pcp_ne, pcp_eq]; exact x7 s hs
  · rw [pset_ne (by omega), pset_ne (by omega), pset_ne (by omega), pset_ne (by omega), pcp_ne (by omega), pcp_ne (by omega), pcp_ne (by omega), pcp_ne (by omega), pcp_ne (by omega), pcp_ne (by omega), pcp_ne (by omega), pcp_ne (by omega), pcp_ne (by omega)]
theorem x_become7 (hd : 2 ≤ d) (Y : YH M h) (w1 : hR h ≤ 6) (w2 : hT h ≤ 10) (w3 : hS h ≤ 8) : ∃ M', xF d 62 [.inr 9, .inr 19] M = rV M' ∧ XH M' h := by
  obtain ⟨D, rfl, hD⟩ := dsucc hd
  obtain ⟨x1, x2, x3, x4, x5, x6, x7⟩ := Y
  rw [T_House_become_7_17, c_copy_18_8 (by omega), pbN_rV, c_copy_19_9 (by omega), pbN_rV, c_copy_20_10 (by omega), pbN_rV, c_copy_21_11 (by omega), pbN_rV, c_copy_22_12 (by omega), pbN_rV, c_copy_23_13 (by omega), pbN_rV, c_copy_24_14 (by omega), pbN_rV, c_copy_25_15 (by omega), pbN_rV, c_copy_26_16 (by omega), pbN_rV]
  refine ⟨_, rfl, ⟨?_, ?_, ?_, fun r hr => ?_, fun p hp => ?_, fun t ht => ⟨?_, ?_, ?_, ?_⟩, fun s hs => ?_⟩⟩
  · simp (disch := decide) only [pset_ne2, pset_ne, pset_eq, pcp_ne]; exact x1
  · simp (disch := decide) only [pset_ne2, pset_ne, pset_eq, pcp_ne]; exact x2
  · simp (disch := decide) only [pset_ne2, pset_ne, pset_eq, pcp_ne]; exact x3
  · have hr6 : r < 6 := by omega
    simp (disch := first | decide | assumption) only [pset_ne, pcp_ne, pcp_eq]; exact x4 r hr
  · simp (disch := first | decide | assumption) only [pset_ne, pcp_ne, pcp_eq]; exact x5 p hp
  · have h10 : t < 10 := by omega
    simp (disch := first | decide | assumption) only [pset_ne, pcp_ne, pcp_eq]; exact (x6 t ht).1
  · have h10 : t < 10 := by omega
    simp (disch := first | decide | assumption) only [pset_ne, pcp_ne, pcp_eq]; exact (x6 t ht).2.1
  · have h10 : t < 10 := by omega
    simp (disch := first | decide | assumption) only [pset_ne, pcp_ne, pcp_eq]; exact (x6 t ht).2.2.1
  · have h10 : t < 10 := by omega
    simp (disch := first | decide | assumption) only [pset_ne, pcp_ne, pcp_eq]; exact (x6 t ht).2.2.2
  · have h8 : s < 8 := by omega
    simp (disch := first | decide | assumption) only [pset_ne, pcp_ne, pcp_eq]; exact x7 s hs
theorem XH_eq (X : XH M h) (e : ∀ o i, 7 ≤ o → o ≤ 14 → ¬ (o = 7 ∧ i = 12) → M' o i = M o i) : XH M' h := by
  obtain ⟨x1, x2, x3, x4, x5, x6, x7⟩ := X
  exact ⟨by rw [e 7 9 (by decide) (by decide) (by decide)]; exact x1, by rw [e 7 10 (by decide) (by decide) (by decide)]; exact x2, by rw [e 7 11 (by decide) (by decide) (by decide)]; exact x3, fun r hr => by rw [e 8 r (by decide) (by decide) (by omega)]; exact x4 r hr, fun p hp => by rw [e 9 p (by decide) (by decide) (by omega)]; exact x5 p hp, fun t ht => by rw [e 10 t (by decide) (by decide) (by omega), e 11 t (by decide) (by decide) (by omega), e 12 t (by decide) (by decide) (by omega), e 13 t (by decide) (by decide) (by omega)]; exact x6 t ht, fun s hs => by rw [e 14 s (by decide) (by decide) (by omega)]; exact x7 s hs⟩
end XHS
end
section
/-! the class's house is the told one -/
section XHT
variable {tx : Nat → Int} {d D L : Nat} {M M' h : pM}
theorem x_readH (hD : 8 ≤ D) {M1 : pM} (y : YH M1 h) (W : BD h) (h1 : M1 1 1 = (L : Int)) (hL : L ≤ 80) (ht : ∀ i, i < 80 → M1 2 i = ux (tx i)) (hx : ∀ i, i < 80 → -128 ≤ tx i ∧ tx i ≤ 127) : ∃ z M', xF D 107 [.inr 6, .inr 19] M1 = rI z M' ∧ AGl (pset (pset (pset M1 3 1 0) 3 3 (-1)) 3 2 ((min L 76 : Nat) : Int)) M' ∧ rdA L (phS tx (min L 76) 78 0 h 0) z M' := by
  obtain ⟨D, rfl, hD'⟩ := dsucc (show 1 ≤ D by omega)
  obtain ⟨D', rfl, -⟩ := dsucc (show 1 ≤ D by omega)
  have ej : jmin (L : Int) 76 = ((min L 76 : Nat) : Int) := by
    rw [jmin_eq (by omega) (by omega) (by decide) (by decide)]; omega
  rw [T_HouseReader_read, T_Reader_start_3, pbN_rV, pset_ne (show 1 ≠ 3 by decide), pset_ne (show 1 ≠ 3 by decide), h1, ej]
  generalize hB : pset (pset (pset M1 3 1 0) 3 3 (-1)) 3 2 ((min L 76 : Nat) : Int) = MB
  have eo : ∀ o i, o ≠ 3 → MB o i = M1 o i := fun o i ho => by rw [← hB, pset_ne ho, pset_ne ho, pset_ne ho]
  have xB : XSt tx (min L 76) MB (.inr 0) := by
    refine ⟨?_, by omega, fun i hi => by rw [eo 2 i (by decide)]; exact ht i hi, hx, ?_, ?_, ?_, by omega, ?_⟩
    · rw [← hB, pset_eq]
    · rw [← hB, pset_ne2 (by decide), pset_ne2 (by decide), pset_eq]; decide
    · rw [← hB, pset_ne2 (by decide), pset_ne2 (by decide), pset_eq]; decide
    · rw [← hB, pset_ne2 (by decide), pset_ne2 (by decide), pset_eq]; rfl
    · rw [← hB, pset_ne2 (by decide), pset_eq]
  have yB : YH MB h := by
    obtain ⟨y1, y2, y3, y4, y5, y6, y7⟩ := y
    exact ⟨by rw [eo 17 9 (by decide)]; exact y1, by rw [eo 17 10 (by decide)]; exact y2, by rw [eo 17 11 (by decide)]; exact y3, fun r hr => by rw [eo 18 r (by decide)]; exact y4 r hr, fun p hp => by rw [eo 19 p (by decide)]; exact y5 p hp, fun t ht => by rw [eo 20 t (by decide), eo 21 t (by decide), eo 22 t (by decide), eo 23 t (by decide)]; exact y6 t ht, fun s hs => by rw [eo 24 s (by decide)]; exact y7 s hs⟩
  obtain ⟨z, M', e, a, r⟩ := x_rd (D := D' + 1) (by omega) hL rfl 78 0 h 0 0 MB xB yB W (by rw [eo 1 1 (by decide)]; exact h1) (by omega) (by omega)
  exact ⟨z, M', e, a, r⟩
theorem x_house {d : Nat} (hd : 10 ≤ d) (hM : gM gAll M) (X : XH M h) (W : BD h) (h1 : M 1 1 = (L : Int)) (ht : ∀ i, i < 80 → M 2 i = ux (tx i)) (hx : ∀ i, i < 80 → -128 ≤ tx i ∧ tx i ≤ 127) {z : Int} (e : xF d 2 [.inr 2] M = rI z M') : z = hsA tx L h ∧ XH M' (hsH tx L h) ∧ (hsN tx L h → M' 39 3 = 0) ∧ (¬ hsN tx L h → M' 39 3 = M 39 3) := by
  obtain ⟨D, rfl, hD⟩ := dsucc hd
  have b1 := gm_i hM 1 1 (lo := 0) (hi := 80) (by decide +kernel) (by decide +kernel)
  rw [T_X_house, h1] at e
  by_cases q : L = 0
  · have eA : hsA tx L h = 0 := if_pos q
    have eH : hsH tx L h = h := if_pos q
    rw [if_neg (fun y => y (by rw [q]; rfl))] at e
    rw [eA, eH, ← (rI_inj e).2]
    exact ⟨(rI_inj e).1.symm, X, fun y => absurd q y.1, fun _ => rfl⟩
  · obtain ⟨M1, e1, g1, -⟩ := v_copy2 (d := D) (by omega) hM
    obtain ⟨M1', e1', y1, c1⟩ := x_become17 (d := D) (by omega) X W
    obtain rfl := rV_inj (e1.symm.trans e1')
    obtain ⟨v, M2, e2, g2, -⟩ := v_read (d := D) (by omega) g1
    obtain ⟨v', M2', e2', a2, r2⟩ := x_readH (tx := tx) (D := D) (by omega) y1 W (by rw [c1 1 1 (by omega)]; exact h1) (by omega) (fun i hi => by rw [c1 2 i (by omega)]; exact ht i hi) hx
    obtain ⟨rfl, rfl⟩ := rI_inj (e2.symm.trans e2')
    obtain ⟨e3, g3⟩ := x_cut0 (d := D) (by omega) g2
    rw [if_pos (by rw [eq32_iff] <;> omega), e1, pbN_rV, e2, pbI_rI, e3, pbI_rI] at e
    have uA : hsA tx L h = match phE L (phS tx (min L 76) 78 0 h 0).1 with
      | .inl p => -1 - (p : Int)
      | .inr _ => ((phS tx (min L 76) 78 0 h 0).2.2 : Int) := if_neg q
    have uH : hsH tx L h = match phE L (phS tx (min L 76) 78 0 h 0).1 with
      | .inl _ => h
      | .inr _ => (phS tx (min L 76) 78 0 h 0).2.1 := if_neg q
    have hn := phS_n tx (min L 76) 78 0 h 0
    unfold rdA at r2
    cases hp : phE L (phS tx (min L 76) 78 0 h 0).1 with
    | inl p =>
      rw [hp] at r2 uA uH
      obtain ⟨r2, p80⟩ : v = -1 - (p : Int) ∧ p ≤ 80 := r2
      have hp80 : lt32 v 0 := by rw [lt32_iff] <;> omega
      rw [if_pos hp80] at e
      rw [uA, uH, ← (rI_inj e).2]
      refine ⟨by rw [← (rI_inj e).1]; exact r2, XH_eq X (fun o i o1 o2 _ => ?_), fun y => ?_, fun _ => ?_⟩
      · rw [pset_ne (by omega), a2 o i (by omega) (by omega), pset_ne (by omega), pset_ne (by omega), pset_ne (by omega), c1 o i (by omega)]
      · obtain ⟨-, b, hb⟩ := y
        rw [hp] at hb; cases hb
      · rw [pset_ne (by decide), a2 39 3 (by decide) (by decide), pset_ne (by decide), pset_ne (by decide), pset_ne (by decide), c1 39 3 (by decide)]
    | inr b =>
      rw [hp] at r2 uA uH
      obtain ⟨r3, r4⟩ := r2
      have hp2 : ∃ c, (phS tx (min L 76) 78 0 h 0).1 = .inr c := by
        cases k : (phS tx (min L 76) 78 0 h 0).1 with
        | inl p => rw [k] at hp; cases hp
        | inr c => exact ⟨c, rfl⟩
      obtain ⟨c, hp3⟩ := hp2
      have W3 := BD_phS 78 0 h 0 c W hp3
      obtain ⟨M4, e4, g4, f4⟩ := v_become (d := D) (by omega) g3
      have y3 : YH (pset M2 1 1 0) (phS tx (min L 76) 78 0 h 0).2.1 := by
        obtain ⟨y1, y2, y3, y4, y5, y6, y7⟩ := r4
        exact ⟨by rw [pset_ne (by decide)]; exact y1, by rw [pset_ne (by decide)]; exact y2, by rw [pset_ne (by decide)]; exact y3, fun r hr => by rw [pset_ne (by decide)]; exact y4 r hr, fun p hp => by rw [pset_ne (by decide)]; exact y5 p hp, fun t ht => by rw [pset_ne (by decide), pset_ne (by decide), pset_ne (by decide), pset_ne (by decide)]; exact y6 t ht, fun s hs => by rw [pset_ne (by decide)]; exact y7 s hs⟩
      obtain ⟨M4', e4', X4⟩ := x_become7 (d := D) (by omega) y3 W3.1 W3.2.1 W3.2.2
      obtain rfl := rV_inj (e4.symm.trans e4')
      obtain ⟨M5, e5, g5, f5⟩ := v_hang (d := D) (by omega) g4
      obtain ⟨D', rfl, -⟩ := dsucc (show 1 ≤ D by omega)
      rw [if_neg (by rw [lt32_iff] <;> omega), e4, pbN_rV, e5, pbN_rV, T_Past_forget, pbN_rV] at e
      rw [uA, uH, ← (rI_inj e).2]
      refine ⟨by rw [← (rI_inj e).1]; exact r3, XH_eq X4 (fun o i o1 o2 q7 => ?_), fun _ => pset_eq, fun y => absurd ⟨q, b, hp⟩ y⟩
      · rw [pset_ne (by omega), f5 o i ?_]
        cases zz : wOK [(7, 12), (15, 999), (16, 999)] o i with
        | false => rfl
        | true =>
          obtain ⟨w, hw, h2⟩ := List.any_eq_true.mp zz
          rw [Bool.and_eq_true, Bool.or_eq_true] at h2
          simp only [List.mem_cons, List.not_mem_nil, or_false] at hw
          rcases hw with rfl | rfl | rfl
          · have k1 : 7 = o := Nat.eq_of_beq_eq_true h2.1
            rcases h2.2 with h3 | h3
            · exact absurd ⟨k1.symm, (Nat.eq_of_beq_eq_true h3).symm⟩ q7
            · cases h3
          · have k1 : 15 = o := Nat.eq_of_beq_eq_true h2.1
            omega
          · have k1 : 16 = o := Nat.eq_of_beq_eq_true h2.1
            omega
end XHT
end
section
/-! what house answers depends on how many there are alone -/
end
section
/-! a sign is the same on both sides, seen without its sign bit -/
theorem sg_and (v : Int32) : (v &&& 255).toInt = v.toInt % 256 := by
  have h1 : (v &&& 255).toBitVec.toNat = v.toBitVec.toNat % 256 := by
    rw [Int32.toBitVec_and, BitVec.toNat_and]
    show v.toBitVec.toNat &&& 255 = _
    rw [show (255 : Nat) = 2 ^ 8 - 1 from rfl, Nat.and_two_pow_sub_one_eq_mod]
  have h2 : (v &&& 255).toInt = ((v &&& 255).toBitVec.toNat : Int) := by
    show (v &&& 255).toBitVec.toInt = _
    rw [BitVec.toInt_eq_toNat_of_lt (by rw [h1]; omega)]
  have h3 : v.toInt = if 2 * v.toBitVec.toNat < 2 ^ 32 then (v.toBitVec.toNat : Int) else (v.toBitVec.toNat : Int) - (2 ^ 32 : Nat) := BitVec.toInt_eq_toNat_cond v.toBitVec
  rw [h2, h1, h3]
  split <;> omega
theorem sg_8 (v : Int32) : ux v.toInt8.toInt32.toInt = v.toInt % 256 := by
  have h : v.toInt8.toInt32.toInt = v.toInt.bmod 256 := by
    rw [Int8.toInt_toInt32, Int32.toInt_toInt8]
  rw [h]
  unfold ux
  have := Int.bmod_def v.toInt 256
  split <;> omega
theorem sg_n (x : Int32) : x.toInt = if 2 * x.toBitVec.toNat < 2 ^ 32 then (x.toBitVec.toNat : Int) else (x.toBitVec.toNat : Int) - (2 ^ 32 : Nat) := BitVec.toInt_eq_toNat_cond x.toBitVec
theorem sg_shr (x : Int32) (n : Nat) (y : Int32) (hy : y.toBitVec.smod 32 = BitVec.ofNat 32 n) (hn : n < 32) : (x >>> y).toInt = x.toInt / (2 ^ n : Nat) := by
  show (BitVec.sshiftRight' x.toBitVec (y.toBitVec.smod 32)).toInt = _
  rw [hy]
  unfold BitVec.sshiftRight'
  rw [BitVec.toInt_sshiftRight, Int.shiftRight_eq_div_pow, BitVec.toNat_ofNat, Nat.mod_eq_of_lt (by omega)]
  rfl
theorem sg_ush (x : Int32) (n : Nat) (y : UInt32) (hy : y.toNat % 32 = n) : ((x.toUInt32 >>> y).toInt32).toInt % 256 = ((x.toBitVec.toNat / 2 ^ n : Nat) : Int) % 256 := by
  have h1 : ((x.toUInt32 >>> y).toInt32).toBitVec.toNat = x.toBitVec.toNat / 2 ^ n := by
    show (x.toUInt32 >>> y).toNat = _
    rw [UInt32.toNat_shiftRight, hy, Nat.shiftRight_eq_div_pow]
    rfl
  rw [sg_n, h1]
  split <;> omega
theorem sg_jb (z : Int) : ux (jb (jb z)) = (iI z).toInt % 256 := by
  have h1 : ux (jb (jb z)) = (iI (jb z)).toInt % 256 := sg_8 (iI (jb z))
  have h2 : iI (jb z) = (iI z).toInt8.toInt32 := Int32.ofInt_toInt _
  have h3 : (iI z).toInt8.toInt32.toInt = (iI z).toInt.bmod 256 := by
    rw [Int8.toInt_toInt32, Int32.toInt_toInt8]
  rw [h1, h2, h3]
  have := Int.bmod_def (iI z).toInt 256
  split at this <;> omega
theorem sg_one (b : Int) (k n : Nat) (hX : ((iI (24 + -8 * (k : Int))).toUInt32 &&& Int32.toUInt32 31).toNat % 32 = n) (hM : (iI (8 * (3 + -1 * (k : Int))) &&& 31).toBitVec.smod 32 = BitVec.ofNat 32 n) (hn : n = 0 ∨ n = 8 ∨ n = 16 ∨ n = 24) : sgX b k = ux (sgM b k) := by
  have l : sgX b k = ((iI (jushr b (24 + -8 * (k : Int)))) &&& 255).toInt := rfl
  have l2 : iI (jushr b (24 + -8 * (k : Int))) = ((iI b).toUInt32 >>> ((iI (24 + -8 * (k : Int))).toUInt32 &&& Int32.toUInt32 31)).toInt32 := iI_b32 _ _ _
  have r : ux (sgM b k) = (iI (jshr b (8 * (3 + -1 * (k : Int))))).toInt % 256 := sg_jb _
  have r2 : iI (jshr b (8 * (3 + -1 * (k : Int)))) = (iI b) >>> (iI (8 * (3 + -1 * (k : Int))) &&& 31) := iI_b32 _ _ _
  rw [l, l2, sg_and, sg_ush _ n _ hX, r, r2, sg_shr _ n _ hM (by omega), sg_n (iI b)]
  have hN := (iI b).toBitVec.isLt
  rcases hn with rfl | rfl | rfl | rfl <;> split <;> omega
theorem sg_ux (b : Int) (k : Nat) (hk : k < 4) : sgX b k = ux (sgM b k) := by
  match k, hk with
  | 0, _ => exact sg_one b 0 24 (by decide +kernel) (by decide +kernel) (by decide)
  | 1, _ => exact sg_one b 1 16 (by decide +kernel) (by decide +kernel) (by decide)
  | 2, _ => exact sg_one b 2 8 (by decide +kernel) (by decide +kernel) (by decide)
  | 3, _ => exact sg_one b 3 0 (by decide +kernel) (by decide +kernel) (by decide)
end
section
/-! what is asked of an arrangement -/
/-- things in a room -/
def inR (h : pM) (p : Nat → Int) (r : Int) : Nat := bitsOf (fun t => decide (p t = r)) (hT h)
/-- bulk of some things -/
def blk (h : pM) (bits : Nat) : Int := sumTo (fun t => if bits.testBit t then h 3 t else 0) (hT h)
/-- rooms that are too full -/
def ovf (h : pM) (p : Nat → Int) : Nat := bitsOf (fun r => decide (h 1 r < blk h (inR h p r))) (hR h)
def oneR (h : pM) (p : Nat → Int) (bits : Nat) : Bool := allTo (fun r => decide (inR h p (r : Int) &&& bits = 0) || decide (inR h p (r : Int) &&& bits = bits)) (hR h)
/-- sets that are parted -/
def ptd (h : pM) (p : Nat → Int) : Nat := bitsOf (fun s => !oneR h p (me h s)) (hS h)
def lwf (h : pM) (p : Nat → Int) : Prop := ptd h p = 0 ∧ ovf h p = 0
theorem inR_lt (h : pM) (p : Nat → Int) (r : Int) : inR h p r < 2 ^ hT h := bitsOf_lt _ _
theorem p_T {h : pM} (W : WF h) : 2 ^ hT h ≤ 1024 := pow_le_of W.2.1
theorem p_R {h : pM} (W : WF h) : 2 ^ hR h ≤ 64 := pow_le_of W.1
theorem p_S {h : pM} (W : WF h) : 2 ^ hS h ≤ 256 := pow_le_of W.2.2.1
theorem blk_range {h : pM} (W : WF h) (bits : Nat) : 0 ≤ blk h bits ∧ blk h bits ≤ 990 := by
  have w2 := W.2.1
  have h1 := sumTo_range (f := fun t => if bits.testBit t then h 3 t else 0) (lo := 0) (hi := 99) (n := hT h) (fun t ht => by
    have := (W.2.2.2.2.2.2.2.1 t ht).1
    split <;> omega)
  unfold blk
  omega
theorem or_zero {a b : Nat} : a ||| b = 0 ↔ a = 0 ∧ b = 0 := by
  constructor
  · intro e
    exact ⟨Nat.le_zero.mp (e ▸ Nat.left_le_or), Nat.le_zero.mp (e ▸ Nat.right_le_or)⟩
  · rintro ⟨rfl, rfl⟩; rfl
section BLK
variable {d : Nat} {M h : pM}
theorem c_bulkOf (hd : 2 ≤ d) (W : WF h) (X : XH M h) {bits : Nat} (hb : bits < 2147483648) : xF d 102 [.inr 9, .inl (bits : Int)] M = rI (blk h bits) M := by
  obtain ⟨D, rfl, hD⟩ := dsucc hd
  have w2 := W.2.1
  rw [T_House_bulkOf]
  have key := sum_loop (fun s k => xE D 102 4 [.inr 9, .inl (bits : Int), .inl s, .inl k] [] M) (hT h) (fun t => if bits.testBit t then h 3 t else 0) (fun k s hk => by
    rw [L_House_bulkOf_4, X.2.1, if_neg (by rw [le32_iff] <;> omega), c_has hD hb (by omega), pbI_rI, ite01]
    cases bits.testBit k with
    | false => rfl
    | true =>
      simp only [if_true]
      rw [if_pos (by omega), Int.toNat_natCast, (X.2.2.2.2.2.1 k hk).1])
  rw [key, L_House_bulkOf_4, X.2.1, if_pos (by rw [le32_iff] <;> omega)]
  rfl
end BLK
section PL13
variable {d : Nat} {M h : pM} {p : Nat → Int}
theorem c_thingsIn_13 (hd : 2 ≤ d) (W : WF h) (X : XH M h) (P : PL M h 13 p) {r : Int} (h1 : -2147483648 ≤ r) (h2 : r < 2147483648) : xF d 86 [.inr 9, .inl r, .inr 15] M = rI (inR h p r : Nat) M := by
  obtain ⟨D, rfl, hD⟩ := dsucc hd
  have w1 := W.1
  have w2 := W.2.1
  rw [T_House_thingsIn_13]
  have key := bits_loop (fun b k => xE D 86 4 [.inr 9, .inl r, .inr 15, .inl b, .inl k] [] M) (hT h) (fun t => decide (p t = r)) (fun k b hk hb => by
    have hp := P k hk
    rw [L_House_thingsIn_13_4, X.2.1, if_neg (by rw [le32_iff] <;> omega), c_numberAt_13n hD (by omega), pbI_rI, hp.1]
    simp (disch := omega) only [eq32_iff]
    by_cases e : p k = r
    · rw [if_neg (fun z => z e), if_pos (decide_eq_true e), jor_shl hb (by omega)]
    · rw [if_pos e, if_neg (by simp [e])])
  rw [key, L_House_thingsIn_13_4, X.2.1, if_pos (by rw [le32_iff] <;> omega)]
  rfl
theorem c_load_13 (hd : 3 ≤ d) (W : WF h) (X : XH M h) (P : PL M h 13 p) {r : Int} (h1 : -2147483648 ≤ r) (h2 : r < 2147483648) : xF d 87 [.inr 9, .inl r, .inr 15] M = rI (blk h (inR h p r)) M := by
  obtain ⟨D, rfl, hD⟩ := dsucc hd
  have := inR_lt h p r
  have := p_T W
  rw [T_House_load_13, c_thingsIn_13 hD W X P h1 h2, pbI_rI, c_bulkOf hD W X (by omega), pbI_rI]
theorem c_overfull_13 (hd : 4 ≤ d) (W : WF h) (X : XH M h) (P : PL M h 13 p) : xF d 88 [.inr 9, .inr 15] M = rI (ovf h p : Nat) M := by
  obtain ⟨D, rfl, hD⟩ := dsucc hd
  have w1 := W.1
  rw [T_House_overfull_13]
  have key := bits_loop (fun b k => xE D 88 4 [.inr 9, .inr 15, .inl b, .inl k] [] M) (hR h) (fun r => decide (h 1 r < blk h (inR h p r))) (fun k b hk hb => by
    have hx := X.2.2.2.1 k hk
    have hv := W.2.2.2.1 k hk
    have hb2 := blk_range W (inR h p (k : Int))
    rw [L_House_overfull_13_4, X.1, if_neg (by rw [le32_iff] <;> omega), c_load_13 hD W X P (by omega) (by omega), pbI_rI, if_pos (by omega), Int.toNat_natCast, hx]
    simp (disch := omega) only [le32_iff]
    by_cases e : blk h (inR h p (k : Int)) ≤ h 1 k
    · rw [if_pos e, if_neg (by simp; omega)]
    · rw [if_neg e, if_pos (by simp; omega), jor_shl hb (by omega)])
  rw [key, L_House_overfull_13_4, X.1, if_pos (by rw [le32_iff] <;> omega)]
  rfl
theorem c_oneRoom_13 (hd : 3 ≤ d) (W : WF h) (X : XH M h) (P : PL M h 13 p) {bits : Nat} (hb : bits < 2 ^ hT h) : xF d 90 [.inr 9, .inl (bits : Int), .inr 15] M = rI (if oneR h p bits then 1 else 0) M := by
  obtain ⟨D, rfl, hD⟩ := dsucc hd
  have w1 := W.1
  have hp := p_T W
  rw [T_House_areInOneRoom_13]
  have key : ∀ m k : Nat, k + m = hR h → allTo (fun r => decide (inR h p (r : Int) &&& bits = 0) || decide (inR h p (r : Int) &&& bits = bits)) k = true → ∀ y, xE D 90 2 [.inr 9, .inl (bits : Int), .inr 15, .inl (k : Int), y] [] M = rI (if oneR h p bits then 1 else 0) M := by
    intro m
    induction m with
    | zero =>
      intro k hk ha y
      rw [L_House_areInOneRoom_13_2, X.1, if_pos (by rw [le32_iff] <;> omega)]
      unfold oneR
      rw [show hR h = k by omega, if_pos ha]
    | succ m ih =>
      intro k hk ha y
      have hl := inR_lt h p (k : Int)
      rw [L_House_areInOneRoom_13_2, X.1, if_neg (by rw [le32_iff] <;> omega), c_thingsIn_13 hD W X P (by omega) (by omega), pbI_rI, jand_nat (by omega) (by omega)]
      have hle : inR h p (k : Int) &&& bits ≤ inR h p (k : Int) := Nat.and_le_left
      rw [show (0 : Int) = ((0 : Nat) : Int) from rfl]
      simp (disch := omega) only [eq32_iff, Int.natCast_inj]
      by_cases e1 : inR h p (k : Int) &&& bits = 0
      · rw [if_pos e1]
        exact ih (k + 1) (by omega) (by unfold allTo; rw [ha, e1]; rfl) _
      · rw [if_neg e1]
        by_cases e2 : inR h p (k : Int) &&& bits = bits
        · rw [if_pos e2]
          exact ih (k + 1) (by omega) (by unfold allTo; rw [ha, decide_eq_true e2]; simp) _
        · rw [if_neg e2]
          have : oneR h p bits = false := by
            cases hq : oneR h p bits with
            | false => rfl
            | true =>
              have := allTo_iff.mp hq k (by omega)
              simp [e1, e2] at this
          rw [this]; rfl
  exact key (hR h) 0 (by omega) rfl _
theorem c_parted_13 (hd : 4 ≤ d) (W : WF h) (X : XH M h) (P : PL M h 13 p) : xF d 89 [.inr 9, .inr 15] M = rI (ptd h p : Nat) M := by
  obtain ⟨D, rfl, hD⟩ := dsucc hd
  have w3 := W.2.2.1
  rw [T_House_parted_13]
  have key := bits_loop (fun b k => xE D 89 4 [.inr 9, .inr 15, .inl b, .inl k] [] M) (hS h) (fun s => !oneR h p (me h s)) (fun k b hk hb => by
    rw [L_House_parted_13_4, X.2.2.1, if_neg (by rw [le32_iff] <;> omega), if_pos (by omega), Int.toNat_natCast, X.2.2.2.2.2.2 k hk, c_oneRoom_13 hD W X P (W.2.2.2.2.2.2.2.2 k hk), pbI_rI, ite01n]
    cases oneR h p (me h k) with
    | true => rfl
    | false =>
      simp only [Bool.not_false, if_true]
      rw [jor_shl hb (by omega)]; rfl)
  rw [key, L_House_parted_13_4, X.2.2.1, if_pos (by rw [le32_iff] <;> omega)]
  rfl
theorem c_lawful_13 (hd : 5 ≤ d) (W : WF h) (X : XH M h) (P : PL M h 13 p) [Decidable (lwf h p)] : xF d 91 [.inr 9, .inr 15] M = rI (if lwf h p then 1 else 0) M := by
  obtain ⟨D, rfl, hD⟩ := dsucc hd
  have q1 : ptd h p < 2 ^ hS h := bitsOf_lt _ _
  have q2 : ovf h p < 2 ^ hR h := bitsOf_lt _ _
  have q3 := p_S W
  have q4 := p_R W
  have q5 : ptd h p ||| ovf h p < 2 ^ 8 := Nat.or_lt_two_pow (by omega) (by omega)
  rw [T_House_lawful_13, c_parted_13 hD W X P, pbI_rI, c_overfull_13 hD W X P, pbI_rI, jor_nat (by omega) (by omega)]
  simp (disch := omega) only [eq32_iff]
  by_cases e : ptd h p ||| ovf h p = 0
  · have hl : lwf h p := or_zero.mp e
    rw [e, if_neg (fun z => z rfl), if_pos hl]
  · have hl : ¬ lwf h p := fun z => e (or_zero.mpr z)
    rw [if_pos (by omega), if_neg hl]
end PL13
section PL51
variable {d : Nat} {M h : pM} {p : Nat → Int}
end PL51
section PL58
variable {d : Nat} {M h : pM} {p : Nat → Int}
end PL58
section PL59
variable {d : Nat} {M h : pM} {p : Nat → Int}
theorem c_thingsIn_59 (hd : 2 ≤ d) (W : WF h) (X : XH M h) (P : PL M h 59 p) {r : Int} (h1 : -2147483648 ≤ r) (h2 : r < 2147483648) : xF d 86 [.inr 9, .inl r, .inr 61] M = rI (inR h p r : Nat) M := by
  obtain ⟨D, rfl, hD⟩ := dsucc hd
  have w1 := W.1
  have w2 := W.2.1
  rw [T_House_thingsIn_59]
  have key := bits_loop (fun b k => xE D 86 4 [.inr 9, .inl r, .inr 61, .inl b, .inl k] [] M) (hT h) (fun t => decide (p t = r)) (fun k b hk hb => by
    have hp := P k hk
    rw [L_House_thingsIn_59_4, X.2.1, if_neg (by rw [le32_iff] <;> omega), c_numberAt_59n hD (by omega), pbI_rI, hp.1]
    simp (disch := omega) only [eq32_iff]
    by_cases e : p k = r
    · rw [if_neg (fun z => z e), if_pos (decide_eq_true e), jor_shl hb (by omega)]
    · rw [if_pos e, if_neg (by simp [e])])
  rw [key, L_House_thingsIn_59_4, X.2.1, if_pos (by rw [le32_iff] <;> omega)]
  rfl
theorem c_load_59 (hd : 3 ≤ d) (W : WF h) (X : XH M h) (P : PL M h 59 p) {r : Int} (h1 : -2147483648 ≤ r) (h2 : r < 2147483648) : xF d 87 [.inr 9, .inl r, .inr 61] M = rI (blk h (inR h p r)) M := by
  obtain ⟨D, rfl, hD⟩ := dsucc hd
  have := inR_lt h p r
  have := p_T W
  rw [T_House_load_59, c_thingsIn_59 hD W X P h1 h2, pbI_rI, c_bulkOf hD W X (by omega), pbI_rI]
theorem c_overfull_59 (hd : 4 ≤ d) (W : WF h) (X : XH M h) (P : PL M h 59 p) : xF d 88 [.inr 9, .inr 61] M = rI (ovf h p : Nat) M := by
  obtain ⟨D, rfl, hD⟩ := dsucc hd
  have w1 := W.1
  rw [T_House_overfull_59]
  have key := bits_loop (fun b k => xE D 88 4 [.inr 9, .inr 61, .inl b, .inl k] [] M) (hR h) (fun r => decide (h 1 r < blk h (inR h p r))) (fun k b hk hb => by
    have hx := X.2.2.2.1 k hk
    have hv := W.2.2.2.1 k hk
    have hb2 := blk_range W (inR h p (k : Int))
    rw [L_House_overfull_59_4, X.1, if_neg (by rw [le32_iff] <;> omega), c_load_59 hD W X P (by omega) (by omega), pbI_rI, if_pos (by omega), Int.toNat_natCast, hx]
    simp (disch := omega) only [le32_iff]
    by_cases e : blk h (inR h p (k : Int)) ≤ h 1 k
    · rw [if_pos e, if_neg (by simp; omega)]
    · rw [if_neg e, if_pos (by simp; omega), jor_shl hb (by omega)])
  rw [key, L_House_overfull_59_4, X.1, if_pos (by rw [le32_iff] <;> omega)]
  rfl
theorem c_oneRoom_59 (hd : 3 ≤ d) (W : WF h) (X : XH M h) (P : PL M h 59 p) {bits : Nat} (hb : bits < 2 ^ hT h) : xF d 90 [.inr 9, .inl (bits : Int), .inr 61] M = rI (if oneR h p bits then 1 else 0) M := by
  obtain ⟨D, rfl, hD⟩ := dsucc hd
  have w1 := W.1
  have hp := p_T W
  rw [T_House_areInOneRoom_59]
  have key : ∀ m k : Nat, k + m = hR h → allTo (fun r => decide (inR h p (r : Int) &&& bits = 0) || decide (inR h p (r : Int) &&& bits = bits)) k = true → ∀ y, xE D 90 2 [.inr 9, .inl (bits : Int), .inr 61, .inl (k : Int), y] [] M = rI (if oneR h p bits then 1 else 0) M := by
    intro m
    induction m with
    | zero =>
      intro k hk ha y
      rw [L_House_areInOneRoom_59_2, X.1, if_pos (by rw [le32_iff] <;> omega)]
      unfold oneR
      rw [show hR h = k by omega, if_pos ha]
    | succ m ih =>
      intro k hk ha y
      have hl := inR_lt h p (k : Int)
      rw [L_House_areInOneRoom_59_2, X.1, if_neg (by rw [le32_iff] <;> omega), c_thingsIn_59 hD W X P (by omega) (by omega), pbI_rI, jand_nat (by omega) (by omega)]
      have hle : inR h p (k : Int) &&& bits ≤ inR h p (k : Int) := Nat.and_le_left
      rw [show (0 : Int) = ((0 : Nat) : Int) from rfl]
      simp (disch := omega) only [eq32_iff, Int.natCast_inj]
      by_cases e1 : inR h p (k : Int) &&& bits = 0
      · rw [if_pos e1]
        exact ih (k + 1) (by omega) (by unfold allTo; rw [ha, e1]; rfl) _
      · rw [if_neg e1]
        by_cases e2 : inR h p (k : Int) &&& bits = bits
        · rw [if_pos e2]
          exact ih (k + 1) (by omega) (by unfold allTo; rw [ha, decide_eq_true e2]; simp) _
        · rw [if_neg e2]
          have : oneR h p bits = false := by
            cases hq : oneR h p bits with
            | false => rfl
            | true =>
              have := allTo_iff.mp hq k (by omega)
              simp [e1, e2] at this
          rw [this]; rfl
  exact key (hR h) 0 (by omega) rfl _
theorem c_parted_59 (hd : 4 ≤ d) (W : WF h) (X : XH M h) (P : PL M h 59 p) : xF d 89 [.inr 9, .inr 61] M = rI (ptd h p : Nat) M := by
  obtain ⟨D, rfl, hD⟩ := dsucc hd
  have w3 := W.2.2.1
  rw [T_House_parted_59]
  have key := bits_loop (fun b k => xE D 89 4 [.inr 9, .inr 61, .inl b, .inl k] [] M) (hS h) (fun s => !oneR h p (me h s)) (fun k b hk hb => by
    rw [L_House_parted_59_4, X.2.2.1, if_neg (by rw [le32_iff] <;> omega), if_pos (by omega), Int.toNat_natCast, X.2.2.2.2.2.2 k hk, c_oneRoom_59 hD W X P (W.2.2.2.2.2.2.2.2 k hk), pbI_rI, ite01n]
    cases oneR h p (me h k) with
    | true => rfl
    | false =>
      simp only [Bool.not_false, if_true]
      rw [jor_shl hb (by omega)]; rfl)
  rw [key, L_House_parted_59_4, X.2.2.1, if_pos (by rw [le32_iff] <;> omega)]
  rfl
theorem c_lawful_59 (hd : 5 ≤ d) (W : WF h) (X : XH M h) (P : PL M h 59 p) [Decidable (lwf h p)] : xF d 91 [.inr 9, .inr 61] M = rI (if lwf h p then 1 else 0) M := by
  obtain ⟨D, rfl, hD⟩ := dsucc hd
  have q1 : ptd h p < 2 ^ hS h := bitsOf_lt _ _
  have q2 : ovf h p < 2 ^ hR h := bitsOf_lt _ _
  have q3 := p_S W
  have q4 := p_R W
  have q5 : ptd h p ||| ovf h p < 2 ^ 8 := Nat.or_lt_two_pow (by omega) (by omega)
  rw [T_House_lawful_59, c_parted_59 hD W X P, pbI_rI, c_overfull_59 hD W X P, pbI_rI, jor_nat (by omega) (by omega)]
  simp (disch := omega) only [eq32_iff]
  by_cases e : ptd h p ||| ovf h p = 0
  · have hl : lwf h p := or_zero.mp e
    rw [e, if_neg (fun z => z rfl), if_pos hl]
  · have hl : ¬ lwf h p := fun z => e (or_zero.mpr z)
    rw [if_pos (by omega), if_neg hl]
end PL59
end
end
