/-! more of that (by program) -/
theorem nu_M_near1_4 {d : Nat} (hd : 5 ≤ d) {M : pM} (hM : gM gAll M) (p0 : 1 ≤ M 60 0 ∧ M 60 0 ≤ 6) (p1 : 4 ≤ M 60 16 ∧ M 60 16 ≤ 4) : ∃ z M', xF d 238 [.inr 62] M = rI z M' ∧ ((-2 ≤ z ∧ z ≤ -2 ∧ 4 ≤ M' 60 16 ∧ M' 60 16 ≤ 4) ∨ (-3 ≤ z ∧ z ≤ -3 ∧ 4 ≤ M' 60 16 ∧ M' 60 16 ≤ 4) ∨ (0 ≤ z ∧ z ≤ 999999 ∧ 0 ≤ M' 60 16 ∧ M' 60 16 ≤ 10)) := by
  have c0 : cOK gAll (xF d) 238 K_903 := (ct_of (d := d) ct_ok (show K_903 ∈ CT.getD 238 [] from (show CT.getD 238 [] = [K_919, K_921, K_923, K_925, K_927, K_929, K_931, K_933, K_935, K_937, K_939, K_941, K_551, K_1018, K_895, K_897, K_899, K_901, K_903, K_905, K_907, K_909, K_911, K_913, K_915, K_917, K_1024, K_1030, K_1036, K_1042, K_1048, K_1054, K_1060, K_1066, K_1072, K_1078, K_549] from rfl) ▸ by simp) hd)
  obtain ⟨z, M', e, -, -, alt, ha, q, p⟩ := cOK_I c0 (A := [.inr 62]) (show aF2 gW [aRef 62] [.inr 62] from ⟨gW_o, trivial⟩) hM (show gP0 [(60, 0, (0, 1, 6, 0, 0, 0)), (60, 16, (0, 4, 4, 0, 0, 0))] M from fun e he => by
    simp only [List.mem_cons, List.not_mem_nil, or_false] at he
    rcases he with rfl | rfl
    · exact gR_i p0.1 p0.2
    · exact gR_i p1.1 p1.2) rfl
  refine ⟨z, M', e, ?_⟩
  have ha : alt ∈ [(some (0, -2, -2, 0, 0, 0), [], [(60, 0, (0, 1, 6, 0, 0, 0)), (60, 16, (0, 4, 4, 0, 0, 0)), (60, 17, (0, 0, 0, 0, 0, 0)), (60, 39, (0, 1, 20000, 0, 0, 0)), (60, 40, (0, 0, 1000000, 0, 0, 0))]), (some (0, -3, -3, 0, 0, 0), [], [(60, 0, (0, 1, 6, 0, 0, 0)), (60, 16, (0, 4, 4, 0, 0, 0)), (60, 17, (0, 0, 0, 0, 0, 0)), (60, 39, (0, 20001, 1000000, 0, 0, 0))]), (some (0, 0, 999999, 0, 0, 0), [], [(60, 0, (0, 1, 6, 0, 0, 0)), (60, 16, (0, 0, 10, 0, 0, 0)), (60, 17, (0, 0, 0, 0, 0, 0)), (60, 39, (0, 1, 20000, 0, 0, 0)), (60, 40, (0, 0, 1000000, 0, 0, 0))])] := ha
  simp only [List.mem_cons, List.not_mem_nil, or_false] at ha
  rcases ha with rfl | rfl | rfl
  · obtain ⟨z2, e2, r⟩ := gW_int (show gW _ _ from q) (Nat.le_of_ble_eq_true rfl)
    cases e2
    have := gR0 r
    have w := gR0 (show gR (0, 4, 4, 0, 0, 0) (M' 60 16) from (p _ (List.mem_cons_of_mem _ List.mem_cons_self)).1)
    exact Or.inl ⟨this.1, this.2, w.1, w.2⟩
  · obtain ⟨z2, e2, r⟩ := gW_int (show gW _ _ from q) (Nat.le_of_ble_eq_true rfl)
    cases e2
    have := gR0 r
    have w := gR0 (show gR (0, 4, 4, 0, 0, 0) (M' 60 16) from (p _ (List.mem_cons_of_mem _ List.mem_cons_self)).1)
    exact Or.inr (Or.inl ⟨this.1, this.2, w.1, w.2⟩)
  · obtain ⟨z2, e2, r⟩ := gW_int (show gW _ _ from q) (Nat.le_of_ble_eq_true rfl)
    cases e2
    have := gR0 r
    have w := gR0 (show gR (0, 0, 10, 0, 0, 0) (M' 60 16) from (p _ (List.mem_cons_of_mem _ List.mem_cons_self)).1)
    exact Or.inr (Or.inr ⟨this.1, this.2, w.1, w.2⟩)
theorem nu_M_near1_5 {d : Nat} (hd : 5 ≤ d) {M : pM} (hM : gM gAll M) (p0 : 1 ≤ M 60 0 ∧ M 60 0 ≤ 6) (p1 : 5 ≤ M 60 16 ∧ M 60 16 ≤ 5) : ∃ z M', xF d 238 [.inr 62] M = rI z M' ∧ ((-2 ≤ z ∧ z ≤ -2 ∧ 5 ≤ M' 60 16 ∧ M' 60 16 ≤ 5) ∨ (-3 ≤ z ∧ z ≤ -3 ∧ 5 ≤ M' 60 16 ∧ M' 60 16 ≤ 5) ∨ (0 ≤ z ∧ z ≤ 999999 ∧ 0 ≤ M' 60 16 ∧ M' 60 16 ≤ 10)) := by
  have c0 : cOK gAll (xF d) 238 K_905 := (ct_of (d := d) ct_ok (show K_905 ∈ CT.getD 238 [] from (show CT.getD 238 [] = [K_919, K_921, K_923, K_925, K_927, K_929, K_931, K_933, K_935, K_937, K_939, K_941, K_551, K_1018, K_895, K_897, K_899, K_901, K_903, K_905, K_907, K_909, K_911, K_913, K_915, K_917, K_1024, K_1030, K_1036, K_1042, K_1048, K_1054, K_1060, K_1066, K_1072, K_1078, K_549] from rfl) ▸ by simp) hd)
  obtain ⟨z, M', e, -, -, alt, ha, q, p⟩ := cOK_I c0 (A := [.inr 62]) (show aF2 gW [aRef 62] [.inr 62] from ⟨gW_o, trivial⟩) hM (show gP0 [(60, 0, (0, 1, 6, 0, 0, 0)), (60, 16, (0, 5, 5, 0, 0, 0))] M from fun e he => by
    simp only [List.mem_cons, List.not_mem_nil, or_false] at he
    rcases he with rfl | rfl
    · exact gR_i p0.1 p0.2
    · exact gR_i p1.1 p1.2) rfl
  refine ⟨z, M', e, ?_⟩
  have ha : alt ∈ [(some (0, -2, -2, 0, 0, 0), [], [(60, 0, (0, 1, 6, 0, 0, 0)), (60, 16, (0, 5, 5, 0, 0, 0)), (60, 17, (0, 0, 0, 0, 0, 0)), (60, 39, (0, 1, 20000, 0, 0, 0)), (60, 40, (0, 0, 1000000, 0, 0, 0))]), (some (0, -3, -3, 0, 0, 0), [], [(60, 0, (0, 1, 6, 0, 0, 0)), (60, 16, (0, 5, 5, 0, 0, 0)), (60, 17, (0, 0, 0, 0, 0, 0)), (60, 39, (0, 20001, 1000000, 0, 0, 0))]), (some (0, 0, 999999, 0, 0, 0), [], [(60, 0, (0, 1, 6, 0, 0, 0)), (60, 16, (0, 0, 10, 0, 0, 0)), (60, 17, (0, 0, 0, 0, 0, 0)), (60, 39, (0, 1, 20000, 0, 0, 0)), (60, 40, (0, 0, 1000000, 0, 0, 0))])] := ha
  simp only [List.mem_cons, List.not_mem_nil, or_false] at ha
  rcases ha with rfl | rfl | rfl
  · obtain ⟨z2, e2, r⟩ := gW_int (show gW _ _ from q) (Nat.le_of_ble_eq_true rfl)
    cases e2
    have := gR0 r
    have w := gR0 (show gR (0, 5, 5, 0, 0, 0) (M' 60 16) from (p _ (List.mem_cons_of_mem _ List.mem_cons_self)).1)
    exact Or.inl ⟨this.1, this.2, w.1, w.2⟩
  · obtain ⟨z2, e2, r⟩ := gW_int (show gW _ _ from q) (Nat.le_of_ble_eq_true rfl)
    cases e2
    have := gR0 r
    have w := gR0 (show gR (0, 5, 5, 0, 0, 0) (M' 60 16) from (p _ (List.mem_cons_of_mem _ List.mem_cons_self)).1)
    exact Or.inr (Or.inl ⟨this.1, this.2, w.1, w.2⟩)
  · obtain ⟨z2, e2, r⟩ := gW_int (show gW _ _ from q) (Nat.le_of_ble_eq_true rfl)
    cases e2
    have := gR0 r
    have w := gR0 (show gR (0, 0, 10, 0, 0, 0) (M' 60 16) from (p _ (List.mem_cons_of_mem _ List.mem_cons_self)).1)
    exact Or.inr (Or.inr ⟨this.1, this.2, w.1, w.2⟩)
theorem nu_M_near1_6 {d : Nat} (hd : 5 ≤ d) {M : pM} (hM : gM gAll M) (p0 : 1 ≤ M 60 0 ∧ M 60 0 ≤ 6) (p1 : 6 ≤ M 60 16 ∧ M 60 16 ≤ 6) : ∃ z M', xF d 238 [.inr 62] M = rI z M' ∧ ((-2 ≤ z ∧ z ≤ -2 ∧ 6 ≤ M' 60 16 ∧ M' 60 16 ≤ 6) ∨ (-3 ≤ z ∧ z ≤ -3 ∧ 6 ≤ M' 60 16 ∧ M' 60 16 ≤ 6) ∨ (0 ≤ z ∧ z ≤ 999999 ∧ 0 ≤ M' 60 16 ∧ M' 60 16 ≤ 10)) := by
  have c0 : cOK gAll (xF d) 238 K_907 := (ct_of (d := d) ct_ok (show K_907 ∈ CT.getD 238 [] from (show CT.getD 238 [] = [K_919, K_921, K_923, K_925, K_927, K_929, K_931, K_933, K_935, K_937, K_939, K_941, K_551, K_1018, K_895, K_897, K_899, K_901, K_903, K_905, K_907, K_909, K_911, K_913, K_915, K_917, K_1024, K_1030, K_1036, K_1042, K_1048, K_1054, K_1060, K_1066, K_1072, K_1078, K_549] from rfl) ▸ by simp) hd)
  obtain ⟨z, M', e, -, -, alt, ha, q, p⟩ := cOK_I c0 (A := [.inr 62]) (show aF2 gW [aRef 62] [.inr 62] from ⟨gW_o, trivial⟩) hM (show gP0 [(60, 0, (0, 1, 6, 0, 0, 0)), (60, 16, (0, 6, 6, 0, 0, 0))] M from fun e he => by
    simp only [List.mem_cons, List.not_mem_nil, or_false] at he
    rcases he with rfl | rfl
    · exact gR_i p0.1 p0.2
    · exact gR_i p1.1 p1.2) rfl
  refine ⟨z, M', e, ?_⟩
  have ha : alt ∈ [(some (0, -2, -2, 0, 0, 0), [], [(60, 0, (0, 1, 6, 0, 0, 0)), (60, 16, (0, 6, 6, 0, 0, 0)), (60, 17, (0, 0, 0, 0, 0, 0)), (60, 39, (0, 1, 20000, 0, 0, 0)), (60, 40, (0, 0, 1000000, 0, 0, 0))]), (some (0, -3, -3, 0, 0, 0), [], [(60, 0, (0, 1, 6, 0, 0, 0)), (60, 16, (0, 6, 6, 0, 0, 0)), (60, 17, (0, 0, 0, 0, 0, 0)), (60, 39, (0, 20001, 1000000, 0, 0, 0))]), (some (0, 0, 999999, 0, 0, 0), [], [(60, 0, (0, 1, 6, 0, 0, 0)), (60, 16, (0, 0, 10, 0, 0, 0)), (60, 17, (0, 0, 0, 0, 0, 0)), (60, 39, (0, 1, 20000, 0, 0, 0)), (60, 40, (0, 0, 1000000, 0, 0, 0))])] := ha
  simp only [List.mem_cons, List.not_mem_nil, or_false] at ha
  rcases ha with rfl | rfl | rfl
  · obtain ⟨z2, e2, r⟩ := gW_int (show gW _ _ from q) (Nat.le_of_ble_eq_true rfl)
    cases e2
    have := gR0 r
    have w := gR0 (show gR (0, 6, 6, 0, 0, 0) (M' 60 16) from (p _ (List.mem_cons_of_mem _ List.mem_cons_self)).1)
    exact Or.inl ⟨this.1, this.2, w.1, w.2⟩
  · obtain ⟨z2, e2, r⟩ := gW_int (show gW _ _ from q) (Nat.le_of_ble_eq_true rfl)
    cases e2
    have := gR0 r
    have w := gR0 (show gR (0, 6, 6, 0, 0, 0) (M' 60 16) from (p _ (List.mem_cons_of_mem _ List.mem_cons_self)).1)
    exact Or.inr (Or.inl ⟨this.1, this.2, w.1, w.2⟩)
  · obtain ⟨z2, e2, r⟩ := gW_int (show gW _ _ from q) (Nat.le_of_ble_eq_true rfl)
    cases e2
    have := gR0 r
    have w := gR0 (show gR (0, 0, 10, 0, 0, 0) (M' 60 16) from (p _ (List.mem_cons_of_mem _ List.mem_cons_self)).1)
    exact Or.inr (Or.inr ⟨this.1, this.2, w.1, w.2⟩)
theorem nu_M_near1_7 {d : Nat} (hd : 5 ≤ d) {M : pM} (hM : gM gAll M) (p0 : 1 ≤ M 60 0 ∧ M 60 0 ≤ 6) (p1 : 7 ≤ M 60 16 ∧ M 60 16 ≤ 7) : ∃ z M', xF d 238 [.inr 62] M = rI z M' ∧ ((-2 ≤ z ∧ z ≤ -2 ∧ 7 ≤ M' 60 16 ∧ M' 60 16 ≤ 7) ∨ (-3 ≤ z ∧ z ≤ -3 ∧ 7 ≤ M' 60 16 ∧ M' 60 16 ≤ 7) ∨ (0 ≤ z ∧ z ≤ 999999 ∧ 0 ≤ M' 60 16 ∧ M' 60 16 ≤ 10)) := by
  have c0 : cOK gAll (xF d) 238 K_909 := (ct_of (d := d) ct_ok (show K_909 ∈ CT.getD 238 [] from (show CT.getD 238 [] = [K_919, K_921, K_923, K_925, K_927, K_929, K_931, K_933, K_935, K_937, K_939, K_941, K_551, K_1018, K_895, K_897, K_899, K_901, K_903, K_905, K_907, K_909, K_911, K_913, K_915, K_917, K_1024, K_1030, K_1036, K_1042, K_1048, K_1054, K_1060, K_1066, K_1072, K_1078, K_549] from rfl) ▸ by simp) hd)
  obtain ⟨z, M', e, -, -, alt, ha, q, p⟩ := cOK_I c0 (A := [.inr 62]) (show aF2 gW [aRef 62] [.inr 62] from ⟨gW_o, trivial⟩) hM (show gP0 [(60, 0, (0, 1, 6, 0, 0, 0)), (60, 16, (0, 7, 7, 0, 0, 0))] M from fun e he => by
    simp only [List.mem_cons, List.not_mem_nil, or_false] at he
    rcases he with rfl | rfl
    · exact gR_i p0.1 p0.2
    · exact gR_i p1.1 p1.2) rfl
  refine ⟨z, M', e, ?_⟩
  have ha : alt ∈ [(some (0, -2, -2, 0, 0, 0), [], [(60, 0, (0, 1, 6, 0, 0, 0)), (60, 16, (0, 7, 7, 0, 0, 0)), (60, 17, (0, 0, 0, 0, 0, 0)), (60, 39, (0, 1, 20000, 0, 0, 0)), (60, 40, (0, 0, 1000000, 0, 0, 0))]), (some (0, -3, -3, 0, 0, 0), [], [(60, 0, (0, 1, 6, 0, 0, 0)), (60, 16, (0, 7, 7, 0, 0, 0)), (60, 17, (0, 0, 0, 0, 0, 0)), (60, 39, (0, 20001, 1000000, 0, 0, 0))]), (some (0, 0, 999999, 0, 0, 0), [], [(60, 0, (0, 1, 6, 0, 0, 0)), (60, 16, (0, 0, 10, 0, 0, 0)), (60, 17, (0, 0, 0, 0, 0, 0)), (60, 39, (0, 1, 20000, 0, 0, 0)), (60, 40, (0, 0, 1000000, 0, 0, 0))])] := ha
  simp only [List.mem_cons, List.not_mem_nil, or_false] at ha
  rcases ha with rfl | rfl | rfl
  · obtain ⟨z2, e2, r⟩ := gW_int (show gW _ _ from q) (Nat.le_of_ble_eq_true rfl)
    cases e2
    have := gR0 r
    have w := gR0 (show gR (0, 7, 7, 0, 0, 0) (M' 60 16) from (p _ (List.mem_cons_of_mem _ List.mem_cons_self)).1)
    exact Or.inl ⟨this.1, this.2, w.1, w.2⟩
  · obtain ⟨z2, e2, r⟩ := gW_int (show gW _ _ from q) (Nat.le_of_ble_eq_true rfl)
    cases e2
    have := gR0 r
    have w := gR0 (show gR (0, 7, 7, 0, 0, 0) (M' 60 16) from (p _ (List.mem_cons_of_mem _ List.mem_cons_self)).1)
    exact Or.inr (Or.inl ⟨this.1, this.2, w.1, w.2⟩)
  · obtain ⟨z2, e2, r⟩ := gW_int (show gW _ _ from q) (Nat.le_of_ble_eq_true rfl)
    cases e2
    have := gR0 r
    have w := gR0 (show gR (0, 0, 10, 0, 0, 0) (M' 60 16) from (p _ (List.mem_cons_of_mem _ List.mem_cons_self)).1)
    exact Or.inr (Or.inr ⟨this.1, this.2, w.1, w.2⟩)
theorem nu_M_near1_8 {d : Nat} (hd : 5 ≤ d) {M : pM} (hM : gM gAll M) (p0 : 1 ≤ M 60 0 ∧ M 60 0 ≤ 6) (p1 : 8 ≤ M 60 16 ∧ M 60 16 ≤ 8) : ∃ z M', xF d 238 [.inr 62] M = rI z M' ∧ ((-2 ≤ z ∧ z ≤ -2 ∧ 8 ≤ M' 60 16 ∧ M' 60 16 ≤ 8) ∨ (-3 ≤ z ∧ z ≤ -3 ∧ 8 ≤ M' 60 16 ∧ M' 60 16 ≤ 8) ∨ (0 ≤ z ∧ z ≤ 999999 ∧ 0 ≤ M' 60 16 ∧ M' 60 16 ≤ 10)) := by
  have c0 : cOK gAll (xF d) 238 K_911 := (ct_of (d := d) ct_ok (show K_911 ∈ CT.getD 238 [] from (show CT.getD 238 [] = [K_919, K_921, K_923, K_925, K_927, K_929, K_931, K_933, K_935, K_937, K_939, K_941, K_551, K_1018, K_895, K_897, K_899, K_901, K_903, K_905, K_907, K_909, K_911, K_913, K_915, K_917, K_1024, K_1030, K_1036, K_1042, K_1048, K_1054, K_1060, K_1066, K_1072, K_1078, K_549] from rfl) ▸ by simp) hd)
  obtain ⟨z, M', e, -, -, alt, ha, q, p⟩ := cOK_I c0 (A := [.inr 62]) (show aF2 gW [aRef 62] [.inr 62] from ⟨gW_o, trivial⟩) hM (show gP0 [(60, 0, (0, 1, 6, 0, 0, 0)), (60, 16, (0, 8, 8, 0, 0, 0))] M from fun e he => by
    simp only [List.mem_cons, List.not_mem_nil, or_false] at he
    rcases he with rfl | rfl
    · exact gR_i p0.1 p0.2
    · exact gR_i p1.1 p1.2) rfl
  refine ⟨z, M', e, ?_⟩
  have ha : alt ∈ [(some (0, -2, -2, 0, 0, 0), [], [(60, 0, (0, 1, 6, 0, 0, 0)), (60, 16, (0, 8, 8, 0, 0, 0)), (60, 17, (0, 0, 0, 0, 0, 0)), (60, 39, (0, 1, 20000, 0, 0, 0)), (60, 40, (0, 0, 1000000, 0, 0, 0))]), (some (0, -3, -3, 0, 0, 0), [], [(60, 0, (0, 1, 6, 0, 0, 0)), (60, 16, (0, 8, 8, 0, 0, 0)), (60, 17, (0, 0, 0, 0, 0, 0)), (60, 39, (0, 20001, 1000000, 0, 0, 0))]), (some (0, 0, 999999, 0, 0, 0), [], [(60, 0, (0, 1, 6, 0, 0, 0)), (60, 16, (0, 0, 10, 0, 0, 0)), (60, 17, (0, 0, 0, 0, 0, 0)), (60, 39, (0, 1, 20000, 0, 0, 0)), (60, 40, (0, 0, 1000000, 0, 0, 0))])] := ha
  simp only [List.mem_cons, List.not_mem_nil, or_false] at ha
  rcases ha with rfl | rfl | rfl
  · obtain ⟨z2, e2, r⟩ := gW_int (show gW _ _ from q) (Nat.le_of_ble_eq_true rfl)
    cases e2
    have := gR0 r
    have w := gR0 (show gR (0, 8, 8, 0, 0, 0) (M' 60 16) from (p _ (List.mem_cons_of_mem _ List.mem_cons_self)).1)
    exact Or.inl ⟨this.1, this.2, w.1, w.2⟩
  · obtain ⟨z2, e2, r⟩ := gW_int (show gW _ _ from q) (Nat.le_of_ble_eq_true rfl)
    cases e2
    have := gR0 r
    have w := gR0 (show gR (0, 8, 8, 0, 0, 0) (M' 60 16) from (p _ (List.mem_cons_of_mem _ List.mem_cons_self)).1)
    exact Or.inr (Or.inl ⟨this.1, this.2, w.1, w.2⟩)
  · obtain ⟨z2, e2, r⟩ := gW_int (show gW _ _ from q) (Nat.le_of_ble_eq_true rfl)
    cases e2
    have := gR0 r
    have w := gR0 (show gR (0, 0, 10, 0, 0, 0) (M' 60 16) from (p _ (List.mem_cons_of_mem _ List.mem_cons_self)).1)
    exact Or.inr (Or.inr ⟨this.1, this.2, w.1, w.2⟩)
theorem nu_M_near1_9 {d : Nat} (hd : 5 ≤ d) {M : pM} (hM : gM gAll M) (p0 : 1 ≤ M 60 0 ∧ M 60 0 ≤ 6) (p1 : 9 ≤ M 60 16 ∧ M 60 16 ≤ 9) : ∃ z M', xF d 238 [.inr 62] M = rI z M' ∧ ((-2 ≤ z ∧ z ≤ -2 ∧ 9 ≤ M' 60 16 ∧ M' 60 16 ≤ 9) ∨ (-3 ≤ z ∧ z ≤ -3 ∧ 9 ≤ M' 60 16 ∧ M' 60 16 ≤ 9) ∨ (0 ≤ z ∧ z ≤ 999999 ∧ 0 ≤ M' 60 16 ∧ M' 60 16 ≤ 10)) := by
  have c0 : cOK gAll (xF d) 238 K_913 := (ct_of (d := d) ct_ok (show K_913 ∈ CT.getD 238 [] from (show CT.getD 238 [] = [K_919, K_921, K_923, K_925, K_927, K_929, K_931, K_933, K_935, K_937, K_939, K_941, K_551, K_1018, K_895, K_897, K_899, K_901, K_903, K_905, K_907, K_909, K_911, K_913, K_915, K_917, K_1024, K_1030, K_1036, K_1042, K_1048, K_1054, K_1060, K_1066, K_1072, K_1078, K_549] from rfl) ▸ by simp) hd)
  obtain ⟨z, M', e, -, -, alt, ha, q, p⟩ := cOK_I c0 (A := [.inr 62]) (show aF2 gW [aRef 62] [.inr 62] from ⟨gW_o, trivial⟩) hM (show gP0 [(60, 0, (0, 1, 6, 0, 0, 0)), (60, 16, (0, 9, 9, 0, 0, 0))] M from fun e he => by
    simp only [List.mem_cons, List.not_mem_nil, or_false] at he
    rcases he with rfl | rfl
    · exact gR_i p0.1 p0.2
    · exact gR_i p1.1 p1.2) rfl
  refine ⟨z, M', e, ?_⟩
  have ha : alt ∈ [(some (0, -2, -2, 0, 0, 0), [], [(60, 0, (0, 1, 6, 0, 0, 0)), (60, 16, (0, 9, 9, 0, 0, 0)), (60, 17, (0, 0, 0, 0, 0, 0)), (60, 39, (0, 1, 20000, 0, 0, 0)), (60, 40, (0, 0, 1000000, 0, 0, 0))]), (some (0, -3, -3, 0, 0, 0), [], [(60, 0, (0, 1, 6, 0, 0, 0)), (60, 16, (0, 9, 9, 0, 0, 0)), (60, 17, (0, 0, 0, 0, 0, 0)), (60, 39, (0, 20001, 1000000, 0, 0, 0))]), (some (0, 0, 999999, 0, 0, 0), [], [(60, 0, (0, 1, 6, 0, 0, 0)), (60, 16, (0, 0, 10, 0, 0, 0)), (60, 17, (0, 0, 0, 0, 0, 0)), (60, 39, (0, 1, 20000, 0, 0, 0)), (60, 40, (0, 0, 1000000, 0, 0, 0))])] := ha
  simp only [List.mem_cons, List.not_mem_nil, or_false] at ha
  rcases ha with rfl | rfl | rfl
  · obtain ⟨z2, e2, r⟩ := gW_int (show gW _ _ from q) (Nat.le_of_ble_eq_true rfl)
    cases e2
    have := gR0 r
    have w := gR0 (show gR (0, 9, 9, 0, 0, 0) (M' 60 16) from (p _ (List.mem_cons_of_mem _ List.mem_cons_self)).1)
    exact Or.inl ⟨this.1, this.2, w.1, w.2⟩
  · obtain ⟨z2, e2, r⟩ := gW_int (show gW _ _ from q) (Nat.le_of_ble_eq_true rfl)
    cases e2
    have := gR0 r
    have w := gR0 (show gR (0, 9, 9, 0, 0, 0) (M' 60 16) from (p _ (List.mem_cons_of_mem _ List.mem_cons_self)).1)
    exact Or.inr (Or.inl ⟨this.1, this.2, w.1, w.2⟩)
  · obtain ⟨z2, e2, r⟩ := gW_int (show gW _ _ from q) (Nat.le_of_ble_eq_true rfl)
    cases e2
    have := gR0 r
    have w := gR0 (show gR (0, 0, 10, 0, 0, 0) (M' 60 16) from (p _ (List.mem_cons_of_mem _ List.mem_cons_self)).1)
    exact Or.inr (Or.inr ⟨this.1, this.2, w.1, w.2⟩)
theorem nu_M_near1_10 {d : Nat} (hd : 5 ≤ d) {M : pM} (hM : gM gAll M) (p0 : 1 ≤ M 60 0 ∧ M 60 0 ≤ 6) (p1 : 10 ≤ M 60 16 ∧ M 60 16 ≤ 10) : ∃ z M', xF d 238 [.inr 62] M = rI z M' ∧ ((-2 ≤ z ∧ z ≤ -2 ∧ 10 ≤ M' 60 16 ∧ M' 60 16 ≤ 10) ∨ (-3 ≤ z ∧ z ≤ -3 ∧ 10 ≤ M' 60 16 ∧ M' 60 16 ≤ 10) ∨ (0 ≤ z ∧ z ≤ 999999 ∧ 0 ≤ M' 60 16 ∧ M' 60 16 ≤ 10)) := by
  have c0 : cOK gAll (xF d) 238 K_915 := (ct_of (d := d) ct_ok (show K_915 ∈ CT.getD 238 [] from (show CT.getD 238 [] = [K_919, K_921, K_923, K_925, K_927, K_929, K_931, K_933, K_935, K_937, K_939, K_941, K_551, K_1018, K_895, K_897, K_899, K_901, K_903, K_905, K_907, K_909, K_911, K_913, K_915, K_917, K_1024, K_1030, K_1036, K_1042, K_1048, K_1054, K_1060, K_1066, K_1072, K_1078, K_549] from rfl) ▸ by simp) hd)
  obtain ⟨z, M', e, -, -, alt, ha, q, p⟩ := cOK_I c0 (A := [.inr 62]) (show aF2 gW [aRef 62] [.inr 62] from ⟨gW_o, trivial⟩) hM (show gP0 [(60, 0, (0, 1, 6, 0, 0, 0)), (60, 16, (0, 10, 10, 0, 0, 0))] M from fun e he => by
    simp only [List.mem_cons, List.not_mem_nil, or_false] at he
    rcases he with rfl | rfl
    · exact gR_i p0.1 p0.2
    · exact gR_i p1.1 p1.2) rfl
  refine ⟨z, M', e, ?_⟩
  have ha : alt ∈ [(some (0, -2, -2, 0, 0, 0), [], [(60, 0, (0, 1, 6, 0, 0, 0)), (60, 16, (0, 10, 10, 0, 0, 0)), (60, 17, (0, 0, 0, 0, 0, 0)), (60, 39, (0, 1, 20000, 0, 0, 0)), (60, 40, (0, 0, 1000000, 0, 0, 0))]), (some (0, -3, -3, 0, 0, 0), [], [(60, 0, (0, 1, 6, 0, 0, 0)), (60, 16, (0, 10, 10, 0, 0, 0)), (60, 17, (0, 0, 0, 0, 0, 0)), (60, 39, (0, 20001, 1000000, 0, 0, 0))]), (some (0, 0, 999999, 0, 0, 0), [], [(60, 0, (0, 1, 6, 0, 0, 0)), (60, 16, (0, 0, 10, 0, 0, 0)), (60, 17, (0, 0, 0, 0, 0, 0)), (60, 39, (0, 1, 20000, 0, 0, 0)), (60, 40, (0, 0, 1000000, 0, 0, 0))])] := ha
  simp only [List.mem_cons, List.not_mem_nil, or_false] at ha
  rcases ha with rfl | rfl | rfl
  · obtain ⟨z2, e2, r⟩ := gW_int (show gW _ _ from q) (Nat.le_of_ble_eq_true rfl)
    cases e2
    have := gR0 r
    have w := gR0 (show gR (0, 10, 10, 0, 0, 0) (M' 60 16) from (p _ (List.mem_cons_of_mem _ List.mem_cons_self)).1)
    exact Or.inl ⟨this.1, this.2, w.1, w.2⟩
  · obtain ⟨z2, e2, r⟩ := gW_int (show gW _ _ from q) (Nat.le_of_ble_eq_true rfl)
    cases e2
    have := gR0 r
    have w := gR0 (show gR (0, 10, 10, 0, 0, 0) (M' 60 16) from (p _ (List.mem_cons_of_mem _ List.mem_cons_self)).1)
    exact Or.inr (Or.inl ⟨this.1, this.2, w.1, w.2⟩)
  · obtain ⟨z2, e2, r⟩ := gW_int (show gW _ _ from q) (Nat.le_of_ble_eq_true rfl)
    cases e2
    have := gR0 r
    have w := gR0 (show gR (0, 0, 10, 0, 0, 0) (M' 60 16) from (p _ (List.mem_cons_of_mem _ List.mem_cons_self)).1)
    exact Or.inr (Or.inr ⟨this.1, this.2, w.1, w.2⟩)
theorem nu_M_near1_11 {d : Nat} (hd : 5 ≤ d) {M : pM} (hM : gM gAll M) (p0 : 1 ≤ M 60 0 ∧ M 60 0 ≤ 6) (p1 : 11 ≤ M 60 16 ∧ M 60 16 ≤ 11) : ∃ z M', xF d 238 [.inr 62] M = rI z M' ∧ ((-2 ≤ z ∧ z ≤ -2 ∧ 11 ≤ M' 60 16 ∧ M' 60 16 ≤ 11) ∨ (-3 ≤ z ∧ z ≤ -3 ∧ 11 ≤ M' 60 16 ∧ M' 60 16 ≤ 11) ∨ (0 ≤ z ∧ z ≤ 999999 ∧ 0 ≤ M' 60 16 ∧ M' 60 16 ≤ 10)) := by
  have c0 : cOK gAll (xF d) 238 K_917 := (ct_of (d := d) ct_ok (show K_917 ∈ CT.getD 238 [] from (show CT.getD 238 [] = [K_919, K_921, K_923, K_925, K_927, K_929, K_931, K_933, K_935, K_937, K_939, K_941, K_551, K_1018, K_895, K_897, K_899, K_901, K_903, K_905, K_907, K_909, K_911, K_913, K_915, K_917, K_1024, K_1030, K_1036, K_1042, K_1048, K_1054, K_1060, K_1066, K_1072, K_1078, K_549] from rfl) ▸ by simp) hd)
  obtain ⟨z, M', e, -, -, alt, ha, q, p⟩ := cOK_I c0 (A := [.inr 62]) (show aF2 gW [aRef 62] [.inr 62] from ⟨gW_o, trivial⟩) hM (show gP0 [(60, 0, (0, 1, 6, 0, 0, 0)), (60, 16, (0, 11, 11, 0, 0, 0))] M from fun e he => by
    simp only [List.mem_cons, List.not_mem_nil, or_false] at he
    rcases he with rfl | rfl
    · exact gR_i p0.1 p0.2
    · exact gR_i p1.1 p1.2) rfl
  refine ⟨z, M', e, ?_⟩
  have ha : alt ∈ [(some (0, -2, -2, 0, 0, 0), [], [(60, 0, (0, 1, 6, 0, 0, 0)), (60, 16, (0, 11, 11, 0, 0, 0)), (60, 17, (0, 0, 0, 0, 0, 0)), (60, 39, (0, 1, 20000, 0, 0, 0)), (60, 40, (0, 0, 1000000, 0, 0, 0))]), (some (0, -3, -3, 0, 0, 0), [], [(60, 0, (0, 1, 6, 0, 0, 0)), (60, 16, (0, 11, 11, 0, 0, 0)), (60, 17, (0, 0, 0, 0, 0, 0)), (60, 39, (0, 20001, 1000000, 0, 0, 0))]), (some (0, 0, 999999, 0, 0, 0), [], [(60, 0, (0, 1, 6, 0, 0, 0)), (60, 16, (0, 0, 10, 0, 0, 0)), (60, 17, (0, 0, 0, 0, 0, 0)), (60, 39, (0, 1, 20000, 0, 0, 0)), (60, 40, (0, 0, 1000000, 0, 0, 0))])] := ha
  simp only [List.mem_cons, List.not_mem_nil, or_false] at ha
  rcases ha with rfl | rfl | rfl
  · obtain ⟨z2, e2, r⟩ := gW_int (show gW _ _ from q) (Nat.le_of_ble_eq_true rfl)
    cases e2
    have := gR0 r
    have w := gR0 (show gR (0, 11, 11, 0, 0, 0) (M' 60 16) from (p _ (List.mem_cons_of_mem _ List.mem_cons_self)).1)
    exact Or.inl ⟨this.1, this.2, w.1, w.2⟩
  · obtain ⟨z2, e2, r⟩ := gW_int (show gW _ _ from q) (Nat.le_of_ble_eq_true rfl)
    cases e2
    have := gR0 r
    have w := gR0 (show gR (0, 11, 11, 0, 0, 0) (M' 60 16) from (p _ (List.mem_cons_of_mem _ List.mem_cons_self)).1)
    exact Or.inr (Or.inl ⟨this.1, this.2, w.1, w.2⟩)
  · obtain ⟨z2, e2, r⟩ := gW_int (show gW _ _ from q) (Nat.le_of_ble_eq_true rfl)
    cases e2
    have := gR0 r
    have w := gR0 (show gR (0, 0, 10, 0, 0, 0) (M' 60 16) from (p _ (List.mem_cons_of_mem _ List.mem_cons_self)).1)
    exact Or.inr (Or.inr ⟨this.1, this.2, w.1, w.2⟩)
theorem nu_M_near1 {d : Nat} (hd : 5 ≤ d) {M M' : pM} {v : Int} (hM : gM gAll M) (p0 : 1 ≤ M 60 0 ∧ M 60 0 ≤ 6) {n : Nat} (hn : n ≤ 11) (hc : M 60 16 = (n : Int)) (e : xF d 238 [.inr 62] M = rI v M') : (-2 ≤ v ∧ v ≤ -2 ∧ M' 60 16 = (n : Int)) ∨ (-3 ≤ v ∧ v ≤ -3 ∧ M' 60 16 = (n : Int)) ∨ (0 ≤ v ∧ v ≤ 999999 ∧ 0 ≤ M' 60 16 ∧ M' 60 16 ≤ 10) := by
  rcases (show n = 0 ∨ n = 1 ∨ n = 2 ∨ n = 3 ∨ n = 4 ∨ n = 5 ∨ n = 6 ∨ n = 7 ∨ n = 8 ∨ n = 9 ∨ n = 10 ∨ n = 11 by omega) with rfl | rfl | rfl | rfl | rfl | rfl | rfl | rfl | rfl | rfl | rfl | rfl
  · obtain ⟨z, M2, e2, r⟩ := nu_M_near1_0 (d := d) (by omega) hM p0 (by omega)
    obtain ⟨y1, y2⟩ := rI_inj (e.symm.trans e2)
    rw [y1, y2]
    rcases r with r | r | r
    · exact Or.inl (by omega)
    · exact Or.inr (Or.inl (by omega))
    · exact Or.inr (Or.inr ((by omega)))
  · obtain ⟨z, M2, e2, r⟩ := nu_M_near1_1 (d := d) (by omega) hM p0 (by omega)
    obtain ⟨y1, y2⟩ := rI_inj (e.symm.trans e2)
    rw [y1, y2]
    rcases r with r | r | r
    · exact Or.inl (by omega)
    · exact Or.inr (Or.inl (by omega))
    · exact Or.inr (Or.inr ((by omega)))
  · obtain ⟨z, M2, e2, r⟩ := nu_M_near1_2 (d := d) (by omega) hM p0 (by omega)
    obtain ⟨y1, y2⟩ := rI_inj (e.symm.trans e2)
    rw [y1, y2]
    rcases r with r | r | r
    · exact Or.inl (by omega)
    · exact Or.inr (Or.inl (by omega))
    · exact Or.inr (Or.inr ((by omega)))
  · obtain ⟨z, M2, e2, r⟩ := nu_M_near1_3 (d := d) (by omega) hM p0 (by omega)
    obtain ⟨y1, y2⟩ := rI_inj (e.symm.trans e2)
    rw [y1, y2]
    rcases r with r | r | r
    · exact Or.inl (by omega)
    · exact Or.inr (Or.inl (by omega))
    · exact Or.inr (Or.inr ((by omega)))
  · obtain ⟨z, M2, e2, r⟩ := nu_M_near1_4 (d := d) (by omega) hM p0 (by omega)
    obtain ⟨y1, y2⟩ := rI_inj (e.symm.trans e2)
    rw [y1, y2]
    rcases r with r | r | r
    · exact Or.inl (by omega)
    · exact Or.inr (Or.inl (by omega))
    · exact Or.inr (Or.inr ((by omega)))
  · obtain ⟨z, M2, e2, r⟩ := nu_M_near1_5 (d := d) (by omega) hM p0 (by omega)
    obtain ⟨y1, y2⟩ := rI_inj (e.symm.trans e2)
    rw [y1, y2]
    rcases r with r | r | r
    · exact Or.inl (by omega)
    · exact Or.inr (Or.inl (by omega))
    · exact Or.inr (Or.inr ((by omega)))
  · obtain ⟨z, M2, e2, r⟩ := nu_M_near1_6 (d := d) (by omega) hM p0 (by omega)
    obtain ⟨y1, y2⟩ := rI_inj (e.symm.trans e2)
    rw [y1, y2]
    rcases r with r | r | r
    · exact Or.inl (by omega)
    · exact Or.inr (Or.inl (by omega))
    · exact Or.inr (Or.inr ((by omega)))
  · obtain ⟨z, M2, e2, r⟩ := nu_M_near1_7 (d := d) (by omega) hM p0 (by omega)
    obtain ⟨y1, y2⟩ := rI_inj (e.symm.trans e2)
    rw [y1, y2]
    rcases r with r | r | r
    · exact Or.inl (by omega)
    · exact Or.inr (Or.inl (by omega))
    · exact Or.inr (Or.inr ((by omega)))
  · obtain ⟨z, M2, e2, r⟩ := nu_M_near1_8 (d := d) (by omega) hM p0 (by omega)
    obtain ⟨y1, y2⟩ := rI_inj (e.symm.trans e2)
    rw [y1, y2]
    rcases r with r | r | r
    · exact Or.inl (by omega)
    · exact Or.inr (Or.inl (by omega))
    · exact Or.inr (Or.inr ((by omega)))
  · obtain ⟨z, M2, e2, r⟩ := nu_M_near1_9 (d := d) (by omega) hM p0 (by omega)
    obtain ⟨y1, y2⟩ := rI_inj (e.symm.trans e2)
    rw [y1, y2]
    rcases r with r | r | r
    · exact Or.inl (by omega)
    · exact Or.inr (Or.inl (by omega))
    · exact Or.inr (Or.inr ((by omega)))
  · obtain ⟨z, M2, e2, r⟩ := nu_M_near1_10 (d := d) (by omega) hM p0 (by omega)
    obtain ⟨y1, y2⟩ := rI_inj (e.symm.trans e2)
    rw [y1, y2]
    rcases r with r | r | r
    · exact Or.inl (by omega)
    · exact Or.inr (Or.inl (by omega))
    · exact Or.inr (Or.inr ((by omega)))
  · obtain ⟨z, M2, e2, r⟩ := nu_M_near1_11 (d := d) (by omega) hM p0 (by omega)
    obtain ⟨y1, y2⟩ := rI_inj (e.symm.trans e2)
    rw [y1, y2]
    rcases r with r | r | r
    · exact Or.inl (by omega)
    · exact Or.inr (Or.inl (by omega))
    · exact Or.inr (Or.inr ((by omega)))
theorem nu_M_near0_0 {d : Nat} (hd : 5 ≤ d) {M : pM} (hM : gM gAll M) (p0 : 0 ≤ M 60 0 ∧ M 60 0 ≤ 0) (p1 : 0 ≤ M 60 3 ∧ M 60 3 ≤ 0) (p2 : 0 ≤ M 60 16 ∧ M 60 16 ≤ 0) : ∃ z M', xF d 238 [.inr 62] M = rI z M' ∧ ((-2 ≤ z ∧ z ≤ -2 ∧ 0 ≤ M' 60 16 ∧ M' 60 16 ≤ 0) ∨ (0 ≤ z ∧ z ≤ 999999 ∧ 0 ≤ M' 60 16 ∧ M' 60 16 ≤ 0)) := by
  have c0 : cOK gAll (xF d) 238 K_919 := (ct_of (d := d) ct_ok (show K_919 ∈ CT.getD 238 [] from (show CT.getD 238 [] = [K_919, K_921, K_923, K_925, K_927, K_929, K_931, K_933, K_935, K_937, K_939, K_941, K_551, K_1018, K_895, K_897, K_899, K_901, K_903, K_905, K_907, K_909, K_911, K_913, K_915, K_917, K_1024, K_1030, K_1036, K_1042, K_1048, K_1054, K_1060, K_1066, K_1072, K_1078, K_549] from rfl) ▸ by simp) hd)
  obtain ⟨z, M', e, -, -, alt, ha, q, p⟩ := cOK_I c0 (A := [.inr 62]) (show aF2 gW [aRef 62] [.inr 62] from ⟨gW_o, trivial⟩) hM (show gP0 [(60, 0, (0, 0, 0, 0, 0, 0)), (60, 3, (0, 0, 0, 0, 0, 0)), (60, 16, (0, 0, 0, 0, 0, 0))] M from fun e he => by
    simp only [List.mem_cons, List.not_mem_nil, or_false] at he
    rcases he with rfl | rfl | rfl
    · exact gR_i p0.1 p0.2
    · exact gR_i p1.1 p1.2
    · exact gR_i p2.1 p2.2) rfl
  refine ⟨z, M', e, ?_⟩
  have ha : alt ∈ [(some (0, -2, -2, 0, 0, 0), [], [(60, 0, (0, 0, 0, 0, 0, 0)), (60, 3, (0, 0, 0, 0, 0, 0)), (60, 16, (0, 0, 0, 0, 0, 0)), (60, 17, (0, 0, 0, 0, 0, 0)), (60, 30, (0, 0, 0, 0, 0, 0)), (60, 39, (0, 1, 1, 0, 0, 0)), (60, 40, (0, 0, 1000000, 0, 0, 0))]), (some (0, 0, 999999, 0, 0, 0), [], [(60, 0, (0, 0, 0, 0, 0, 0)), (60, 3, (0, 0, 0, 0, 0, 0)), (60, 16, (0, 0, 0, 0, 0, 0)), (60, 17, (0, 0, 0, 0, 0, 0)), (60, 30, (0, 0, 0, 0, 0, 0)), (60, 39, (0, 1, 1, 0, 0, 0)), (60, 40, (0, 0, 1000000, 0, 0, 0))])] := ha
  simp only [List.mem_cons, List.not_mem_nil, or_false] at ha
  rcases ha with rfl | rfl
  · obtain ⟨z2, e2, r⟩ := gW_int (show gW _ _ from q) (Nat.le_of_ble_eq_true rfl)
    cases e2
    have := gR0 r
    have w := gR0 (show gR (0, 0, 0, 0, 0, 0) (M' 60 16) from (p _ (List.mem_cons_of_mem _ (List.mem_cons_of_mem _ List.mem_cons_self))).1)
    exact Or.inl ⟨this.1, this.2, w.1, w.2⟩
  · obtain ⟨z2, e2, r⟩ := gW_int (show gW _ _ from q) (Nat.le_of_ble_eq_true rfl)
    cases e2
    have := gR0 r
    have w := gR0 (show gR (0, 0, 0, 0, 0, 0) (M' 60 16) from (p _ (List.mem_cons_of_mem _ (List.mem_cons_of_mem _ List.mem_cons_self))).1)
    exact Or.inr ⟨this.1, this.2, w.1, w.2⟩
theorem nu_M_near0_1 {d : Nat} (hd : 5 ≤ d) {M : pM} (hM : gM gAll M) (p0 : 0 ≤ M 60 0 ∧ M 60 0 ≤ 0) (p1 : 0 ≤ M 60 3 ∧ M 60 3 ≤ 0) (p2 : 1 ≤ M 60 16 ∧ M 60 16 ≤ 1) : ∃ z M', xF d 238 [.inr 62] M = rI z M' ∧ ((-2 ≤ z ∧ z ≤ -2 ∧ 1 ≤ M' 60 16 ∧ M' 60 16 ≤ 1) ∨ (0 ≤ z ∧ z ≤ 999999 ∧ 0 ≤ M' 60 16 ∧ M' 60 16 ≤ 0)) := by
  have c0 : cOK gAll (xF d) 238 K_921 := (ct_of (d := d) ct_ok (show K_921 ∈ CT.getD 238 [] from (show CT.getD 238 [] = [K_919, K_921, K_923, K_925, K_927, K_929, K_931, K_933, K_935, K_937, K_939, K_941, K_551, K_1018, K_895, K_897, K_899, K_901, K_903, K_905, K_907, K_909, K_911, K_913, K_915, K_917, K_1024, K_1030, K_1036, K_1042, K_1048, K_1054, K_1060, K_1066, K_1072, K_1078, K_549] from rfl) ▸ by simp) hd)
  obtain ⟨z, M', e, -, -, alt, ha, q, p⟩ := cOK_I c0 (A := [.inr 62]) (show aF2 gW [aRef 62] [.inr 62] from ⟨gW_o, trivial⟩) hM (show gP0 [(60, 0, (0, 0, 0, 0, 0, 0)), (60, 3, (0, 0, 0, 0, 0, 0)), (60, 16, (0, 1, 1, 0, 0, 0))] M from fun e he => by
    simp only [List.mem_cons, List.not_mem_nil, or_false] at he
    rcases he with rfl | rfl | rfl
    · exact gR_i p0.1 p0.2
    · exact gR_i p1.1 p1.2
    · exact gR_i p2.1 p2.2) rfl
  refine ⟨z, M', e, ?_⟩
  have ha : alt ∈ [(some (0, -2, -2, 0, 0, 0), [], [(60, 0, (0, 0, 0, 0, 0, 0)), (60, 3, (0, 0, 0, 0, 0, 0)), (60, 16, (0, 1, 1, 0, 0, 0)), (60, 17, (0, 0, 0, 0, 0, 0)), (60, 30, (0, 0, 0, 0, 0, 0)), (60, 39, (0, 1, 1, 0, 0, 0)), (60, 40, (0, 0, 1000000, 0, 0, 0))]), (some (0, 0, 999999, 0, 0, 0), [], [(60, 0, (0, 0, 0, 0, 0, 0)), (60, 3, (0, 0, 0, 0, 0, 0)), (60, 16, (0, 0, 0, 0, 0, 0)), (60, 17, (0, 0, 0, 0, 0, 0)), (60, 30, (0, 0, 0, 0, 0, 0)), (60, 39, (0, 1, 1, 0, 0, 0)), (60, 40, (0, 0, 1000000, 0, 0, 0))])] := ha
  simp only [List.mem_cons, List.not_mem_nil, or_false] at ha
  rcases ha with rfl | rfl
  · obtain ⟨z2, e2, r⟩ := gW_int (show gW _ _ from q) (Nat.le_of_ble_eq_true rfl)
    cases e2
    have := gR0 r
    have w := gR0 (show gR (0, 1, 1, 0, 0, 0) (M' 60 16) from (p _ (List.mem_cons_of_mem _ (List.mem_cons_of_mem _ List.mem_cons_self))).1)
    exact Or.inl ⟨this.1, this.2, w.1, w.2⟩
  · obtain ⟨z2, e2, r⟩ := gW_int (show gW _ _ from q) (Nat.le_of_ble_eq_true rfl)
    cases e2
    have := gR0 r
    have w := gR0 (show gR (0, 0, 0, 0, 0, 0) (M' 60 16) from (p _ (List.mem_cons_of_mem _ (List.mem_cons_of_mem _ List.mem_cons_self))).1)
    exact Or.inr ⟨this.1, this.2, w.1, w.2⟩
theorem nu_M_near0_2 {d : Nat} (hd : 5 ≤ d) {M : pM} (hM : gM gAll M) (p0 : 0 ≤ M 60 0 ∧ M 60 0 ≤ 0) (p1 : 0 ≤ M 60 3 ∧ M 60 3 ≤ 0) (p2 : 2 ≤ M 60 16 ∧ M 60 16 ≤ 2) : ∃ z M', xF d 238 [.inr 62] M = rI z M' ∧ ((-2 ≤ z ∧ z ≤ -2 ∧ 2 ≤ M' 60 16 ∧ M' 60 16 ≤ 2) ∨ (0 ≤ z ∧ z ≤ 999999 ∧ 0 ≤ M' 60 16 ∧ M' 60 16 ≤ 0)) := by
  have c0 : cOK gAll (xF d) 238 K_923 := (ct_of (d := d) ct_ok (show K_923 ∈ CT.getD 238 [] from (show CT.getD 238 [] = [K_919, K_921, K_923, K_925, K_927, K_929, K_931, K_933, K_935, K_937, K_939, K_941, K_551, K_1018, K_895, K_897, K_899, K_901, K_903, K_905, K_907, K_909, K_911, K_913, K_915, K_917, K_1024, K_1030, K_1036, K_1042, K_1048, K_1054, K_1060, K_1066, K_1072, K_1078, K_549] from rfl) ▸ by simp) hd)
  obtain ⟨z, M', e, -, -, alt, ha, q, p⟩ := cOK_I c0 (A := [.inr 62]) (show aF2 gW [aRef 62] [.inr 62] from ⟨gW_o, trivial⟩) hM (show gP0 [(60, 0, (0, 0, 0, 0, 0, 0)), (60, 3, (0, 0, 0, 0, 0, 0)), (60, 16, (0, 2, 2, 0, 0, 0))] M from fun e he => by
    simp only [List.mem_cons, List.not_mem_nil, or_false] at he
    rcases he with rfl | rfl | rfl
    · exact gR_i p0.1 p0.2
    · exact gR_i p1.1 p1.2
    · exact gR_i p2.1 p2.2) rfl
  refine ⟨z, M', e, ?_⟩
  have ha : alt ∈ [(some (0, -2, -2, 0, 0, 0), [], [(60, 0, (0, 0, 0, 0, 0, 0)), (60, 3, (0, 0, 0, 0, 0, 0)), (60, 16, (0, 2, 2, 0, 0, 0)), (60, 17, (0, 0, 0, 0, 0, 0)), (60, 30, (0, 0, 0, 0, 0, 0)), (60, 39, (0, 1, 1, 0, 0, 0)), (60, 40, (0, 0, 1000000, 0, 0, 0))]), (some (0, 0, 999999, 0, 0, 0), [], [(60, 0, (0, 0, 0, 0, 0, 0)), (60, 3, (0, 0, 0, 0, 0, 0)), (60, 16, (0, 0, 0, 0, 0, 0)), (60, 17, (0, 0, 0, 0, 0, 0)), (60, 30, (0, 0, 0, 0, 0, 0)), (60, 39, (0, 1, 1, 0, 0, 0)), (60, 40, (0, 0, 1000000, 0, 0, 0))])] := ha
  simp only [List.mem_cons, List.not_mem_nil, or_false] at ha
  rcases ha with rfl | rfl
  · obtain ⟨z2, e2, r⟩ := gW_int (show gW _ _ from q) (Nat.le_of_ble_eq_true rfl)
    cases e2
    have := gR0 r
    have w := gR0 (show gR (0, 2, 2, 0, 0, 0) (M' 60 16) from (p _ (List.mem_cons_of_mem _ (List.mem_cons_of_mem _ List.mem_cons_self))).1)
    exact Or.inl ⟨this.1, this.2, w.1, w.2⟩
  · obtain ⟨z2, e2, r⟩ := gW_int (show gW _ _ from q) (Nat.le_of_ble_eq_true rfl)
    cases e2
    have := gR0 r
    have w := gR0 (show gR (0, 0, 0, 0, 0, 0) (M' 60 16) from (p _ (List.mem_cons_of_mem _ (List.mem_cons_of_mem _ List.mem_cons_self))).1)
    exact Or.inr ⟨this.1, this.2, w.1, w.2⟩
theorem nu_M_near0_3 {d : Nat} (hd : 5 ≤ d) {M : pM} (hM : gM gAll M) (p0 : 0 ≤ M 60 0 ∧ M 60 0 ≤ 0) (p1 : 0 ≤ M 60 3 ∧ M 60 3 ≤ 0) (p2 : 3 ≤ M 60 16 ∧ M 60 16 ≤ 3) : ∃ z M', xF d 238 [.inr 62] M = rI z M' ∧ ((-2 ≤ z ∧ z ≤ -2 ∧ 3 ≤ M' 60 16 ∧ M' 60 16 ≤ 3) ∨ (0 ≤ z ∧ z ≤ 999999 ∧ 0 ≤ M' 60 16 ∧ M' 60 16 ≤ 0)) := by
  have c0 : cOK gAll (xF d) 238 K_925 := (ct_of (d := d) ct_ok (show K_925 ∈ CT.getD 238 [] from (show CT.getD 238 [] = [K_919, K_921, K_923, K_925, K_927, K_929, K_931, K_933, K_935, K_937, K_939, K_941, K_551, K_1018, K_895, K_897, K_899, K_901, K_903, K_905, K_907, K_909, K_911, K_913, K_915, K_917, K_1024, K_1030, K_1036, K_1042, K_1048, K_1054, K_1060, K_1066, K_1072, K_1078, K_549] from rfl) ▸ by simp) hd)
  obtain ⟨z, M', e, -, -, alt, ha, q, p⟩ := cOK_I c0 (A := [.inr 62]) (show aF2 gW [aRef 62] [.inr 62] from ⟨gW_o, trivial⟩) hM (show gP0 [(60, 0, (0, 0, 0, 0, 0, 0)), (60, 3, (0, 0, 0, 0, 0, 0)), (60, 16, (0, 3, 3, 0, 0, 0))] M from fun e he => by
    simp only [List.mem_cons, List.not_mem_nil, or_false] at he
    rcases he with rfl | rfl | rfl
    · exact gR_i p0.1 p0.2
    · exact gR_i p1.1 p1.2
    · exact gR_i p2.1 p2.2) rfl
  refine ⟨z, M', e, ?_⟩
  have ha : alt ∈ [(some (0, -2, -2, 0, 0, 0), [], [(60, 0, (0, 0, 0, 0, 0, 0)), (60, 3, (0, 0, 0, 0, 0, 0)), (60, 16, (0, 3, 3, 0, 0, 0)), (60, 17, (0, 0, 0, 0, 0, 0)), (60, 30, (0, 0, 0, 0, 0, 0)), (60, 39, (0, 1, 1, 0, 0, 0)), (60, 40, (0, 0, 1000000, 0, 0, 0))]), (some (0, 0, 999999, 0, 0, 0), [], [(60, 0, (0, 0, 0, 0, 0, 0)), (60, 3, (0, 0, 0, 0, 0, 0)), (60, 16, (0, 0, 0, 0, 0, 0)), (60, 17, (0, 0, 0, 0, 0, 0)), (60, 30, (0, 0, 0, 0, 0, 0)), (60, 39, (0, 1, 1, 0, 0, 0)), (60, 40, (0, 0, 1000000, 0, 0, 0))])] := ha
  simp only [List.mem_cons, List.not_mem_nil, or_false] at ha
  rcases ha with rfl | rfl
  · obtain ⟨z2, e2, r⟩ := gW_int (show gW _ _ from q) (Nat.le_of_ble_eq_true rfl)
    cases e2
    have := gR0 r
    have w := gR0 (show gR (0, 3, 3, 0, 0, 0) (M' 60 16) from (p _ (List.mem_cons_of_mem _ (List.mem_cons_of_mem _ List.mem_cons_self))).1)
    exact Or.inl ⟨this.1, this.2, w.1, w.2⟩
  · obtain ⟨z2, e2, r⟩ := gW_int (show gW _ _ from q) (Nat.le_of_ble_eq_true rfl)
    cases e2
    have := gR0 r
    have w := gR0 (show gR (0, 0, 0, 0, 0, 0) (M' 60 16) from (p _ (List.mem_cons_of_mem _ (List.mem_cons_of_mem _ List.mem_cons_self))).1)
    exact Or.inr ⟨this.1, this.2, w.1, w.2⟩
theorem nu_M_near0_4 {d : Nat} (hd : 5 ≤ d) {M : pM} (hM : gM gAll M) (p0 : 0 ≤ M 60 0 ∧ M 60 0 ≤ 0) (p1 : 0 ≤ M 60 3 ∧ M 60 3 ≤ 0) (p2 : 4 ≤ M 60 16 ∧ M 60 16 ≤ 4) : ∃ z M', xF d 238 [.inr 62] M = rI z M' ∧ ((-2 ≤ z ∧ z ≤ -2 ∧ 4 ≤ M' 60 16 ∧ M' 60 16 ≤ 4) ∨ (0 ≤ z ∧ z ≤ 999999 ∧ 0 ≤ M' 60 16 ∧ M' 60 16 ≤ 0)) := by
  have c0 : cOK gAll (xF d) 238 K_927 := (ct_of (d := d) ct_ok (show K_927 ∈ CT.getD 238 [] from (show CT.getD 238 [] = [K_919, K_921, K_923, K_925, K_927, K_929, K_931, K_933, K_935, K_937, K_939, K_941, K_551, K_1018, K_895, K_897, K_899, K_901, K_903, K_905, K_907, K_909, K_911, K_913, K_915, K_917, K_1024, K_1030, K_1036, K_1042, K_1048, K_1054, K_1060, K_1066, K_1072, K_1078, K_549] from rfl) ▸ by simp) hd)
  obtain ⟨z, M', e, -, -, alt, ha, q, p⟩ := cOK_I c0 (A := [.inr 62]) (show aF2 gW [aRef 62] [.inr 62] from ⟨gW_o, trivial⟩) hM (show gP0 [(60, 0, (0, 0, 0, 0, 0, 0)), (60, 3, (0, 0, 0, 0, 0, 0)), (60, 16, (0, 4, 4, 0, 0, 0))] M from fun e he => by
    simp only [List.mem_cons, List.not_mem_nil, or_false] at he
    rcases he with rfl | rfl | rfl
    · exact gR_i p0.1 p0.2
    · exact gR_i p1.1 p1.2
    · exact gR_i p2.1 p2.2) rfl
  refine ⟨z, M', e, ?_⟩
  have ha : alt ∈ [(some (0, -2, -2, 0, 0, 0), [], [(60, 0, (0, 0, 0, 0, 0, 0)), (60, 3, (0, 0, 0, 0, 0, 0)), (60, 16, (0, 4, 4, 0, 0, 0)), (60, 17, (0, 0, 0, 0, 0, 0)), (60, 30, (0, 0, 0, 0, 0, 0)), (60, 39, (0, 1, 1, 0, 0, 0)), (60, 40, (0, 0, 1000000, 0, 0, 0))]), (some (0, 0, 999999, 0, 0, 0), [], [(60, 0, (0, 0, 0, 0, 0, 0)), (60, 3, (0, 0, 0, 0, 0, 0)), (60, 16, (0, 0, 0, 0, 0, 0)), (60, 17, (0, 0, 0, 0, 0, 0)), (60, 30, (0, 0, 0, 0, 0, 0)), (60, 39, (0, 1, 1, 0, 0, 0)), (60, 40, (0, 0, 1000000, 0, 0, 0))])] := ha
  simp only [List.mem_cons, List.not_mem_nil, or_false] at ha
  rcases ha with rfl | rfl
  · obtain ⟨z2, e2, r⟩ := gW_int (show gW _ _ from q) (Nat.le_of_ble_eq_true rfl)
    cases e2
    have := gR0 r
    have w := gR0 (show gR (0, 4, 4, 0, 0, 0) (M' 60 16) from (p _ (List.mem_cons_of_mem _ (List.mem_cons_of_mem _ List.mem_cons_self))).1)
    exact Or.inl ⟨this.1, this.2, w.1, w.2⟩
  · obtain ⟨z2, e2, r⟩ := gW_int (show gW _ _ from q) (Nat.le_of_ble_eq_true rfl)
    cases e2
    have := gR0 r
    have w := gR0 (show gR (0, 0, 0, 0, 0, 0) (M' 60 16) from (p _ (List.mem_cons_of_mem _ (List.mem_cons_of_mem _ List.mem_cons_self))).1)
    exact Or.inr ⟨this.1, this.2, w.1, w.2⟩
theorem nu_M_near0_5 {d : Nat} (hd : 5 ≤ d) {M : pM} (hM : gM gAll M) (p0 : 0 ≤ M 60 0 ∧ M 60 0 ≤ 0) (p1 : 0 ≤ M 60 3 ∧ M 60 3 ≤ 0) (p2 : 5 ≤ M 60 16 ∧ M 60 16 ≤ 5) : ∃ z M', xF d 238 [.inr 62] M = rI z M' ∧ ((-2 ≤ z ∧ z ≤ -2 ∧ 5 ≤ M' 60 16 ∧ M' 60 16 ≤ 5) ∨ (0 ≤ z ∧ z ≤ 999999 ∧ 0 ≤ M' 60 16 ∧ M' 60 16 ≤ 0)) := by
  have c0 : cOK gAll (xF d) 238 K_929 := (ct_of (d := d) ct_ok (show K_929 ∈ CT.getD 238 [] from (show CT.getD 238 [] = [K_919, K_921, K_923, K_925, K_927, K_929, K_931, K_933, K_935, K_937, K_939, K_941, K_551, K_1018, K_895, K_897, K_899, K_901, K_903, K_905, K_907, K_909, K_911, K_913, K_915, K_917, K_1024, K_1030, K_1036, K_1042, K_1048, K_1054, K_1060, K_1066, K_1072, K_1078, K_549] from rfl) ▸ by simp) hd)
  obtain ⟨z, M', e, -, -, alt, ha, q, p⟩ := cOK_I c0 (A := [.inr 62]) (show aF2 gW [aRef 62] [.inr 62] from ⟨gW_o, trivial⟩) hM (show gP0 [(60, 0, (0, 0, 0, 0, 0, 0)), (60, 3, (0, 0, 0, 0, 0, 0)), (60, 16, (0, 5, 5, 0, 0, 0))] M from fun e he => by
    simp only [List.mem_cons, List.not_mem_nil, or_false] at he
    rcases he with rfl | rfl | rfl
    · exact gR_i p0.1 p0.2
    · exact gR_i p1.1 p1.2
    · exact gR_i p2.1 p2.2) rfl
  refine ⟨z, M', e, ?_⟩
  have ha : alt ∈ [(some (0, -2, -2, 0, 0, 0), [], [(60, 0, (0, 0, 0, 0, 0, 0)), (60, 3, (0, 0, 0, 0, 0, 0)), (60, 16, (0, 5, 5, 0, 0, 0)), (60, 17, (0, 0, 0, 0, 0, 0)), (60, 30, (0, 0, 0, 0, 0, 0)), (60, 39, (0, 1, 1, 0, 0, 0)), (60, 40, (0, 0, 1000000, 0, 0, 0))]), (some (0, 0, 999999, 0, 0, 0), [], [(60, 0, (0, 0, 0, 0, 0, 0)), (60, 3, (0, 0, 0, 0, 0, 0)), (60, 16, (0, 0, 0, 0, 0, 0)), (60, 17, (0, 0, 0, 0, 0, 0)), (60, 30, (0, 0, 0, 0, 0, 0)), (60, 39, (0, 1, 1, 0, 0, 0)), (60, 40, (0, 0, 1000000, 0, 0, 0))])] := ha
  simp only [List.mem_cons, List.not_mem_nil, or_false] at ha
  rcases ha with rfl | rfl
  · obtain ⟨z2, e2, r⟩ := gW_int (show gW _ _ from q) (Nat.le_of_ble_eq_true rfl)
    cases e2
    have := gR0 r
    have w := gR0 (show gR (0, 5, 5, 0, 0, 0) (M' 60 16) from (p _ (List.mem_cons_of_mem _ (List.mem_cons_of_mem _ List.mem_cons_self))).1)
    exact Or.inl ⟨this.1, this.2, w.1, w.2⟩
  · obtain ⟨z2, e2, r⟩ := gW_int (show gW _ _ from q) (Nat.le_of_ble_eq_true rfl)
    cases e2
    have := gR0 r
    have w := gR0 (show gR (0, 0, 0, 0, 0, 0) (M' 60 16) from (p _ (List.mem_cons_of_mem _ (List.mem_cons_of_mem _ List.mem_cons_self))).1)
    exact Or.inr ⟨this.1, this.2, w.1, w.2⟩
theorem nu_M_near0_6 {d : Nat} (hd : 5 ≤ d) {M : pM} (hM : gM gAll M) (p0 : 0 ≤ M 60 0 ∧ M 60 0 ≤ 0) (p1 : 0 ≤ M 60 3 ∧ M 60 3 ≤ 0) (p2 : 6 ≤ M 60 16 ∧ M 60 16 ≤ 6) : ∃ z M', xF d 238 [.inr 62] M = rI z M' ∧ ((-2 ≤ z ∧ z ≤ -2 ∧ 6 ≤ M' 60 16 ∧ M' 60 16 ≤ 6) ∨ (0 ≤ z ∧ z ≤ 999999 ∧ 0 ≤ M' 60 16 ∧ M' 60 16 ≤ 0)) := by
  have c0 : cOK gAll (xF d) 238 K_931 := (ct_of (d := d) ct_ok (show K_931 ∈ CT.getD 238 [] from (show CT.getD 238 [] = [K_919, K_921, K_923, K_925, K_927, K_929, K_931, K_933, K_935, K_937, K_939, K_941, K_551, K_1018, K_895, K_897, K_899, K_901, K_903, K_905, K_907, K_909, K_911, K_913, K_915, K_917, K_1024, K_1030, K_1036, K_1042, K_1048, K_1054, K_1060, K_1066, K_1072, K_1078, K_549] from rfl) ▸ by simp) hd)
  obtain ⟨z, M', e, -, -, alt, ha, q, p⟩ := cOK_I c0 (A := [.inr 62]) (show aF2 gW [aRef 62] [.inr 62] from ⟨gW_o, trivial⟩) hM (show gP0 [(60, 0, (0, 0, 0, 0, 0, 0)), (60, 3, (0, 0, 0, 0, 0, 0)), (60, 16, (0, 6, 6, 0, 0, 0))] M from fun e he => by
    simp only [List.mem_cons, List.not_mem_nil, or_false] at he
    rcases he with rfl | rfl | rfl
    · exact gR_i p0.1 p0.2
    · exact gR_i p1.1 p1.2
    · exact gR_i p2.1 p2.2) rfl
  refine ⟨z, M', e, ?_⟩
  have ha : alt ∈ [(some (0, -2, -2, 0, 0, 0), [], [(60, 0, (0, 0, 0, 0, 0, 0)), (60, 3, (0, 0, 0, 0, 0, 0)), (60, 16, (0, 6, 6, 0, 0, 0)), (60, 17, (0, 0, 0, 0, 0, 0)), (60, 30, (0, 0, 0, 0, 0, 0)), (60, 39, (0, 1, 1, 0, 0, 0)), (60, 40, (0, 0, 1000000, 0, 0, 0))]), (some (0, 0, 999999, 0, 0, 0), [], [(60, 0, (0, 0, 0, 0, 0, 0)), (60, 3, (0, 0, 0, 0, 0, 0)), (60, 16, (0, 0, 0, 0, 0, 0)), (60, 17, (0, 0, 0, 0, 0, 0)), (60, 30, (0, 0, 0, 0, 0, 0)), (60, 39, (0, 1, 1, 0, 0, 0)), (60, 40, (0, 0, 1000000, 0, 0, 0))])] := ha
  simp only [List.mem_cons, List.not_mem_nil, or_false] at ha
  rcases ha with rfl | rfl
  · obtain ⟨z2, e2, r⟩ := gW_int (show gW _ _ from q) (Nat.le_of_ble_eq_true rfl)
    cases e2
    have := gR0 r
    have w := gR0 (show gR (0, 6, 6, 0, 0, 0) (M' 60 16) from (p _ (List.mem_cons_of_mem _ (List.mem_cons_of_mem _ List.mem_cons_self))).1)
    exact Or.inl ⟨this.1, this.2, w.1, w.2⟩
  · obtain ⟨z2, e2, r⟩ := gW_int (show gW _ _ from q) (Nat.le_of_ble_eq_true rfl)
    cases e2
    have := gR0 r
    have w := gR0 (show gR (0, 0, 0, 0, 0, 0) (M' 60 16) from (p _ (List.mem_cons_of_mem _ (List.mem_cons_of_mem _ List.mem_cons_self))).1)
    exact Or.inr ⟨this.1, this.2, w.1, w.2⟩
theorem nu_M_near0_7 {d : Nat} (hd : 5 ≤ d) {M : pM} (hM : gM gAll M) (p0 : 0 ≤ M 60 0 ∧ M 60 0 ≤ 0) (p1 : 0 ≤ M 60 3 ∧ M 60 3 ≤ 0) (p2 : 7 ≤ M 60 16 ∧ M 60 16 ≤ 7) : ∃ z M', xF d 238 [.inr 62] M = rI z M' ∧ ((-2 ≤ z ∧ z ≤ -2 ∧ 7 ≤ M' 60 16 ∧ M' 60 16 ≤ 7) ∨ (0 ≤ z ∧ z ≤ 999999 ∧ 0 ≤ M' 60 16 ∧ M' 60 16 ≤ 0)) := by
  have c0 : cOK gAll (xF d) 238 K_933 := (ct_of (d := d) ct_ok (show K_933 ∈ CT.getD 238 [] from (show CT.getD 238 [] = [K_919, K_921, K_923, K_925, K_927, K_929, K_931, K_933, K_935, K_937, K_939, K_941, K_551, K_1018, K_895, K_897, K_899, K_901, K_903, K_905, K_907, K_909, K_911, K_913, K_915, K_917, K_1024, K_1030, K_1036, K_1042, K_1048, K_1054, K_1060, K_1066, K_1072, K_1078, K_549] from rfl) ▸ by simp) hd)
  obtain ⟨z, M', e, -, -, alt, ha, q, p⟩ := cOK_I c0 (A := [.inr 62]) (show aF2 gW [aRef 62] [.inr 62] from ⟨gW_o, trivial⟩) hM (show gP0 [(60, 0, (0, 0, 0, 0, 0, 0)), (60, 3, (0, 0, 0, 0, 0, 0)), (60, 16, (0, 7, 7, 0, 0, 0))] M from fun e he => by
    simp only [List.mem_cons, List.not_mem_nil, or_false] at he
    rcases he with rfl | rfl | rfl
    · exact gR_i p0.1 p0.2
    · exact gR_i p1.1 p1.2
    · exact gR_i p2.1 p2.2) rfl
  refine ⟨z, M', e, ?_⟩
  have ha : alt ∈ [(some (0, -2, -2, 0, 0, 0), [], [(60, 0, (0, 0, 0, 0, 0, 0)), (60, 3, (0, 0, 0, 0, 0, 0)), (60, 16, (0, 7, 7, 0, 0, 0)), (60, 17, (0, 0, 0, 0, 0, 0)), (60, 30, (0, 0, 0, 0, 0, 0)), (60, 39, (0, 1, 1, 0, 0, 0)), (60, 40, (0, 0, 1000000, 0, 0, 0))]), (some (0, 0, 999999, 0, 0, 0), [], [(60, 0, (0, 0, 0, 0, 0, 0)), (60, 3, (0, 0, 0, 0, 0, 0)), (60, 16, (0, 0, 0, 0, 0, 0)), (60, 17, (0, 0, 0, 0, 0, 0)), (60, 30, (0, 0, 0, 0, 0, 0)), (60, 39, (0, 1, 1, 0, 0, 0)), (60, 40, (0, 0, 1000000, 0, 0, 0))])] := ha
  simp only [List.mem_cons, List.not_mem_nil, or_false] at ha
  rcases ha with rfl | rfl
  · obtain ⟨z2, e2, r⟩ := gW_int (show gW _ _ from q) (Nat.le_of_ble_eq_true rfl)
    cases e2
    have := gR0 r
    have w := gR0 (show gR (0, 7, 7, 0, 0, 0) (M' 60 16) from (p _ (List.mem_cons_of_mem _ (List.mem_cons_of_mem _ List.mem_cons_self))).1)
    exact Or.inl ⟨this.1, this.2, w.1, w.2⟩
  · obtain ⟨z2, e2, r⟩ := gW_int (show gW _ _ from q) (Nat.le_of_ble_eq_true rfl)
    cases e2
    have := gR0 r
    have w := gR0 (show gR (0, 0, 0, 0, 0, 0) (M' 60 16) from (p _ (List.mem_cons_of_mem _ (List.mem_cons_of_mem _ List.mem_cons_self))).1)
    exact Or.inr ⟨this.1, this.2, w.1, w.2⟩
theorem nu_M_near0_8 {d : Nat} (hd : 5 ≤ d) {M : pM} (hM : gM gAll M) (p0 : 0 ≤ M 60 0 ∧ M 60 0 ≤ 0) (p1 : 0 ≤ M 60 3 ∧ M 60 3 ≤ 0) (p2 : 8 ≤ M 60 16 ∧ M 60 16 ≤ 8) : ∃ z M', xF d 238 [.inr 62] M = rI z M' ∧ ((-2 ≤ z ∧ z ≤ -2 ∧ 8 ≤ M' 60 16 ∧ M' 60 16 ≤ 8) ∨ (0 ≤ z ∧ z ≤ 999999 ∧ 0 ≤ M' 60 16 ∧ M' 60 16 ≤ 0)) := by
  have c0 : cOK gAll (xF d) 238 K_935 := (ct_of (d := d) ct_ok (show K_935 ∈ CT.getD 238 [] from (show CT.getD 238 [] = [K_919, K_921, K_923, K_925, K_927, K_929, K_931, K_933, K_935, K_937, K_939, K_941, K_551, K_1018, K_895, K_897, K_899, K_901, K_903, K_905, K_907, K_909, K_911, K_913, K_915, K_917, K_1024, K_1030, K_1036, K_1042, K_1048, K_1054, K_1060, K_1066, K_1072, K_1078, K_549] from rfl) ▸ by simp) hd)
  obtain ⟨z, M', e, -, -, alt, ha, q, p⟩ := cOK_I c0 (A := [.inr 62]) (show aF2 gW [aRef 62] [.inr 62] from ⟨gW_o, trivial⟩) hM (show gP0 [(60, 0, (0, 0, 0, 0, 0, 0)), (60, 3, (0, 0, 0, 0, 0, 0)), (60, 16, (0, 8, 8, 0, 0, 0))] M from fun e he => by
    simp only [List.mem_cons, List.not_mem_nil, or_false] at he
    rcases he with rfl | rfl | rfl
    · exact gR_i p0.1 p0.2
    · exact gR_i p1.1 p1.2
    · exact gR_i p2.1 p2.2) rfl
  refine ⟨z, M', e, ?_⟩
  have ha : alt ∈ [(some (0, -2, -2, 0, 0, 0), [], [(60, 0, (0, 0, 0, 0, 0, 0)), (60, 3, (0, 0, 0, 0, 0, 0)), (60, 16, (0, 8, 8, 0, 0, 0)), (60, 17, (0, 0, 0, 0, 0, 0)), (60, 30, (0, 0, 0, 0, 0, 0)), (60, 39, (0, 1, 1, 0, 0, 0)), (60, 40, (0, 0, 1000000, 0, 0, 0))]), (some (0, 0, 999999, 0, 0, 0), [], [(60, 0, (0, 0, 0, 0, 0, 0)), (60, 3, (0, 0, 0, 0, 0, 0)), (60, 16, (0, 0, 0, 0, 0, 0)), (60, 17, (0, 0, 0, 0, 0, 0)), (60, 30, (0, 0, 0, 0, 0, 0)), (60, 39, (0, 1, 1, 0, 0, 0)), (60, 40, (0, 0, 1000000, 0, 0, 0))])] := ha
  simp only [List.mem_cons, List.not_mem_nil, or_false] at ha
  rcases ha with rfl | rfl
  · obtain ⟨z2, e2, r⟩ := gW_int (show gW _ _ from q) (Nat.le_of_ble_eq_true rfl)
    cases e2
    have := gR0 r
    have w := gR0 (show gR (0, 8, 8, 0, 0, 0) (M' 60 16) from (p _ (List.mem_cons_of_mem _ (List.mem_cons_of_mem _ List.mem_cons_self))).1)
    exact Or.inl ⟨this.1, this.2, w.1, w.2⟩
  · obtain ⟨z2, e2, r⟩ := gW_int (show gW _ _ from q) (Nat.le_of_ble_eq_true rfl)
    cases e2
    have := gR0 r
    have w := gR0 (show gR (0, 0, 0, 0, 0, 0) (M' 60 16) from (p _ (List.mem_cons_of_mem _ (List.mem_cons_of_mem _ List.mem_cons_self))).1)
    exact Or.inr ⟨this.1, this.2, w.1, w.2⟩
theorem nu_M_near0_9 {d : Nat} (hd : 5 ≤ d) {M : pM} (hM : gM gAll M) (p0 : 0 ≤ M 60 0 ∧ M 60 0 ≤ 0) (p1 : 0 ≤ M 60 3 ∧ M 60 3 ≤ 0) (p2 : 9 ≤ M 60 16 ∧ M 60 16 ≤ 9) : ∃ z M', xF d 238 [.inr 62] M = rI z M' ∧ ((-2 ≤ z ∧ z ≤ -2 ∧ 9 ≤ M' 60 16 ∧ M' 60 16 ≤ 9) ∨ (0 ≤ z ∧ z ≤ 999999 ∧ 0 ≤ M' 60 16 ∧ M' 60 16 ≤ 0)) := by
  have c0 : cOK gAll (xF d) 238 K_937 := (ct_of (d := d) ct_ok (show K_937 ∈ CT.getD 238 [] from (show CT.getD 238 [] = [K_919, K_921, K_923, K_925, K_927, K_929, K_931, K_933, K_935, K_937, K_939, K_941, K_551, K_1018, K_895, K_897, K_899, K_901, K_903, K_905, K_907, K_909, K_911, K_913, K_915, K_917, K_1024, K_1030, K_1036, K_1042, K_1048, K_1054, K_1060, K_1066, K_1072, K_1078, K_549] from rfl) ▸ by simp) hd)
  obtain ⟨z, M', e, -, -, alt, ha, q, p⟩ := cOK_I c0 (A := [.inr 62]) (show aF2 gW [aRef 62] [.inr 62] from ⟨gW_o, trivial⟩) hM (show gP0 [(60, 0, (0, 0, 0, 0, 0, 0)), (60, 3, (0, 0, 0, 0, 0, 0)), (60, 16, (0, 9, 9, 0, 0, 0))] M from fun e he => by
    simp only [List.mem_cons, List.not_mem_nil, or_false] at he
    rcases he with rfl | rfl | rfl
    · exact gR_i p0.1 p0.2
    · exact gR_i p1.1 p1.2
    · exact gR_i p2.1 p2.2) rfl
  refine ⟨z, M', e, ?_⟩
  have ha : alt ∈ [(some (0, -2, -2, 0, 0, 0), [], [(60, 0, (0, 0, 0, 0, 0, 0)), (60, 3, (0, 0, 0, 0, 0, 0)), (60, 16, (0, 9, 9, 0, 0, 0)), (60, 17, (0, 0, 0, 0, 0, 0)), (60, 30, (0, 0, 0, 0, 0, 0)), (60, 39, (0, 1, 1, 0, 0, 0)), (60, 40, (0, 0, 1000000, 0, 0, 0))]), (some (0, 0, 999999, 0, 0, 0), [], [(60, 0, (0, 0, 0, 0, 0, 0)), (60, 3, (0, 0, 0, 0, 0, 0)), (60, 16, (0, 0, 0, 0, 0, 0)), (60, 17, (0, 0, 0, 0, 0, 0)), (60, 30, (0, 0, 0, 0, 0, 0)), (60, 39, (0, 1, 1, 0, 0, 0)), (60, 40, (0, 0, 1000000, 0, 0, 0))])] := ha
  simp only [List.mem_cons, List.not_mem_nil, or_false] at ha
  rcases ha with rfl | rfl
  · obtain ⟨z2, e2, r⟩ := gW_int (show gW _ _ from q) (Nat.le_of_ble_eq_true rfl)
    cases e2
    have := gR0 r
    have w := gR0 (show gR (0, 9, 9, 0, 0, 0) (M' 60 16) from (p _ (List.mem_cons_of_mem _ (List.mem_cons_of_mem _ List.mem_cons_self))).1)
    exact Or.inl ⟨this.1, this.2, w.1, w.2⟩
  · obtain ⟨z2, e2, r⟩ := gW_int (show gW _ _ from q) (Nat.le_of_ble_eq_true rfl)
    cases e2
    have := gR0 r
    have w := gR0 (show gR (0, 0, 0, 0, 0, 0) (M' 60 16) from (p _ (List.mem_cons_of_mem _ (List.mem_cons_of_mem _ List.mem_cons_self))).1)
    exact Or.inr ⟨this.1, this.2, w.1, w.2⟩
theorem nu_M_near0_10 {d : Nat} (hd : 5 ≤ d) {M : pM} (hM : gM gAll M) (p0 : 0 ≤ M 60 0 ∧ M 60 0 ≤ 0) (p1 : 0 ≤ M 60 3 ∧ M 60 3 ≤ 0) (p2 : 10 ≤ M 60 16 ∧ M 60 16 ≤ 10) : ∃ z M', xF d 238 [.inr 62] M = rI z M' ∧ ((-2 ≤ z ∧ z ≤ -2 ∧ 10 ≤ M' 60 16 ∧ M' 60 16 ≤ 10) ∨ (0 ≤ z ∧ z ≤ 999999 ∧ 0 ≤ M' 60 16 ∧ M' 60 16 ≤ 0)) := by
  have c0 : cOK gAll (xF d) 238 K_939 := (ct_of (d := d) ct_ok (show K_939 ∈ CT.getD 238 [] from (show CT.getD 238 [] = [K_919, K_921, K_923, K_925, K_927, K_929, K_931, K_933, K_935, K_937, K_939, K_941, K_551, K_1018, K_895, K_897, K_899, K_901, K_903, K_905, K_907, K_909, K_911, K_913, K_915, K_917, K_1024, K_1030, K_1036, K_1042, K_1048, K_1054, K_1060, K_1066, K_1072, K_1078, K_549] from rfl) ▸ by simp) hd)
  obtain ⟨z, M', e, -, -, alt, ha, q, p⟩ := cOK_I c0 (A := [.inr 62]) (show aF2 gW [aRef 62] [.inr 62] from ⟨gW_o, trivial⟩) hM (show gP0 [(60, 0, (0, 0, 0, 0, 0, 0)), (60, 3, (0, 0, 0, 0, 0, 0)), (60, 16, (0, 10, 10, 0, 0, 0))] M from fun e he => by
    simp only [List.mem_cons, List.not_mem_nil, or_false] at he
    rcases he with rfl | rfl | rfl
    · exact gR_i p0.1 p0.2
    · exact gR_i p1.1 p1.2
    · exact gR_i p2.1 p2.2) rfl
  refine ⟨z, M', e, ?_⟩
  have ha : alt ∈ [(some (0, -2, -2, 0, 0, 0), [], [(60, 0, (0, 0, 0, 0, 0, 0)), (60, 3, (0, 0, 0, 0, 0, 0)), (60, 16, (0, 10, 10, 0, 0, 0)), (60, 17, (0, 0, 0, 0, 0, 0)), (60, 30, (0, 0, 0, 0, 0, 0)), (60, 39, (0, 1, 1, 0, 0, 0)), (60, 40, (0, 0, 1000000, 0, 0, 0))]), (some (0, 0, 999999, 0, 0, 0), [], [(60, 0, (0, 0, 0, 0, 0, 0)), (60, 3, (0, 0, 0, 0, 0, 0)), (60, 16, (0, 0, 0, 0, 0, 0)), (60, 17, (0, 0, 0, 0, 0, 0)), (60, 30, (0, 0, 0, 0, 0, 0)), (60, 39, (0, 1, 1, 0, 0, 0)), (60, 40, (0, 0, 1000000, 0, 0, 0))])] := ha
  simp only [List.mem_cons, List.not_mem_nil, or_false] at ha
  rcases ha with rfl | rfl
  · obtain ⟨z2, e2, r⟩ := gW_int (show gW _ _ from q) (Nat.le_of_ble_eq_true rfl)
    cases e2
    have := gR0 r
    have w := gR0 (show gR (0, 10, 10, 0, 0, 0) (M' 60 16) from (p _ (List.mem_cons_of_mem _ (List.mem_cons_of_mem _ List.mem_cons_self))).1)
    exact Or.inl ⟨this.1, this.2, w.1, w.2⟩
  · obtain ⟨z2, e2, r⟩ := gW_int (show gW _ _ from q) (Nat.le_of_ble_eq_true rfl)
    cases e2
    have := gR0 r
    have w := gR0 (show gR (0, 0, 0, 0, 0, 0) (M' 60 16) from (p _ (List.mem_cons_of_mem _ (List.mem_cons_of_mem _ List.mem_cons_self))).1)
    exact Or.inr ⟨this.1, this.2, w.1, w.2⟩
theorem nu_M_near0_11 {d : Nat} (hd : 5 ≤ d) {M : pM} (hM : gM gAll M) (p0 : 0 ≤ M 60 0 ∧ M 60 0 ≤ 0) (p1 : 0 ≤ M 60 3 ∧ M 60 3 ≤ 0) (p2 : 11 ≤ M 60 16 ∧ M 60 16 ≤ 11) : ∃ z M', xF d 238 [.inr 62] M = rI z M' ∧ ((-2 ≤ z ∧ z ≤ -2 ∧ 11 ≤ M' 60 16 ∧ M' 60 16 ≤ 11) ∨ (0 ≤ z ∧ z ≤ 999999 ∧ 0 ≤ M' 60 16 ∧ M' 60 16 ≤ 0)) := by
  have c0 : cOK gAll (xF d) 238 K_941 := (ct_of (d := d) ct_ok (show K_941 ∈ CT.getD 238 [] from (show CT.getD 238 [] = [K_919, K_921, K_923, K_925, K_927, K_929, K_931, K_933, K_935, K_937, K_939, K_941, K_551, K_1018, K_895, K_897, K_899, K_901, K_903, K_905, K_907, K_909, K_911, K_913, K_915, K_917, K_1024, K_1030, K_1036, K_1042, K_1048, K_1054, K_1060, K_1066, K_1072, K_1078, K_549] from rfl) ▸ by simp) hd)
  obtain ⟨z, M', e, -, -, alt, ha, q, p⟩ := cOK_I c0 (A := [.inr 62]) (show aF2 gW [aRef 62] [.inr 62] from ⟨gW_o, trivial⟩) hM (show gP0 [(60, 0, (0, 0, 0, 0, 0, 0)), (60, 3, (0, 0, 0, 0, 0, 0)), (60, 16, (0, 11, 11, 0, 0, 0))] M from fun e he => by
    simp only [List.mem_cons, List.not_mem_nil, or_false] at he
    rcases he with rfl | rfl | rfl
    · exact gR_i p0.1 p0.2
    · exact gR_i p1.1 p1.2
    · exact gR_i p2.1 p2.2) rfl
  refine ⟨z, M', e, ?_⟩
  have ha : alt ∈ [(some (0, -2, -2, 0, 0, 0), [], [(60, 0, (0, 0, 0, 0, 0, 0)), (60, 3, (0, 0, 0, 0, 0, 0)), (60, 16, (0, 11, 11, 0, 0, 0)), (60, 17, (0, 0, 0, 0, 0, 0)), (60, 30, (0, 0, 0, 0, 0, 0)), (60, 39, (0, 1, 1, 0, 0, 0)), (60, 40, (0, 0, 1000000, 0, 0, 0))]), (some (0, 0, 999999, 0, 0, 0), [], [(60, 0, (0, 0, 0, 0, 0, 0)), (60, 3, (0, 0, 0, 0, 0, 0)), (60, 16, (0, 0, 0, 0, 0, 0)), (60, 17, (0, 0, 0, 0, 0, 0)), (60, 30, (0, 0, 0, 0, 0, 0)), (60, 39, (0, 1, 1, 0, 0, 0)), (60, 40, (0, 0, 1000000, 0, 0, 0))])] := ha
  simp only [List.mem_cons, List.not_mem_nil, or_false] at ha
  rcases ha with rfl | rfl
  · obtain ⟨z2, e2, r⟩ := gW_int (show gW _ _ from q) (Nat.le_of_ble_eq_true rfl)
    cases e2
    have := gR0 r
    have w := gR0 (show gR (0, 11, 11, 0, 0, 0) (M' 60 16) from (p _ (List.mem_cons_of_mem _ (List.mem_cons_of_mem _ List.mem_cons_self))).1)
    exact Or.inl ⟨this.1, this.2, w.1, w.2⟩
  · obtain ⟨z2, e2, r⟩ := gW_int (show gW _ _ from q) (Nat.le_of_ble_eq_true rfl)
    cases e2
    have := gR0 r
    have w := gR0 (show gR (0, 0, 0, 0, 0, 0) (M' 60 16) from (p _ (List.mem_cons_of_mem _ (List.mem_cons_of_mem _ List.mem_cons_self))).1)
    exact Or.inr ⟨this.1, this.2, w.1, w.2⟩
theorem nu_M_near0 {d : Nat} (hd : 5 ≤ d) {M M' : pM} {v : Int} (hM : gM gAll M) (p0 : 0 ≤ M 60 0 ∧ M 60 0 ≤ 0) (p1 : 0 ≤ M 60 3 ∧ M 60 3 ≤ 0) {n : Nat} (hn : n ≤ 11) (hc : M 60 16 = (n : Int)) (e : xF d 238 [.inr 62] M = rI v M') : (-2 ≤ v ∧ v ≤ -2 ∧ M' 60 16 = (n : Int)) ∨ (0 ≤ v ∧ v ≤ 999999 ∧ M' 60 16 = 0) := by
  rcases (show n = 0 ∨ n = 1 ∨ n = 2 ∨ n = 3 ∨ n = 4 ∨ n = 5 ∨ n = 6 ∨ n = 7 ∨ n = 8 ∨ n = 9 ∨ n = 10 ∨ n = 11 by omega) with rfl | rfl | rfl | rfl | rfl | rfl | rfl | rfl | rfl | rfl | rfl | rfl
  · obtain ⟨z, M2, e2, r⟩ := nu_M_near0_0 (d := d) (by omega) hM p0 p1 (by omega)
    obtain ⟨y1, y2⟩ := rI_inj (e.symm.trans e2)
    rw [y1, y2]
    rcases r with r | r
    · exact Or.inl (by omega)
    · exact Or.inr ((by omega))
  · obtain ⟨z, M2, e2, r⟩ := nu_M_near0_1 (d := d) (by omega) hM p0 p1 (by omega)
    obtain ⟨y1, y2⟩ := rI_inj (e.symm.trans e2)
    rw [y1, y2]
    rcases r with r | r
    · exact Or.inl (by omega)
    · exact Or.inr ((by omega))
  · obtain ⟨z, M2, e2, r⟩ := nu_M_near0_2 (d := d) (by omega) hM p0 p1 (by omega)
    obtain ⟨y1, y2⟩ := rI_inj (e.symm.trans e2)
    rw [y1, y2]
    rcases r with r | r
    · exact Or.inl (by omega)
    · exact Or.inr ((by omega))
  · obtain ⟨z, M2, e2, r⟩ := nu_M_near0_3 (d := d) (by omega) hM p0 p1 (by omega)
    obtain ⟨y1, y2⟩ := rI_inj (e.symm.trans e2)
    rw [y1, y2]
    rcases r with r | r
    · exact Or.inl (by omega)
    · exact Or.inr ((by omega))
  · obtain ⟨z, M2, e2, r⟩ := nu_M_near0_4 (d := d) (by omega) hM p0 p1 (by omega)
    obtain ⟨y1, y2⟩ := rI_inj (e.symm.trans e2)
    rw [y1, y2]
    rcases r with r | r
    · exact Or.inl (by omega)
    · exact Or.inr ((by omega))
  · obtain ⟨z, M2, e2, r⟩ := nu_M_near0_5 (d := d) (by omega) hM p0 p1 (by omega)
    obtain ⟨y1, y2⟩ := rI_inj (e.symm.trans e2)
    rw [y1, y2]
    rcases r with r | r
    · exact Or.inl (by omega)
    · exact Or.inr ((by omega))
  · obtain ⟨z, M2, e2, r⟩ := nu_M_near0_6 (d := d) (by omega) hM p0 p1 (by omega)
    obtain ⟨y1, y2⟩ := rI_inj (e.symm.trans e2)
    rw [y1, y2]
    rcases r with r | r
    · exact Or.inl (by omega)
    · exact Or.inr ((by omega))
  · obtain ⟨z, M2, e2, r⟩ := nu_M_near0_7 (d := d) (by omega) hM p0 p1 (by omega)
    obtain ⟨y1, y2⟩ := rI_inj (e.symm.trans e2)
    rw [y1, y2]
    rcases r with r | r
    · exact Or.inl (by omega)
    · exact Or.inr ((by omega))
  · obtain ⟨z, M2, e2, r⟩ := nu_M_near0_8 (d := d) (by omega) hM p0 p1 (by omega)
    obtain ⟨y1, y2⟩ := rI_inj (e.symm.trans e2)
    rw [y1, y2]
    rcases r with r | r
    · exact Or.inl (by omega)
    · exact Or.inr ((by omega))
  · obtain ⟨z, M2, e2, r⟩ := nu_M_near0_9 (d := d) (by omega) hM p0 p1 (by omega)
    obtain ⟨y1, y2⟩ := rI_inj (e.symm.trans e2)
    rw [y1, y2]
    rcases r with r | r
    · exact Or.inl (by omega)
    · exact Or.inr ((by omega))
  · obtain ⟨z, M2, e2, r⟩ := nu_M_near0_10 (d := d) (by omega) hM p0 p1 (by omega)
    obtain ⟨y1, y2⟩ := rI_inj (e.symm.trans e2)
    rw [y1, y2]
    rcases r with r | r
    · exact Or.inl (by omega)
    · exact Or.inr ((by omega))
  · obtain ⟨z, M2, e2, r⟩ := nu_M_near0_11 (d := d) (by omega) hM p0 p1 (by omega)
    obtain ⟨y1, y2⟩ := rI_inj (e.symm.trans e2)
    rw [y1, y2]
    rcases r with r | r
    · exact Or.inl (by omega)
    · exact Or.inr ((by omega))
theorem nu_M_guest1_0 {d : Nat} (hd : 5 ≤ d) {M : pM} {a1 : Int} {a2 : Int} (hM : gM gAll M) (h1 : -2147483648 ≤ a1 ∧ a1 ≤ 2147483647) (h2 : -2147483648 ≤ a2 ∧ a2 ≤ 2147483647) (p0 : 1 ≤ M 60 0 ∧ M 60 0 ≤ 6) (p1 : 0 ≤ M 60 16 ∧ M 60 16 ≤ 0) : ∃ z M', xF d 239 [.inr 62, .inl a1, .inl a2] M = rI z M' ∧ ((-1 ≤ z ∧ z ≤ -1 ∧ 0 ≤ M' 60 16 ∧ M' 60 16 ≤ 0) ∨ (-2 ≤ z ∧ z ≤ -2 ∧ 0 ≤ M' 60 16 ∧ M' 60 16 ≤ 0) ∨ (-3 ≤ z ∧ z ≤ -3 ∧ 0 ≤ M' 60 16 ∧ M' 60 16 ≤ 0) ∨ (0 ≤ z ∧ z ≤ 999999 ∧ 0 ≤ M' 60 16 ∧ M' 60 16 ≤ 10)) := by
  have c0 : cOK gAll (xF d) 239 K_943 := (ct_of (d := d) ct_ok (show K_943 ∈ CT.getD 239 [] from (show CT.getD 239 [] = [K_967, K_969, K_971, K_973, K_975, K_977, K_979, K_981, K_983, K_985, K_987, K_989, K_556, K_1080, K_943, K_945, K_947, K_949, K_951, K_953, K_955, K_957, K_959, K_961, K_963, K_965, K_1082, K_1084, K_1086, K_1088, K_1090, K_1092, K_1094, K_1096, K_1098, K_1100, K_554] from rfl) ▸ by simp) hd)
  obtain ⟨z, M', e, -, -, alt, ha, q, p⟩ := cOK_I c0 (A := [.inr 62, .inl a1, .inl a2]) (show aF2 gW [aRef 62, (0, -2147483648, 2147483647, 0, 0, 0), (0, -2147483648, 2147483647, 0, 0, 0)] [.inr 62, .inl a1, .inl a2] from ⟨gW_o, gW_i h1.1 h1.2, gW_i h2.1 h2.2, trivial⟩) hM (show gP0 [(60, 0, (0, 1, 6, 0, 0, 0)), (60, 16, (0, 0, 0, 0, 0, 0))] M from fun e he => by
    simp only [List.mem_cons, List.not_mem_nil, or_false] at he
    rcases he with rfl | rfl
    · exact gR_i p0.1 p0.2
    · exact gR_i p1.1 p1.2) rfl
  refine ⟨z, M', e, ?_⟩
  have ha : alt ∈ [(some (0, -1, -1, 0, 0, 0), [], [(60, 0, (0, 1, 6, 0, 0, 0)), (60, 16, (0, 0, 0, 0, 0, 0)), (60, 17, (0, 0, 0, 0, 0, 0))]), (some (0, -2, -2, 0, 0, 0), [(4, 0, 0, 0, 0, 0), (0, 0, 5, 0, 0, 0), (0, 0, 99, 0, 0, 0)], [(60, 0, (0, 1, 6, 0, 0, 0)), (60, 16, (0, 0, 0, 0, 0, 0)), (60, 17, (0, 0, 0, 0, 0, 0)), (60, 39, (0, 1, 20000, 0, 0, 0)), (60, 40, (0, 0, 1000000, 0, 0, 0))]), (some (0, -3, -3, 0, 0, 0), [(4, 0, 0, 0, 0, 0), (0, 0, 5, 0, 0, 0), (0, 0, 99, 0, 0, 0)], [(60, 0, (0, 1, 6, 0, 0, 0)), (60, 16, (0, 0, 0, 0, 0, 0)), (60, 17, (0, 0, 0, 0, 0, 0)), (60, 39, (0, 20001, 1000000, 0, 0, 0))]), (some (0, 0, 999999, 0, 0, 0), [(4, 0, 0, 0, 0, 0), (0, 0, 5, 0, 0, 0), (0, 0, 99, 0, 0, 0)], [(60, 0, (0, 1, 6, 0, 0, 0)), (60, 16, (0, 0, 10, 0, 0, 0)), (60, 17, (0, 0, 0, 0, 0, 0)), (60, 39, (0, 1, 20000, 0, 0, 0)), (60, 40, (0, 0, 1000000, 0, 0, 0))])] := ha
  simp only [List.mem_cons, List.not_mem_nil, or_false] at ha
  rcases ha with rfl | rfl | rfl | rfl
  · obtain ⟨z2, e2, r⟩ := gW_int (show gW _ _ from q) (Nat.le_of_ble_eq_true rfl)
    cases e2
    have := gR0 r
    have w := gR0 (show gR (0, 0, 0, 0, 0, 0) (M' 60 16) from (p _ (List.mem_cons_of_mem _ List.mem_cons_self)).1)
    exact Or.inl ⟨this.1, this.2, w.1, w.2⟩
  · obtain ⟨z2, e2, r⟩ := gW_int (show gW _ _ from q) (Nat.le_of_ble_eq_true rfl)
    cases e2
    have := gR0 r
    have w := gR0 (show gR (0, 0, 0, 0, 0, 0) (M' 60 16) from (p _ (List.mem_cons_of_mem _ List.mem_cons_self)).1)
    exact Or.inr (Or.inl ⟨this.1, this.2, w.1, w.2⟩)
  · obtain ⟨z2, e2, r⟩ := gW_int (show gW _ _ from q) (Nat.le_of_ble_eq_true rfl)
    cases e2
    have := gR0 r
    have w := gR0 (show gR (0, 0, 0, 0, 0, 0) (M' 60 16) from (p _ (List.mem_cons_of_mem _ List.mem_cons_self)).1)
    exact Or.inr (Or.inr (Or.inl ⟨this.1, this.2, w.1, w.2⟩))
  · obtain ⟨z2, e2, r⟩ := gW_int (show gW _ _ from q) (Nat.le_of_ble_eq_true rfl)
    cases e2
    have := gR0 r
    have w := gR0 (show gR (0, 0, 10, 0, 0, 0) (M' 60 16) from (p _ (List.mem_cons_of_mem _ List.mem_cons_self)).1)
    exact Or.inr (Or.inr (Or.inr ⟨this.1, this.2, w.1, w.2⟩))
theorem nu_M_guest1_1 {d : Nat} (hd : 5 ≤ d) {M : pM} {a1 : Int} {a2 : Int} (hM : gM gAll M) (h1 : -2147483648 ≤ a1 ∧ a1 ≤ 2147483647) (h2 : -2147483648 ≤ a2 ∧ a2 ≤ 2147483647) (p0 : 1 ≤ M 60 0 ∧ M 60 0 ≤ 6) (p1 : 1 ≤ M 60 16 ∧ M 60 16 ≤ 1) : ∃ z M', xF d 239 [.inr 62, .inl a1, .inl a2] M = rI z M' ∧ ((-1 ≤ z ∧ z ≤ -1 ∧ 1 ≤ M' 60 16 ∧ M' 60 16 ≤ 1) ∨ (-2 ≤ z ∧ z ≤ -2 ∧ 1 ≤ M' 60 16 ∧ M' 60 16 ≤ 1) ∨ (-3 ≤ z ∧ z ≤ -3 ∧ 1 ≤ M' 60 16 ∧ M' 60 16 ≤ 1) ∨ (0 ≤ z ∧ z ≤ 999999 ∧ 0 ≤ M' 60 16 ∧ M' 60 16 ≤ 10)) := by
  have c0 : cOK gAll (xF d) 239 K_945 := (ct_of (d := d) ct_ok (show K_945 ∈ CT.getD 239 [] from (show CT.getD 239 [] = [K_967, K_969, K_971, K_973, K_975, K_977, K_979, K_981, K_983, K_985, K_987, K_989, K_556, K_1080, K_943, K_945, K_947, K_949, K_951, K_953, K_955, K_957, K_959, K_961, K_963, K_965, K_1082, K_1084, K_1086, K_1088, K_1090, K_1092, K_1094, K_1096, K_1098, K_1100, K_554] from rfl) ▸ by simp) hd)
  obtain ⟨z, M', e, -, -, alt, ha, q, p⟩ := cOK_I c0 (A := [.inr 62, .inl a1, .inl a2]) (show aF2 gW [aRef 62, (0, -2147483648, 2147483647, 0, 0, 0), (0, -2147483648, 2147483647, 0, 0, 0)] [.inr 62, .inl a1, .inl a2] from ⟨gW_o, gW_i h1.1 h1.2, gW_i h2.1 h2.2, trivial⟩) hM (show gP0 [(60, 0, (0, 1, 6, 0, 0, 0)), (60, 16, (0, 1, 1, 0, 0, 0))] M from fun e he => by
    simp only [List.mem_cons, List.not_mem_nil, or_false] at he
    rcases he with rfl | rfl
    · exact gR_i p0.1 p0.2
    · exact gR_i p1.1 p1.2) rfl
  refine ⟨z, M', e, ?_⟩
  have ha : alt ∈ [(some (0, -1, -1, 0, 0, 0), [], [(60, 0, (0, 1, 6, 0, 0, 0)), (60, 16, (0, 1, 1, 0, 0, 0)), (60, 17, (0, 0, 0, 0, 0, 0))]), (some (0, -2, -2, 0, 0, 0), [(4, 0, 0, 0, 0, 0), (0, 0, 5, 0, 0, 0), (0, 0, 99, 0, 0, 0)], [(60, 0, (0, 1, 6, 0, 0, 0)), (60, 16, (0, 1, 1, 0, 0, 0)), (60, 17, (0, 0, 0, 0, 0, 0)), (60, 39, (0, 1, 20000, 0, 0, 0)), (60, 40, (0, 0, 1000000, 0, 0, 0))]), (some (0, -3, -3, 0, 0, 0), [(4, 0, 0, 0, 0, 0), (0, 0, 5, 0, 0, 0), (0, 0, 99, 0, 0, 0)], [(60, 0, (0, 1, 6, 0, 0, 0)), (60, 16, (0, 1, 1, 0, 0, 0)), (60, 17, (0, 0, 0, 0, 0, 0)), (60, 39, (0, 20001, 1000000, 0, 0, 0))]), (some (0, 0, 999999, 0, 0, 0), [(4, 0, 0, 0, 0, 0), (0, 0, 5, 0, 0, 0), (0, 0, 99, 0, 0, 0)], [(60, 0, (0, 1, 6, 0, 0, 0)), (60, 16, (0, 0, 10, 0, 0, 0)), (60, 17, (0, 0, 0, 0, 0, 0)), (60, 39, (0, 1, 20000, 0, 0, 0)), (60, 40, (0, 0, 1000000, 0, 0, 0))])] := ha
  simp only [List.mem_cons, List.not_mem_nil, or_false] at ha
  rcases ha with rfl | rfl | rfl | rfl
  · obtain ⟨z2, e2, r⟩ := gW_int (show gW _ _ from q) (Nat.le_of_ble_eq_true rfl)
    cases e2
    have := gR0 r
    have w := gR0 (show gR (0, 1, 1, 0, 0, 0) (M' 60 16) from (p _ (List.mem_cons_of_mem _ List.mem_cons_self)).1)
    exact Or.inl ⟨this.1, this.2, w.1, w.2⟩
  · obtain ⟨z2, e2, r⟩ := gW_int (show gW _ _ from q) (Nat.le_of_ble_eq_true rfl)
    cases e2
    have := gR0 r
    have w := gR0 (show gR (0, 1, 1, 0, 0, 0) (M' 60 16) from (p _ (List.mem_cons_of_mem _ List.mem_cons_self)).1)
    exact Or.inr (Or.inl ⟨this.1, this.2, w.1, w.2⟩)
  · obtain ⟨z2, e2, r⟩ := gW_int (show gW _ _ from q) (Nat.le_of_ble_eq_true rfl)
    cases e2
    have := gR0 r
    have w := gR0 (show gR (0, 1, 1, 0, 0, 0) (M' 60 16) from (p _ (List.mem_cons_of_mem _ List.mem_cons_self)).1)
    exact Or.inr (Or.inr (Or.inl ⟨this.1, this.2, w.1, w.2⟩))
  · obtain ⟨z2, e2, r⟩ := gW_int (show gW _ _ from q) (Nat.le_of_ble_eq_true rfl)
    cases e2
    have := gR0 r
    have w := gR0 (show gR (0, 0, 10, 0, 0, 0) (M' 60 16) from (p _ (List.mem_cons_of_mem _ List.mem_cons_self)).1)
    exact Or.inr (Or.inr (Or.inr ⟨this.1, this.2, w.1, w.2⟩))
theorem nu_M_guest1_2 {d : Nat} (hd : 5 ≤ d) {M : pM} {a1 : Int} {a2 : Int} (hM : gM gAll M) (h1 : -2147483648 ≤ a1 ∧ a1 ≤ 2147483647) (h2 : -2147483648 ≤ a2 ∧ a2 ≤ 2147483647) (p0 : 1 ≤ M 60 0 ∧ M 60 0 ≤ 6) (p1 : 2 ≤ M 60 16 ∧ M 60 16 ≤ 2) : ∃ z M', xF d 239 [.inr 62, .inl a1, .inl a2] M = rI z M' ∧ ((-1 ≤ z ∧ z ≤ -1 ∧ 2 ≤ M' 60 16 ∧ M' 60 16 ≤ 2) ∨ (-2 ≤ z ∧ z ≤ -2 ∧ 2 ≤ M' 60 16 ∧ M' 60 16 ≤ 2) ∨ (-3 ≤ z ∧ z ≤ -3 ∧ 2 ≤ M' 60 16 ∧ M' 60 16 ≤ 2) ∨ (0 ≤ z ∧ z ≤ 999999 ∧ 0 ≤ M' 60 16 ∧ M' 60 16 ≤ 10)) := by
  have c0 : cOK gAll (xF d) 239 K_947 := (ct_of (d := d) ct_ok (show K_947 ∈ CT.getD 239 [] from (show CT.getD 239 [] = [K_967, K_969, K_971, K_973, K_975, K_977, K_979, K_981, K_983, K_985, K_987, K_989, K_556, K_1080, K_943, K_945, K_947, K_949, K_951, K_953, K_955, K_957, K_959, K_961, K_963, K_965, K_1082, K_1084, K_1086, K_1088, K_1090, K_1092, K_1094, K_1096, K_1098, K_1100, K_554] from rfl) ▸ by simp) hd)
  obtain ⟨z, M', e, -, -, alt, ha, q, p⟩ := cOK_I c0 (A := [.inr 62, .inl a1, .inl a2]) (show aF2 gW [aRef 62, (0, -2147483648, 2147483647, 0, 0, 0), (0, -2147483648, 2147483647, 0, 0, 0)] [.inr 62, .inl a1, .inl a2] from ⟨gW_o, gW_i h1.1 h1.2, gW_i h2.1 h2.2, trivial⟩) hM (show gP0 [(60, 0, (0, 1, 6, 0, 0, 0)), (60, 16, (0, 2, 2, 0, 0, 0))] M from fun e he => by
    simp only [List.mem_cons, List.not_mem_nil, or_false] at he
    rcases he with rfl | rfl
    · exact gR_i p0.1 p0.2
    · exact gR_i p1.1 p1.2) rfl
  refine ⟨z, M', e, ?_⟩
  have ha : alt ∈ [(some (0, -1, -1, 0, 0, 0), [], [(60, 0, (0, 1, 6, 0, 0, 0)), (60, 16, (0, 2, 2, 0, 0, 0)), (60, 17, (0, 0, 0, 0, 0, 0))]), (some (0, -2, -2, 0, 0, 0), [(4, 0, 0, 0, 0, 0), (0, 0, 5, 0, 0, 0), (0, 0, 99, 0, 0, 0)], [(60, 0, (0, 1, 6, 0, 0, 0)), (60, 16, (0, 2, 2, 0, 0, 0)), (60, 17, (0, 0, 0, 0, 0, 0)), (60, 39, (0, 1, 20000, 0, 0, 0)), (60, 40, (0, 0, 1000000, 0, 0, 0))]), (some (0, -3, -3, 0, 0, 0), [(4, 0, 0, 0, 0, 0), (0, 0, 5, 0, 0, 0), (0, 0, 99, 0, 0, 0)], [(60, 0, (0, 1, 6, 0, 0, 0)), (60, 16, (0, 2, 2, 0, 0, 0)), (60, 17, (0, 0, 0, 0, 0, 0)), (60, 39, (0, 20001, 1000000, 0, 0, 0))]), (some (0, 0, 999999, 0, 0, 0), [(4, 0, 0, 0, 0, 0), (0, 0, 5, 0, 0, 0), (0, 0, 99, 0, 0, 0)], [(60, 0, (0, 1, 6, 0, 0, 0)), (60, 16, (0, 0, 10, 0, 0, 0)), (60, 17, (0, 0, 0, 0, 0, 0)), (60, 39, (0, 1, 20000, 0, 0, 0)), (60, 40, (0, 0, 1000000, 0, 0, 0))])] := ha
  simp only [List.mem_cons, List.not_mem_nil, or_false] at ha
  rcases ha with rfl | rfl | rfl | rfl
  · obtain ⟨z2, e2, r⟩ := gW_int (show gW _ _ from q) (Nat.le_of_ble_eq_true rfl)
    cases e2
    have := gR0 r
    have w := gR0 (show gR (0, 2, 2, 0, 0, 0) (M' 60 16) from (p _ (List.mem_cons_of_mem _ List.mem_cons_self)).1)
    exact Or.inl ⟨this.1, this.2, w.1, w.2⟩
  · obtain ⟨z2, e2, r⟩ := gW_int (show gW _ _ from q) (Nat.le_of_ble_eq_true rfl)
    cases e2
    have := gR0 r
    have w := gR0 (show gR (0, 2, 2, 0, 0, 0) (M' 60 16) from (p _ (List.mem_cons_of_mem _ List.mem_cons_self)).1)
    exact Or.inr (Or.inl ⟨this.1, this.2, w.1, w.2⟩)
  · obtain ⟨z2, e2, r⟩ := gW_int (show gW _ _ from q) (Nat.le_of_ble_eq_true rfl)
    cases e2
    have := gR0 r
    have w := gR0 (show gR (0, 2, 2, 0, 0, 0) (M' 60 16) from (p _ (List.mem_cons_of_mem _ List.mem_cons_self)).1)
    exact Or.inr (Or.inr (Or.inl ⟨this.1, this.2, w.1, w.2⟩))
  · obtain ⟨z2, e2, r⟩ := gW_int (show gW _ _ from q) (Nat.le_of_ble_eq_true rfl)
    cases e2
    have := gR0 r
    have w := gR0 (show gR (0, 0, 10, 0, 0, 0) (M' 60 16) from (p _ (List.mem_cons_of_mem _ List.mem_cons_self)).1)
    exact Or.inr (Or.inr (Or.inr ⟨this.1, this.2, w.1, w.2⟩))
theorem nu_M_guest1_3 {d : Nat} (hd : 5 ≤ d) {M : pM} {a1 : Int} {a2 : Int} (hM : gM gAll M) (h1 : -2147483648 ≤ a1 ∧ a1 ≤ 2147483647) (h2 : -2147483648 ≤ a2 ∧ a2 ≤ 2147483647) (p0 : 1 ≤ M 60 0 ∧ M 60 0 ≤ 6) (p1 : 3 ≤ M 60 16 ∧ M 60 16 ≤ 3) : ∃ z M', xF d 239 [.inr 62, .inl a1, .inl a2] M = rI z M' ∧ ((-1 ≤ z ∧ z ≤ -1 ∧ 3 ≤ M' 60 16 ∧ M' 60 16 ≤ 3) ∨ (-2 ≤ z ∧ z ≤ -2 ∧ 3 ≤ M' 60 16 ∧ M' 60 16 ≤ 3) ∨ (-3 ≤ z ∧ z ≤ -3 ∧ 3 ≤ M' 60 16 ∧ M' 60 16 ≤ 3) ∨ (0 ≤ z ∧ z ≤ 999999 ∧ 0 ≤ M' 60 16 ∧ M' 60 16 ≤ 10)) := by
  have c0 : cOK gAll (xF d) 239 K_949 := (ct_of (d := d) ct_ok (show K_949 ∈ CT.getD 239 [] from (show CT.getD 239 [] = [K_967, K_969, K_971, K_973, K_975, K_977, K_979, K_981, K_983, K_985, K_987, K_989, K_556, K_1080, K_943, K_945, K_947, K_949, K_951, K_953, K_955, K_957, K_959, K_961, K_963, K_965, K_1082, K_1084, K_1086, K_1088, K_1090, K_1092, K_1094, K_1096, K_1098, K_1100, K_554] from rfl) ▸ by simp) hd)
  obtain ⟨z, M', e, -, -, alt, ha, q, p⟩ := cOK_I c0 (A := [.inr 62, .inl a1, .inl a2]) (show aF2 gW [aRef 62, (0, -2147483648, 2147483647, 0, 0, 0), (0, -2147483648, 2147483647, 0, 0, 0)] [.inr 62, .inl a1, .inl a2] from ⟨gW_o, gW_i h1.1 h1.2, gW_i h2.1 h2.2, trivial⟩) hM (show gP0 [(60, 0, (0, 1, 6, 0, 0, 0)), (60, 16, (0, 3, 3, 0, 0, 0))] M from fun e he => by
    simp only [List.mem_cons, List.not_mem_nil, or_false] at he
    rcases he with rfl | rfl
    · exact gR_i p0.1 p0.2
    · exact gR_i p1.1 p1.2) rfl
  refine ⟨z, M', e, ?_⟩
  have ha : alt ∈ [(some (0, -1, -1, 0, 0, 0), [], [(60, 0, (0, 1, 6, 0, 0, 0)), (60, 16, (0, 3, 3, 0, 0, 0)), (60, 17, (0, 0, 0, 0, 0, 0))]), (some (0, -2, -2, 0, 0, 0), [(4, 0, 0, 0, 0, 0), (0, 0, 5, 0, 0, 0), (0, 0, 99, 0, 0, 0)], [(60, 0, (0, 1, 6, 0, 0, 0)), (60, 16, (0, 3, 3, 0, 0, 0)), (60, 17, (0, 0, 0, 0, 0, 0)), (60, 39, (0, 1, 20000, 0, 0, 0)), (60, 40, (0, 0, 1000000, 0, 0, 0))]), (some (0, -3, -3, 0, 0, 0), [(4, 0, 0, 0, 0, 0), (0, 0, 5, 0, 0, 0), (0, 0, 99, 0, 0, 0)], [(60, 0, (0, 1, 6, 0, 0, 0)), (60, 16, (0, 3, 3, 0, 0, 0)), (60, 17, (0, 0, 0, 0, 0, 0)), (60, 39, (0, 20001, 1000000, 0, 0, 0))]), (some (0, 0, 999999, 0, 0, 0), [(4, 0, 0, 0, 0, 0), (0, 0, 5, 0, 0, 0), (0, 0, 99, 0, 0, 0)], [(60, 0, (0, 1, 6, 0, 0, 0)), (60, 16, (0, 0, 10, 0, 0, 0)), (60, 17, (0, 0, 0, 0, 0, 0)), (60, 39, (0, 1, 20000, 0, 0, 0)), (60, 40, (0, 0, 1000000, 0, 0, 0))])] := ha
  simp only [List.mem_cons, List.not_mem_nil, or_false] at ha
  rcases ha with rfl | rfl | rfl | rfl
  · obtain ⟨z2, e2, r⟩ := gW_int (show gW _ _ from q) (Nat.le_of_ble_eq_true rfl)
    cases e2
    have := gR0 r
    have w := gR0 (show gR (0, 3, 3, 0, 0, 0) (M' 60 16) from (p _ (List.mem_cons_of_mem _ List.mem_cons_self)).1)
    exact Or.inl ⟨this.1, this.2, w.1, w.2⟩
  · obtain ⟨z2, e2, r⟩ := gW_int (show gW _ _ from q) (Nat.le_of_ble_eq_true rfl)
    cases e2
    have := gR0 r
    have w := gR0 (show gR (0, 3, 3, 0, 0, 0) (M' 60 16) from (p _ (List.mem_cons_of_mem _ List.mem_cons_self)).1)
    exact Or.inr (Or.inl ⟨this.1, this.2, w.1, w.2⟩)
  · obtain ⟨z2, e2, r⟩ := gW_int (show gW _ _ from q) (Nat.le_of_ble_eq_true rfl)
    cases e2
    have := gR0 r
    have w := gR0 (show gR (0, 3, 3, 0, 0, 0) (M' 60 16) from (p _ (List.mem_cons_of_mem _ List.mem_cons_self)).1)
    exact Or.inr (Or.inr (Or.inl ⟨this.1, this.2, w.1, w.2⟩))
  · obtain ⟨z2, e2, r⟩ := gW_int (show gW _ _ from q) (Nat.le_of_ble_eq_true rfl)
    cases e2
    have := gR0 r
    have w := gR0 (show gR (0, 0, 10, 0, 0, 0) (M' 60 16) from (p _ (List.mem_cons_of_mem _ List.mem_cons_self)).1)
    exact Or.inr (Or.inr (Or.inr ⟨this.1, this.2, w.1, w.2⟩))
theorem nu_M_guest1_4 {d : Nat} (hd : 5 ≤ d) {M : pM} {a1 : Int} {a2 : Int} (hM : gM gAll M) (h1 : -2147483648 ≤ a1 ∧ a1 ≤ 2147483647) (h2 : -2147483648 ≤ a2 ∧ a2 ≤ 2147483647) (p0 : 1 ≤ M 60 0 ∧ M 60 0 ≤ 6) (p1 : 4 ≤ M 60 16 ∧ M 60 16 ≤ 4) : ∃ z M', xF d 239 [.inr 62, .inl a1, .inl a2] M = rI z M' ∧ ((-1 ≤ z ∧ z ≤ -1 ∧ 4 ≤ M' 60 16 ∧ M' 60 16 ≤ 4) ∨ (-2 ≤ z ∧ z ≤ -2 ∧ 4 ≤ M' 60 16 ∧ M' 60 16 ≤ 4) ∨ (-3 ≤ z ∧ z ≤ -3 ∧ 4 ≤ M' 60 16 ∧ M' 60 16 ≤ 4) ∨ (0 ≤ z ∧ z ≤ 999999 ∧ 0 ≤ M' 60 16 ∧ M' 60 16 ≤ 10)) := by
  have c0 : cOK gAll (xF d) 239 K_951 := (ct_of (d := d) ct_ok (show K_951 ∈ CT.getD 239 [] from (show CT.getD 239 [] = [K_967, K_969, K_971, K_973, K_975, K_977, K_979, K_981, K_983, K_985, K_987, K_989, K_556, K_1080, K_943, K_945, K_947, K_949, K_951, K_953, K_955, K_957, K_959, K_961, K_963, K_965, K_1082, K_1084, K_1086, K_1088, K_1090, K_1092, K_1094, K_1096, K_1098, K_1100, K_554] from rfl) ▸ by simp) hd)
  obtain ⟨z, M', e, -, -, alt, ha, q, p⟩ := cOK_I c0 (A := [.inr 62, .inl a1, .inl a2]) (show aF2 gW [aRef 62, (0, -2147483648, 2147483647, 0, 0, 0), (0, -2147483648, 2147483647, 0, 0, 0)] [.inr 62, .inl a1, .inl a2] from ⟨gW_o, gW_i h1.1 h1.2, gW_i h2.1 h2.2, trivial⟩) hM (show gP0 [(60, 0, (0, 1, 6, 0, 0, 0)), (60, 16, (0, 4, 4, 0, 0, 0))] M from fun e he => by
    simp only [List.mem_cons, List.not_mem_nil, or_false] at he
    rcases he with rfl | rfl
    · exact gR_i p0.1 p0.2
    · exact gR_i p1.1 p1.2) rfl
  refine ⟨z, M', e, ?_⟩
  have ha : alt ∈ [(some (0, -1, -1, 0, 0, 0), [], [(60, 0, (0, 1, 6, 0, 0, 0)), (60, 16, (0, 4, 4, 0, 0, 0)), (60, 17, (0, 0, 0, 0, 0, 0))]), (some (0, -2, -2, 0, 0, 0), [(4, 0, 0, 0, 0, 0), (0, 0, 5, 0, 0, 0), (0, 0, 99, 0, 0, 0)], [(60, 0, (0, 1, 6, 0, 0, 0)), (60, 16, (0, 4, 4, 0, 0, 0)), (60, 17, (0, 0, 0, 0, 0, 0)), (60, 39, (0, 1, 20000, 0, 0, 0)), (60, 40, (0, 0, 1000000, 0, 0, 0))]), (some (0, -3, -3, 0, 0, 0), [(4, 0, 0, 0, 0, 0), (0, 0, 5, 0, 0, 0), (0, 0, 99, 0, 0, 0)], [(60, 0, (0, 1, 6, 0, 0, 0)), (60, 16, (0, 4, 4, 0, 0, 0)), (60, 17, (0, 0, 0, 0, 0, 0)), (60, 39, (0, 20001, 1000000, 0, 0, 0))]), (some (0, 0, 999999, 0, 0, 0), [(4, 0, 0, 0, 0, 0), (0, 0, 5, 0, 0, 0), (0, 0, 99, 0, 0, 0)], [(60, 0, (0, 1, 6, 0, 0, 0)), (60, 16, (0, 0, 10, 0, 0, 0)), (60, 17, (0, 0, 0, 0, 0, 0)), (60, 39, (0, 1, 20000, 0, 0, 0)), (60, 40, (0, 0, 1000000, 0, 0, 0))])] := ha
  simp only [List.mem_cons, List.not_mem_nil, or_false] at ha
  rcases ha with rfl | rfl | rfl | rfl
  · obtain ⟨z2, e2, r⟩ := gW_int (show gW _ _ from q) (Nat.le_of_ble_eq_true rfl)
    cases e2
    have := gR0 r
    have w := gR0 (show gR (0, 4, 4, 0, 0, 0) (M' 60 16) from (p _ (List.mem_cons_of_mem _ List.mem_cons_self)).1)
    exact Or.inl ⟨this.1, this.2, w.1, w.2⟩
  · obtain ⟨z2, e2, r⟩ := gW_int (show gW _ _ from q) (Nat.le_of_ble_eq_true rfl)
    cases e2
    have := gR0 r
    have w := gR0 (show gR (0, 4, 4, 0, 0, 0) (M' 60 16) from (p _ (List.mem_cons_of_mem _ List.mem_cons_self)).1)
    exact Or.inr (Or.inl ⟨this.1, this.2, w.1, w.2⟩)
  · obtain ⟨z2, e2, r⟩ := gW_int (show gW _ _ from q) (Nat.le_of_ble_eq_true rfl)
    cases e2
    have := gR0 r
    have w := gR0 (show gR (0, 4, 4, 0, 0, 0) (M' 60 16) from (p _ (List.mem_cons_of_mem _ List.mem_cons_self)).1)
    exact Or.inr (Or.inr (Or.inl ⟨this.1, this.2, w.1, w.2⟩))
  · obtain ⟨z2, e2, r⟩ := gW_int (show gW _ _ from q) (Nat.le_of_ble_eq_true rfl)
    cases e2
    have := gR0 r
    have w := gR0 (show gR (0, 0, 10, 0, 0, 0) (M' 60 16) from (p _ (List.mem_cons_of_mem _ List.mem_cons_self)).1)
    exact Or.inr (Or.inr (Or.inr ⟨this.1, this.2, w.1, w.2⟩))
theorem nu_M_guest1_5 {d : Nat} (hd : 5 ≤ d) {M : pM} {a1 : Int} {a2 : Int} (hM : gM gAll M) (h1 : -2147483648 ≤ a1 ∧ a1 ≤ 2147483647) (h2 : -2147483648 ≤ a2 ∧ a2 ≤ 2147483647) (p0 : 1 ≤ M 60 0 ∧ M 60 0 ≤ 6) (p1 : 5 ≤ M 60 16 ∧ M 60 16 ≤ 5) : ∃ z M', xF d 239 [.inr 62, .inl a1, .inl a2] M = rI z M' ∧ ((-1 ≤ z ∧ z ≤ -1 ∧ 5 ≤ M' 60 16 ∧ M' 60 16 ≤ 5) ∨ (-2 ≤ z ∧ z ≤ -2 ∧ 5 ≤ M' 60 16 ∧ M' 60 16 ≤ 5) ∨ (-3 ≤ z ∧ z ≤ -3 ∧ 5 ≤ M' 60 16 ∧ M' 60 16 ≤ 5) ∨ (0 ≤ z ∧ z ≤ 999999 ∧ 0 ≤ M' 60 16 ∧ M' 60 16 ≤ 10)) := by
  have c0 : cOK gAll (xF d) 239 K_953 := (ct_of (d := d) ct_ok (show K_953 ∈ CT.getD 239 [] from (show CT.getD 239 [] = [K_967, K_969, K_971, K_973, K_975, K_977, K_979, K_981, K_983, K_985, K_987, K_989, K_556, K_1080, K_943, K_945, K_947, K_949, K_951, K_953, K_955, K_957, K_959, K_961, K_963, K_965, K_1082, K_1084, K_1086, K_1088, K_1090, K_1092, K_1094, K_1096, K_1098, K_1100, K_554] from rfl) ▸ by simp) hd)
  obtain ⟨z, M', e, -, -, alt, ha, q, p⟩ := cOK_I c0 (A := [.inr 62, .inl a1, .inl a2]) (show aF2 gW [aRef 62, (0, -2147483648, 2147483647, 0, 0, 0), (0, -2147483648, 2147483647, 0, 0, 0)] [.inr 62, .inl a1, .inl a2] from ⟨gW_o, gW_i h1.1 h1.2, gW_i h2.1 h2.2, trivial⟩) hM (show gP0 [(60, 0, (0, 1, 6, 0, 0, 0)), (60, 16, (0, 5, 5, 0, 0, 0))] M from fun e he => by
    simp only [List.mem_cons, List.not_mem_nil, or_false] at he
    rcases he with rfl | rfl
    · exact gR_i p0.1 p0.2
    · exact gR_i p1.1 p1.2) rfl
  refine ⟨z, M', e, ?_⟩
  have ha : alt ∈ [(some (0, -1, -1, 0, 0, 0), [], [(60, 0, (0, 1, 6, 0, 0, 0)), (60, 16, (0, 5, 5, 0, 0, 0)), (60, 17, (0, 0, 0, 0, 0, 0))]), (some (0, -2, -2, 0, 0, 0), [(4, 0, 0, 0, 0, 0), (0, 0, 5, 0, 0, 0), (0, 0, 99, 0, 0, 0)], [(60, 0, (0, 1, 6, 0, 0, 0)), (60, 16, (0, 5, 5, 0, 0, 0)), (60, 17, (0, 0, 0, 0, 0, 0)), (60, 39, (0, 1, 20000, 0, 0, 0)), (60, 40, (0, 0, 1000000, 0, 0, 0))]), (some (0, -3, -3, 0, 0, 0), [(4, 0, 0, 0, 0, 0), (0, 0, 5, 0, 0, 0), (0, 0, 99, 0, 0, 0)], [(60, 0, (0, 1, 6, 0, 0, 0)), (60, 16, (0, 5, 5, 0, 0, 0)), (60, 17, (0, 0, 0, 0, 0, 0)), (60, 39, (0, 20001, 1000000, 0, 0, 0))]), (some (0, 0, 999999, 0, 0, 0), [(4, 0, 0, 0, 0, 0), (0, 0, 5, 0, 0, 0), (0, 0, 99, 0, 0, 0)], [(60, 0, (0, 1, 6, 0, 0, 0)), (60, 16, (0, 0, 10, 0, 0, 0)), (60, 17, (0, 0, 0, 0, 0, 0)), (60, 39, (0, 1, 20000, 0, 0, 0)), (60, 40, (0, 0, 1000000, 0, 0, 0))])] := ha
  simp only [List.mem_cons, List.not_mem_nil, or_false] at ha
  rcases ha with rfl | rfl | rfl | rfl
  · obtain ⟨z2, e2, r⟩ := gW_int (show gW _ _ from q) (Nat.le_of_ble_eq_true rfl)
    cases e2
    have := gR0 r
    have w := gR0 (show gR (0, 5, 5, 0, 0, 0) (M' 60 16) from (p _ (List.mem_cons_of_mem _ List.mem_cons_self)).1)
    exact Or.inl ⟨this.1, this.2, w.1, w.2⟩
  · obtain ⟨z2, e2, r⟩ := gW_int (show gW _ _ from q) (Nat.le_of_ble_eq_true rfl)
    cases e2
    have := gR0 r
    have w := gR0 (show gR (0, 5, 5, 0, 0, 0) (M' 60 16) from (p _ (List.mem_cons_of_mem _ List.mem_cons_self)).1)
    exact Or.inr (Or.inl ⟨this.1, this.2, w.1, w.2⟩)
  · obtain ⟨z2, e2, r⟩ := gW_int (show gW _ _ from q) (Nat.le_of_ble_eq_true rfl)
    cases e2
    have := gR0 r
    have w := gR0 (show gR (0, 5, 5, 0, 0, 0) (M' 60 16) from (p _ (List.mem_cons_of_mem _ List.mem_cons_self)).1)
    exact Or.inr (Or.inr (Or.inl ⟨this.1, this.2, w.1, w.2⟩))
  · obtain ⟨z2, e2, r⟩ := gW_int (show gW _ _ from q) (Nat.le_of_ble_eq_true rfl)
    cases e2
    have := gR0 r
    have w := gR0 (show gR (0, 0, 10, 0, 0, 0) (M' 60 16) from (p _ (List.mem_cons_of_mem _ List.mem_cons_self)).1)
    exact Or.inr (Or.inr (Or.inr ⟨this.1, this.2, w.1, w.2⟩))
theorem nu_M_guest1_6 {d : Nat} (hd : 5 ≤ d) {M : pM} {a1 : Int} {a2 : Int} (hM : gM gAll M) (h1 : -2147483648 ≤ a1 ∧ a1 ≤ 2147483647) (h2 : -2147483648 ≤ a2 ∧ a2 ≤ 2147483647) (p0 : 1 ≤ M 60 0 ∧ M 60 0 ≤ 6) (p1 : 6 ≤ M 60 16 ∧ M 60 16 ≤ 6) : ∃ z M', xF d 239 [.inr 62, .inl a1, .inl a2] M = rI z M' ∧ ((-1 ≤ z ∧ z ≤ -1 ∧ 6 ≤ M' 60 16 ∧ M' 60 16 ≤ 6) ∨ (-2 ≤ z ∧ z ≤ -2 ∧ 6 ≤ M' 60 16 ∧ M' 60 16 ≤ 6) ∨ (-3 ≤ z ∧ z ≤ -3 ∧ 6 ≤ M' 60 16 ∧ M' 60 16 ≤ 6) ∨ (0 ≤ z ∧ z ≤ 999999 ∧ 0 ≤ M' 60 16 ∧ M' 60 16 ≤ 10)) := by
  have c0 : cOK gAll (xF d) 239 K_955 := (ct_of (d := d) ct_ok (show K_955 ∈ CT.getD 239 [] from (show CT.getD 239 [] = [K_967, K_969, K_971, K_973, K_975, K_977, K_979, K_981, K_983, K_985, K_987, K_989, K_556, K_1080, K_943, K_945, K_947, K_949, K_951, K_953, K_955, K_957, K_959, K_961, K_963, K_965, K_1082, K_1084, K_1086, K_1088, K_1090, K_1092, K_1094, K_1096, K_1098, K_1100, K_554] from rfl) ▸ by simp) hd)
  obtain ⟨z, M', e, -, -, alt, ha, q, p⟩ := cOK_I c0 (A := [.inr 62, .inl a1, .inl a2]) (show aF2 gW [aRef 62, (0, -2147483648, 2147483647, 0, 0, 0), (0, -2147483648, 2147483647, 0, 0, 0)] [.inr 62, .inl a1, .inl a2] from ⟨gW_o, gW_i h1.1 h1.2, gW_i h2.1 h2.2, trivial⟩) hM (show gP0 [(60, 0, (0, 1, 6, 0, 0, 0)), (60, 16, (0, 6, 6, 0, 0, 0))] M from fun e he => by
    simp only [List.mem_cons, List.not_mem_nil, or_false] at he
    rcases he with rfl | rfl
    · exact gR_i p0.1 p0.2
    · exact gR_i p1.1 p1.2) rfl
  refine ⟨z, M', e, ?_⟩
  have ha : alt ∈ [(some (0, -1, -1, 0, 0, 0), [], [(60, 0, (0, 1, 6, 0, 0, 0)), (60, 16, (0, 6, 6, 0, 0, 0)), (60, 17, (0, 0, 0, 0, 0, 0))]), (some (0, -2, -2, 0, 0, 0), [(4, 0, 0, 0, 0, 0), (0, 0, 5, 0, 0, 0), (0, 0, 99, 0, 0, 0)], [(60, 0, (0, 1, 6, 0, 0, 0)), (60, 16, (0, 6, 6, 0, 0, 0)), (60, 17, (0, 0, 0, 0, 0, 0)), (60, 39, (0, 1, 20000, 0, 0, 0)), (60, 40, (0, 0, 1000000, 0, 0, 0))]), (some (0, -3, -3, 0, 0, 0), [(4, 0, 0, 0, 0, 0), (0, 0, 5, 0, 0, 0), (0, 0, 99, 0, 0, 0)], [(60, 0, (0, 1, 6, 0, 0, 0)), (60, 16, (0, 6, 6, 0, 0, 0)), (60, 17, (0, 0, 0, 0, 0, 0)), (60, 39, (0, 20001, 1000000, 0, 0, 0))]), (some (0, 0, 999999, 0, 0, 0), [(4, 0, 0, 0, 0, 0), (0, 0, 5, 0, 0, 0), (0, 0, 99, 0, 0, 0)], [(60, 0, (0, 1, 6, 0, 0, 0)), (60, 16, (0, 0, 10, 0, 0, 0)), (60, 17, (0, 0, 0, 0, 0, 0)), (60, 39, (0, 1, 20000, 0, 0, 0)), (60, 40, (0, 0, 1000000, 0, 0, 0))])] := ha
  simp only [List.mem_cons, List.not_mem_nil, or_false] at ha
  rcases ha with rfl | rfl | rfl | rfl
  · obtain ⟨z2, e2, r⟩ := gW_int (show gW _ _ from q) (Nat.le_of_ble_eq_true rfl)
    cases e2
    have := gR0 r
    have w := gR0 (show gR (0, 6, 6, 0, 0, 0) (M' 60 16) from (p _ (List.mem_cons_of_mem _ List.mem_cons_self)).1)
    exact Or.inl ⟨this.1, this.2, w.1, w.2⟩
  · obtain ⟨z2, e2, r⟩ := gW_int (show gW _ _ from q) (Nat.le_of_ble_eq_true rfl)
    cases e2
    have := gR0 r
    have w := gR0 (show gR (0, 6, 6, 0, 0, 0) (M' 60 16) from (p _ (List.mem_cons_of_mem _ List.mem_cons_self)).1)
    exact Or.inr (Or.inl ⟨this.1, this.2, w.1, w.2⟩)
  · obtain ⟨z2, e2, r⟩ := gW_int (show gW _ _ from q) (Nat.le_of_ble_eq_true rfl)
    cases e2
    have := gR0 r
    have w := gR0 (show gR (0, 6, 6, 0, 0, 0) (M' 60 16) from (p _ (List.mem_cons_of_mem _ List.mem_cons_self)).1)
    exact Or.inr (Or.inr (Or.inl ⟨this.1, this.2, w.1, w.2⟩))
  · obtain ⟨z2, e2, r⟩ := gW_int (show gW _ _ from q) (Nat.le_of_ble_eq_true rfl)
    cases e2
    have := gR0 r
    have w := gR0 (show gR (0, 0, 10, 0, 0, 0) (M' 60 16) from (p _ (List.mem_cons_of_mem _ List.mem_cons_self)).1)
    exact Or.inr (Or.inr (Or.inr ⟨this.1, this.2, w.1, w.2⟩))
theorem nu_M_guest1_7 {d : Nat} (hd : 5 ≤ d) {M : pM} {a1 : Int} {a2 : Int} (hM : gM gAll M) (h1 : -2147483648 ≤ a1 ∧ a1 ≤ 2147483647) (h2 : -2147483648 ≤ a2 ∧ a2 ≤ 2147483647) (p0 : 1 ≤ M 60 0 ∧ M 60 0 ≤ 6) (p1 : 7 ≤ M 60 16 ∧ M 60 16 ≤ 7) : ∃ z M', xF d 239 [.inr 62, .inl a1, .inl a2] M = rI z M' ∧ ((-1 ≤ z ∧ z ≤ -1 ∧ 7 ≤ M' 60 16 ∧ M' 60 16 ≤ 7) ∨ (-2 ≤ z ∧ z ≤ -2 ∧ 7 ≤ M' 60 16 ∧ M' 60 16 ≤ 7) ∨ (-3 ≤ z ∧ z ≤ -3 ∧ 7 ≤ M' 60 16 ∧ M' 60 16 ≤ 7) ∨ (0 ≤ z ∧ z ≤ 999999 ∧ 0 ≤ M' 60 16 ∧ M' 60 16 ≤ 10)) := by
  have c0 : cOK gAll (xF d) 239 K_957 := (ct_of (d := d) ct_ok (show K_957 ∈ CT.getD 239 [] from (show CT.getD 239 [] = [K_967, K_969, K_971, K_973, K_975, K_977, K_979, K_981, K_983, K_985, K_987, K_989, K_556, K_1080, K_943, K_945, K_947, K_949, K_951, K_953, K_955, K_957, K_959, K_961, K_963, K_965, K_1082, K_1084, K_1086, K_1088, K_1090, K_1092, K_1094, K_1096, K_1098, K_1100, K_554] from rfl) ▸ by simp) hd)
  obtain ⟨z, M', e, -, -, alt, ha, q, p⟩ := cOK_I c0 (A := [.inr 62, .inl a1, .inl a2]) (show aF2 gW [aRef 62, (0, -2147483648, 2147483647, 0, 0, 0), (0, -2147483648, 2147483647, 0, 0, 0)] [.inr 62, .inl a1, .inl a2] from ⟨gW_o, gW_i h1.1 h1.2, gW_i h2.1 h2.2, trivial⟩) hM (show gP0 [(60, 0, (0, 1, 6, 0, 0, 0)), (60, 16, (0, 7, 7, 0, 0, 0))] M from fun e he => by
    simp only [List.mem_cons, List.not_mem_nil, or_false] at he
    rcases he with rfl | rfl
    · exact gR_i p0.1 p0.2
    · exact gR_i p1.1 p1.2) rfl
  refine ⟨z, M', e, ?_⟩
  have ha : alt ∈ [(some (0, -1, -1, 0, 0, 0), [], [(60, 0, (0, 1, 6, 0, 0, 0)), (60, 16, (0, 7, 7, 0, 0, 0)), (60, 17, (0, 0, 0, 0, 0, 0))]), (some (0, -2, -2, 0, 0, 0), [(4, 0, 0, 0, 0, 0), (0, 0, 5, 0, 0, 0), (0, 0, 99, 0, 0, 0)], [(60, 0, (0, 1, 6, 0, 0, 0)), (60, 16, (0, 7, 7, 0, 0, 0)), (60, 17, (0, 0, 0, 0, 0, 0)), (60, 39, (0, 1, 20000, 0, 0, 0)), (60, 40, (0, 0, 1000000, 0, 0, 0))]), (some (0, -3, -3, 0, 0, 0), [(4, 0, 0, 0, 0, 0), (0, 0, 5, 0, 0, 0), (0, 0, 99, 0, 0, 0)], [(60, 0, (0, 1, 6, 0, 0, 0)), (60, 16, (0, 7, 7, 0, 0, 0)), (60, 17, (0, 0, 0, 0, 0, 0)), (60, 39, (0, 20001, 1000000, 0, 0, 0))]), (some (0, 0, 999999, 0, 0, 0), [(4, 0, 0, 0, 0, 0), (0, 0, 5, 0, 0, 0), (0, 0, 99, 0, 0, 0)], [(60, 0, (0, 1, 6, 0, 0, 0)), (60, 16, (0, 0, 10, 0, 0, 0)), (60, 17, (0, 0, 0, 0, 0, 0)), (60, 39, (0, 1, 20000, 0, 0, 0)), (60, 40, (0, 0, 1000000, 0, 0, 0))])] := ha
  simp only [List.mem_cons, List.not_mem_nil, or_false] at ha
  rcases ha with rfl | rfl | rfl | rfl
  · obtain ⟨z2, e2, r⟩ := gW_int (show gW _ _ from q) (Nat.le_of_ble_eq_true rfl)
    cases e2
    have := gR0 r
    have w := gR0 (show gR (0, 7, 7, 0, 0, 0) (M' 60 16) from (p _ (List.mem_cons_of_mem _ List.mem_cons_self)).1)
    exact Or.inl ⟨this.1, this.2, w.1, w.2⟩
  · obtain ⟨z2, e2, r⟩ := gW_int (show gW _ _ from q) (Nat.le_of_ble_eq_true rfl)
    cases e2
    have := gR0 r
    have w := gR0 (show gR (0, 7, 7, 0, 0, 0) (M' 60 16) from (p _ (List.mem_cons_of_mem _ List.mem_cons_self)).1)
    exact Or.inr (Or.inl ⟨this.1, this.2, w.1, w.2⟩)
  · obtain ⟨z2, e2, r⟩ := gW_int (show gW _ _ from q) (Nat.le_of_ble_eq_true rfl)
    cases e2
    have := gR0 r
    have w := gR0 (show gR (0, 7, 7, 0, 0, 0) (M' 60 16) from (p _ (List.mem_cons_of_mem _ List.mem_cons_self)).1)
    exact Or.inr (Or.inr (Or.inl ⟨this.1, this.2, w.1, w.2⟩))
  · obtain ⟨z2, e2, r⟩ := gW_int (show gW _ _ from q) (Nat.le_of_ble_eq_true rfl)
    cases e2
    have := gR0 r
    have w := gR0 (show gR (0, 0, 10, 0, 0, 0) (M' 60 16) from (p _ (List.mem_cons_of_mem _ List.mem_cons_self)).1)
    exact Or.inr (Or.inr (Or.inr ⟨this.1, this.2, w.1, w.2⟩))
theorem nu_M_guest1_8 {d : Nat} (hd : 5 ≤ d) {M : pM} {a1 : Int} {a2 : Int} (hM : gM gAll M) (h1 : -2147483648 ≤ a1 ∧ a1 ≤ 2147483647) (h2 : -2147483648 ≤ a2 ∧ a2 ≤ 2147483647) (p0 : 1 ≤ M 60 0 ∧ M 60 0 ≤ 6) (p1 : 8 ≤ M 60 16 ∧ M 60 16 ≤ 8) : ∃ z M', xF d 239 [.inr 62, .inl a1, .inl a2] M = rI z M' ∧ ((-1 ≤ z ∧ z ≤ -1 ∧ 8 ≤ M' 60 16 ∧ M' 60 16 ≤ 8) ∨ (-2 ≤ z ∧ z ≤ -2 ∧ 8 ≤ M' 60 16 ∧ M' 60 16 ≤ 8) ∨ (-3 ≤ z ∧ z ≤ -3 ∧ 8 ≤ M' 60 16 ∧ M' 60 16 ≤ 8) ∨ (0 ≤ z ∧ z ≤ 999999 ∧ 0 ≤ M' 60 16 ∧ M' 60 16 ≤ 10)) := by
  have c0 : cOK gAll (xF d) 239 K_959 := (ct_of (d := d) ct_ok (show K_959 ∈ CT.getD 239 [] from (show CT.getD 239 [] = [K_967, K_969, K_971, K_973, K_975, K_977, K_979, K_981, K_983, K_985, K_987, K_989, K_556, K_1080, K_943, K_945, K_947, K_949, K_951, K_953, K_955, K_957, K_959, K_961, K_963, K_965, K_1082, K_1084, K_1086, K_1088, K_1090, K_1092, K_1094, K_1096, K_1098, K_1100, K_554] from rfl) ▸ by simp) hd)
  obtain ⟨z, M', e, -, -, alt, ha, q, p⟩ := cOK_I c0 (A := [.inr 62, .inl a1, .inl a2]) (show aF2 gW [aRef 62, (0, -2147483648, 2147483647, 0, 0, 0), (0, -2147483648, 2147483647, 0, 0, 0)] [.inr 62, .inl a1, .inl a2] from ⟨gW_o, gW_i h1.1 h1.2, gW_i h2.1 h2.2, trivial⟩) hM (show gP0 [(60, 0, (0, 1, 6, 0, 0, 0)), (60, 16, (0, 8, 8, 0, 0, 0))] M from fun e he => by
    simp only [List.mem_cons, List.not_mem_nil, or_false] at he
    rcases he with rfl | rfl
    · exact gR_i p0.1 p0.2
    · exact gR_i p1.1 p1.2) rfl
  refine ⟨z, M', e, ?_⟩
  have ha : alt ∈ [(some (0, -1, -1, 0, 0, 0), [], [(60, 0, (0, 1, 6, 0, 0, 0)), (60, 16, (0, 8, 8, 0, 0, 0)), (60, 17, (0, 0, 0, 0, 0, 0))]), (some (0, -2, -2, 0, 0, 0), [(4, 0, 0, 0, 0, 0), (0, 0, 5, 0, 0, 0), (0, 0, 99, 0, 0, 0)], [(60, 0, (0, 1, 6, 0, 0, 0)), (60, 16, (0, 8, 8, 0, 0, 0)), (60, 17, (0, 0, 0, 0, 0, 0)), (60, 39, (0, 1, 20000, 0, 0, 0)), (60, 40, (0, 0, 1000000, 0, 0, 0))]), (some (0, -3, -3, 0, 0, 0), [(4, 0, 0, 0, 0, 0), (0, 0, 5, 0, 0, 0), (0, 0, 99, 0, 0, 0)], [(60, 0, (0, 1, 6, 0, 0, 0)), (60, 16, (0, 8, 8, 0, 0, 0)), (60, 17, (0, 0, 0, 0, 0, 0)), (60, 39, (0, 20001, 1000000, 0, 0, 0))]), (some (0, 0, 999999, 0, 0, 0), [(4, 0, 0, 0, 0, 0), (0, 0, 5, 0, 0, 0), (0, 0, 99, 0, 0, 0)], [(60, 0, (0, 1, 6, 0, 0, 0)), (60, 16, (0, 0, 10, 0, 0, 0)), (60, 17, (0, 0, 0, 0, 0, 0)), (60, 39, (0, 1, 20000, 0, 0, 0)), (60, 40, (0, 0, 1000000, 0, 0, 0))])] := ha
  simp only [List.mem_cons, List.not_mem_nil, or_false] at ha
  rcases ha with rfl | rfl | rfl | rfl
  · obtain ⟨z2, e2, r⟩ := gW_int (show gW _ _ from q) (Nat.le_of_ble_eq_true rfl)
    cases e2
    have := gR0 r
    have w := gR0 (show gR (0, 8, 8, 0, 0, 0) (M' 60 16) from (p _ (List.mem_cons_of_mem _ List.mem_cons_self)).1)
    exact Or.inl ⟨this.1, this.2, w.1, w.2⟩
  · obtain ⟨z2, e2, r⟩ := gW_int (show gW _ _ from q) (Nat.le_of_ble_eq_true rfl)
    cases e2
    have := gR0 r
    have w := gR0 (show gR (0, 8, 8, 0, 0, 0) (M' 60 16) from (p _ (List.mem_cons_of_mem _ List.mem_cons_self)).1)
    exact Or.inr (Or.inl ⟨this.1, this.2, w.1, w.2⟩)
  · obtain ⟨z2, e2, r⟩ := gW_int (show gW _ _ from q) (Nat.le_of_ble_eq_true rfl)
    cases e2
    have := gR0 r
    have w := gR0 (show gR (0, 8, 8, 0, 0, 0) (M' 60 16) from (p _ (List.mem_cons_of_mem _ List.mem_cons_self)).1)
    exact Or.inr (Or.inr (Or.inl ⟨this.1, this.2, w.1, w.2⟩))
  · obtain ⟨z2, e2, r⟩ := gW_int (show gW _ _ from q) (Nat.le_of_ble_eq_true rfl)
    cases e2
    have := gR0 r
    have w := gR0 (show gR (0, 0, 10, 0, 0, 0) (M' 60 16) from (p _ (List.mem_cons_of_mem _ List.mem_cons_self)).1)
    exact Or.inr (Or.inr (Or.inr ⟨this.1, this.2, w.1, w.2⟩))
theorem nu_M_guest1_9 {d : Nat} (hd : 5 ≤ d) {M : pM} {a1 : Int} {a2 : Int} (hM : gM gAll M) (h1 : -2147483648 ≤ a1 ∧ a1 ≤ 2147483647) (h2 : -2147483648 ≤ a2 ∧ a2 ≤ 2147483647) (p0 : 1 ≤ M 60 0 ∧ M 60 0 ≤ 6) (p1 : 9 ≤ M 60 16 ∧ M 60 16 ≤ 9) : ∃ z M', xF d 239 [.inr 62, .inl a1, .inl a2] M = rI z M' ∧ ((-1 ≤ z ∧ z ≤ -1 ∧ 9 ≤ M' 60 16 ∧ M' 60 16 ≤ 9) ∨ (-2 ≤ z ∧ z ≤ -2 ∧ 9 ≤ M' 60 16 ∧ M' 60 16 ≤ 9) ∨ (-3 ≤ z ∧ z ≤ -3 ∧ 9 ≤ M' 60 16 ∧ M' 60 16 ≤ 9) ∨ (0 ≤ z ∧ z ≤ 999999 ∧ 0 ≤ M' 60 16 ∧ M' 60 16 ≤ 10)) := by
  have c0 : cOK gAll (xF d) 239 K_961 := (ct_of (d := d) ct_ok (show K_961 ∈ CT.getD 239 [] from (show CT.getD 239 [] = [K_967, K_969, K_971, K_973, K_975, K_977, K_979, K_981, K_983, K_985, K_987, K_989, K_556, K_1080, K_943, K_945, K_947, K_949, K_951, K_953, K_955, K_957, K_959, K_961, K_963, K_965, K_1082, K_1084, K_1086, K_1088, K_1090, K_1092, K_1094, K_1096, K_1098, K_1100, K_554] from rfl) ▸ by simp) hd)
  obtain ⟨z, M', e, -, -, alt, ha, q, p⟩ := cOK_I c0 (A := [.inr 62, .inl a1, .inl a2]) (show aF2 gW [aRef 62, (0, -2147483648, 2147483647, 0, 0, 0), (0, -2147483648, 2147483647, 0, 0, 0)] [.inr 62, .inl a1, .inl a2] from ⟨gW_o, gW_i h1.1 h1.2, gW_i h2.1 h2.2, trivial⟩) hM (show gP0 [(60, 0, (0, 1, 6, 0, 0, 0)), (60, 16, (0, 9, 9, 0, 0, 0))] M from fun e he => by
    simp only [List.mem_cons, List.not_mem_nil, or_false] at he
    rcases he with rfl | rfl
    · exact gR_i p0.1 p0.2
    · exact gR_i p1.1 p1.2) rfl
  refine ⟨z, M', e, ?_⟩
  have ha : alt ∈ [(some (0, -1, -1, 0, 0, 0), [], [(60, 0, (0, 1, 6, 0, 0, 0)), (60, 16, (0, 9, 9, 0, 0, 0)), (60, 17, (0, 0, 0, 0, 0, 0))]), (some (0, -2, -2, 0, 0, 0), [(4, 0, 0, 0, 0, 0), (0, 0, 5, 0, 0, 0), (0, 0, 99, 0, 0, 0)], [(60, 0, (0, 1, 6, 0, 0, 0)), (60, 16, (0, 9, 9, 0, 0, 0)), (60, 17, (0, 0, 0, 0, 0, 0)), (60, 39, (0, 1, 20000, 0, 0, 0)), (60, 40, (0, 0, 1000000, 0, 0, 0))]), (some (0, -3, -3, 0, 0, 0), [(4, 0, 0, 0, 0, 0), (0, 0, 5, 0, 0, 0), (0, 0, 99, 0, 0, 0)], [(60, 0, (0, 1, 6, 0, 0, 0)), (60, 16, (0, 9, 9, 0, 0, 0)), (60, 17, (0, 0, 0, 0, 0, 0)), (60, 39, (0, 20001, 1000000, 0, 0, 0))]), (some (0, 0, 999999, 0, 0, 0), [(4, 0, 0, 0, 0, 0), (0, 0, 5, 0, 0, 0), (0, 0, 99, 0, 0, 0)], [(60, 0, (0, 1, 6, 0, 0, 0)), (60, 16, (0, 0, 10, 0, 0, 0)), (60, 17, (0, 0, 0, 0, 0, 0)), (60, 39, (0, 1, 20000, 0, 0, 0)), (60, 40, (0, 0, 1000000, 0, 0, 0))])] := ha
  simp only [List.mem_cons, List.not_mem_nil, or_false] at ha
  rcases ha with rfl | rfl | rfl | rfl
  · obtain ⟨z2, e2, r⟩ := gW_int (show gW _ _ from q) (Nat.le_of_ble_eq_true rfl)
    cases e2
    have := gR0 r
    have w := gR0 (show gR (0, 9, 9, 0, 0, 0) (M' 60 16) from (p _ (List.mem_cons_of_mem _ List.mem_cons_self)).1)
    exact Or.inl ⟨this.1, this.2, w.1, w.2⟩
  · obtain ⟨z2, e2, r⟩ := gW_int (show gW _ _ from q) (Nat.le_of_ble_eq_true rfl)
    cases e2
    have := gR0 r
    have w := gR0 (show gR (0, 9, 9, 0, 0, 0) (M' 60 16) from (p _ (List.mem_cons_of_mem _ List.mem_cons_self)).1)
    exact Or.inr (Or.inl ⟨this.1, this.2, w.1, w.2⟩)
  · obtain ⟨z2, e2, r⟩ := gW_int (show gW _ _ from q) (Nat.le_of_ble_eq_true rfl)
    cases e2
    have := gR0 r
    have w := gR0 (show gR (0, 9, 9, 0, 0, 0) (M' 60 16) from (p _ (List.mem_cons_of_mem _ List.mem_cons_self)).1)
    exact Or.inr (Or.inr (Or.inl ⟨this.1, this.2, w.1, w.2⟩))
  · obtain ⟨z2, e2, r⟩ := gW_int (show gW _ _ from q) (Nat.le_of_ble_eq_true rfl)
    cases e2
    have := gR0 r
    have w := gR0 (show gR (0, 0, 10, 0, 0, 0) (M' 60 16) from (p _ (List.mem_cons_of_mem _ List.mem_cons_self)).1)
    exact Or.inr (Or.inr (Or.inr ⟨this.1, this.2, w.1, w.2⟩))
theorem nu_M_guest1_10 {d : Nat} (hd : 5 ≤ d) {M : pM} {a1 : Int} {a2 : Int} (hM : gM gAll M) (h1 : -2147483648 ≤ a1 ∧ a1 ≤ 2147483647) (h2 : -2147483648 ≤ a2 ∧ a2 ≤ 2147483647) (p0 : 1 ≤ M 60 0 ∧ M 60 0 ≤ 6) (p1 : 10 ≤ M 60 16 ∧ M 60 16 ≤ 10) : ∃ z M', xF d 239 [.inr 62, .inl a1, .inl a2] M = rI z M' ∧ ((-1 ≤ z ∧ z ≤ -1 ∧ 10 ≤ M' 60 16 ∧ M' 60 16 ≤ 10) ∨ (-2 ≤ z ∧ z ≤ -2 ∧ 10 ≤ M' 60 16 ∧ M' 60 16 ≤ 10) ∨ (-3 ≤ z ∧ z ≤ -3 ∧ 10 ≤ M' 60 16 ∧ M' 60 16 ≤ 10) ∨ (0 ≤ z ∧ z ≤ 999999 ∧ 0 ≤ M' 60 16 ∧ M' 60 16 ≤ 10)) := by
  have c0 : cOK gAll (xF d) 239 K_963 := (ct_of (d := d) ct_ok (show K_963 ∈ CT.getD 239 [] from (show CT.getD 239 [] = [K_967, K_969, K_971, K_973, K_975, K_977, K_979, K_981, K_983, K_985, K_987, K_989, K_556, K_1080, K_943, K_945, K_947, K_949, K_951, K_953, K_955, K_957, K_959, K_961, K_963, K_965, K_1082, K_1084, K_1086, K_1088, K_1090, K_1092, K_1094, K_1096, K_1098, K_1100, K_554] from rfl) ▸ by simp) hd)
  obtain ⟨z, M', e, -, -, alt, ha, q, p⟩ := cOK_I c0 (A := [.inr 62, .inl a1, .inl a2]) (show aF2 gW [aRef 62, (0, -2147483648, 2147483647, 0, 0, 0), (0, -2147483648, 2147483647, 0, 0, 0)] [.inr 62, .inl a1, .inl a2] from ⟨gW_o, gW_i h1.1 h1.2, gW_i h2.1 h2.2, trivial⟩) hM (show gP0 [(60, 0, (0, 1, 6, 0, 0, 0)), (60, 16, (0, 10, 10, 0, 0, 0))] M from fun e he => by
    simp only [List.mem_cons, List.not_mem_nil, or_false] at he
    rcases he with rfl | rfl
    · exact gR_i p0.1 p0.2
    · exact gR_i p1.1 p1.2) rfl
  refine ⟨z, M', e, ?_⟩
  have ha : alt ∈ [(some (0, -1, -1, 0, 0, 0), [], [(60, 0, (0, 1, 6, 0, 0, 0)), (60, 16, (0, 10, 10, 0, 0, 0)), (60, 17, (0, 0, 0, 0, 0, 0))]), (some (0, -2, -2, 0, 0, 0), [(4, 0, 0, 0, 0, 0), (0, 0, 5, 0, 0, 0), (0, 0, 99, 0, 0, 0)], [(60, 0, (0, 1, 6, 0, 0, 0)), (60, 16, (0, 10, 10, 0, 0, 0)), (60, 17, (0, 0, 0, 0, 0, 0)), (60, 39, (0, 1, 20000, 0, 0, 0)), (60, 40, (0, 0, 1000000, 0, 0, 0))]), (some (0, -3, -3, 0, 0, 0), [(4, 0, 0, 0, 0, 0), (0, 0, 5, 0, 0, 0), (0, 0, 99, 0, 0, 0)], [(60, 0, (0, 1, 6, 0, 0, 0)), (60, 16, (0, 10, 10, 0, 0, 0)), (60, 17, (0, 0, 0, 0, 0, 0)), (60, 39, (0, 20001, 1000000, 0, 0, 0))]), (some (0, 0, 999999, 0, 0, 0), [(4, 0, 0, 0, 0, 0), (0, 0, 5, 0, 0, 0), (0, 0, 99, 0, 0, 0)], [(60, 0, (0, 1, 6, 0, 0, 0)), (60, 16, (0, 0, 10, 0, 0, 0)), (60, 17, (0, 0, 0, 0, 0, 0)), (60, 39, (0, 1, 20000, 0, 0, 0)), (60, 40, (0, 0, 1000000, 0, 0, 0))])] := ha
  simp only [List.mem_cons, List.not_mem_nil, or_false] at ha
  rcases ha with rfl | rfl | rfl | rfl
  · obtain ⟨z2, e2, r⟩ := gW_int (show gW _ _ from q) (Nat.le_of_ble_eq_true rfl)
    cases e2
    have := gR0 r
    have w := gR0 (show gR (0, 10, 10, 0, 0, 0) (M' 60 16) from (p _ (List.mem_cons_of_mem _ List.mem_cons_self)).1)
    exact Or.inl ⟨this.1, this.2, w.1, w.2⟩
  · obtain ⟨z2, e2, r⟩ := gW_int (show gW _ _ from q) (Nat.le_of_ble_eq_true rfl)
    cases e2
    have := gR0 r
    have w := gR0 (show gR (0, 10, 10, 0, 0, 0) (M' 60 16) from (p _ (List.mem_cons_of_mem _ List.mem_cons_self)).1)
    exact Or.inr (Or.inl ⟨this.1, this.2, w.1, w.2⟩)
  · obtain ⟨z2, e2, r⟩ := gW_int (show gW _ _ from q) (Nat.le_of_ble_eq_true rfl)
    cases e2
    have := gR0 r
    have w := gR0 (show gR (0, 10, 10, 0, 0, 0) (M' 60 16) from (p _ (List.mem_cons_of_mem _ List.mem_cons_self)).1)
    exact Or.inr (Or.inr (Or.inl ⟨this.1, this.2, w.1, w.2⟩))
  · obtain ⟨z2, e2, r⟩ := gW_int (show gW _ _ from q) (Nat.le_of_ble_eq_true rfl)
    cases e2
    have := gR0 r
    have w := gR0 (show gR (0, 0, 10, 0, 0, 0) (M' 60 16) from (p _ (List.mem_cons_of_mem _ List.mem_cons_self)).1)
    exact Or.inr (Or.inr (Or.inr ⟨this.1, this.2, w.1, w.2⟩))
theorem nu_M_guest1_11 {d : Nat} (hd : 5 ≤ d) {M : pM} {a1 : Int} {a2 : Int} (hM : gM gAll M) (h1 : -2147483648 ≤ a1 ∧ a1 ≤ 2147483647) (h2 : -2147483648 ≤ a2 ∧ a2 ≤ 2147483647) (p0 : 1 ≤ M 60 0 ∧ M 60 0 ≤ 6) (p1 : 11 ≤ M 60 16 ∧ M 60 16 ≤ 11) : ∃ z M', xF d 239 [.inr 62, .inl a1, .inl a2] M = rI z M' ∧ ((-1 ≤ z ∧ z ≤ -1 ∧ 11 ≤ M' 60 16 ∧ M' 60 16 ≤ 11) ∨ (-2 ≤ z ∧ z ≤ -2 ∧ 11 ≤ M' 60 16 ∧ M' 60 16 ≤ 11) ∨ (-3 ≤ z ∧ z ≤ -3 ∧ 11 ≤ M' 60 16 ∧ M' 60 16 ≤ 11) ∨ (0 ≤ z ∧ z ≤ 999999 ∧ 0 ≤ M' 60 16 ∧ M' 60 16 ≤ 10)) := by
  have c0 : cOK gAll (xF d) 239 K_965 := (ct_of (d := d) ct_ok (show K_965 ∈ CT.getD 239 [] from (show CT.getD 239 [] = [K_967, K_969, K_971, K_973, K_975, K_977, K_979, K_981, K_983, K_985, K_987, K_989, K_556, K_1080, K_943, K_945, K_947, K_949, K_951, K_953, K_955, K_957, K_959, K_961, K_963, K_965, K_1082, K_1084, K_1086, K_1088, K_1090, K_1092, K_1094, K_1096, K_1098, K_1100, K_554] from rfl) ▸ by simp) hd)
  obtain ⟨z, M', e, -, -, alt, ha, q, p⟩ := cOK_I c0 (A := [.inr 62, .inl a1, .inl a2]) (show aF2 gW [aRef 62, (0, -2147483648, 2147483647, 0, 0, 0), (0, -2147483648, 2147483647, 0, 0, 0)] [.inr 62, .inl a1, .inl a2] from ⟨gW_o, gW_i h1.1 h1.2, gW_i h2.1 h2.2, trivial⟩) hM (show gP0 [(60, 0, (0, 1, 6, 0, 0, 0)), (60, 16, (0, 11, 11, 0, 0, 0))] M from fun e he => by
    simp only [List.mem_cons, List.not_mem_nil, or_false] at he
    rcases he with rfl | rfl
    · exact gR_i p0.1 p0.2
    · exact gR_i p1.1 p1.2) rfl
  refine ⟨z, M', e, ?_⟩
  have ha : alt ∈ [(some (0, -1, -1, 0, 0, 0), [], [(60, 0, (0, 1, 6, 0, 0, 0)), (60, 16, (0, 11, 11, 0, 0, 0)), (60, 17, (0, 0, 0, 0, 0, 0))]), (some (0, -2, -2, 0, 0, 0), [(4, 0, 0, 0, 0, 0), (0, 0, 5, 0, 0, 0), (0, 0, 99, 0, 0, 0)], [(60, 0, (0, 1, 6, 0, 0, 0)), (60, 16, (0, 11, 11, 0, 0, 0)), (60, 17, (0, 0, 0, 0, 0, 0)), (60, 39, (0, 1, 20000, 0, 0, 0)), (60, 40, (0, 0, 1000000, 0, 0, 0))]), (some (0, -3, -3, 0, 0, 0), [(4, 0, 0, 0, 0, 0), (0, 0, 5, 0, 0, 0), (0, 0, 99, 0, 0, 0)], [(60, 0, (0, 1, 6, 0, 0, 0)), (60, 16, (0, 11, 11, 0, 0, 0)), (60, 17, (0, 0, 0, 0, 0, 0)), (60, 39, (0, 20001, 1000000, 0, 0, 0))]), (some (0, 0, 999999, 0, 0, 0), [(4, 0, 0, 0, 0, 0), (0, 0, 5, 0, 0, 0), (0, 0, 99, 0, 0, 0)], [(60, 0, (0, 1, 6, 0, 0, 0)), (60, 16, (0, 0, 10, 0, 0, 0)), (60, 17, (0, 0, 0, 0, 0, 0)), (60, 39, (0, 1, 20000, 0, 0, 0)), (60, 40, (0, 0, 1000000, 0, 0, 0))])] := ha
  simp only [List.mem_cons, List.not_mem_nil, or_false] at ha
  rcases ha with rfl | rfl | rfl | rfl
  · obtain ⟨z2, e2, r⟩ := gW_int (show gW _ _ from q) (Nat.le_of_ble_eq_true rfl)
    cases e2
    have := gR0 r
    have w := gR0 (show gR (0, 11, 11, 0, 0, 0) (M' 60 16) from (p _ (List.mem_cons_of_mem _ List.mem_cons_self)).1)
    exact Or.inl ⟨this.1, this.2, w.1, w.2⟩
  · obtain ⟨z2, e2, r⟩ := gW_int (show gW _ _ from q) (Nat.le_of_ble_eq_true rfl)
    cases e2
    have := gR0 r
    have w := gR0 (show gR (0, 11, 11, 0, 0, 0) (M' 60 16) from (p _ (List.mem_cons_of_mem _ List.mem_cons_self)).1)
    exact Or.inr (Or.inl ⟨this.1, this.2, w.1, w.2⟩)
  · obtain ⟨z2, e2, r⟩ := gW_int (show gW _ _ from q) (Nat.le_of_ble_eq_true rfl)
    cases e2
    have := gR0 r
    have w := gR0 (show gR (0, 11, 11, 0, 0, 0) (M' 60 16) from (p _ (List.mem_cons_of_mem _ List.mem_cons_self)).1)
    exact Or.inr (Or.inr (Or.inl ⟨this.1, this.2, w.1, w.2⟩))
  · obtain ⟨z2, e2, r⟩ := gW_int (show gW _ _ from q) (Nat.le_of_ble_eq_true rfl)
    cases e2
    have := gR0 r
    have w := gR0 (show gR (0, 0, 10, 0, 0, 0) (M' 60 16) from (p _ (List.mem_cons_of_mem _ List.mem_cons_self)).1)
    exact Or.inr (Or.inr (Or.inr ⟨this.1, this.2, w.1, w.2⟩))
theorem nu_M_guest1 {d : Nat} (hd : 5 ≤ d) {M M' : pM} {a1 : Int} {a2 : Int} {v : Int} (hM : gM gAll M) (h1 : -2147483648 ≤ a1 ∧ a1 ≤ 2147483647) (h2 : -2147483648 ≤ a2 ∧ a2 ≤ 2147483647) (p0 : 1 ≤ M 60 0 ∧ M 60 0 ≤ 6) {n : Nat} (hn : n ≤ 11) (hc : M 60 16 = (n : Int)) (e : xF d 239 [.inr 62, .inl a1, .inl a2] M = rI v M') : (-1 ≤ v ∧ v ≤ -1 ∧ M' 60 16 = (n : Int)) ∨ (-2 ≤ v ∧ v ≤ -2 ∧ M' 60 16 = (n : Int)) ∨ (-3 ≤ v ∧ v ≤ -3 ∧ M' 60 16 = (n : Int)) ∨ (0 ≤ v ∧ v ≤ 999999 ∧ 0 ≤ M' 60 16 ∧ M' 60 16 ≤ 10) := by
  rcases (show n = 0 ∨ n = 1 ∨ n = 2 ∨ n = 3 ∨ n = 4 ∨ n = 5 ∨ n = 6 ∨ n = 7 ∨ n = 8 ∨ n = 9 ∨ n = 10 ∨ n = 11 by omega) with rfl | rfl | rfl | rfl | rfl | rfl | rfl | rfl | rfl | rfl | rfl | rfl
  · obtain ⟨z, M2, e2, r⟩ := nu_M_guest1_0 (d := d) (by omega) hM h1 h2 p0 (by omega)
    obtain ⟨y1, y2⟩ := rI_inj (e.symm.trans e2)
    rw [y1, y2]
    rcases r with r | r | r | r
    · exact Or.inl (by omega)
    · exact Or.inr (Or.inl (by omega))
    · exact Or.inr (Or.inr (Or.inl (by omega)))
    · exact Or.inr (Or.inr (Or.inr ((by omega))))
  · obtain ⟨z, M2, e2, r⟩ := nu_M_guest1_1 (d := d) (by omega) hM h1 h2 p0 (by omega)
    obtain ⟨y1, y2⟩ := rI_inj (e.symm.trans e2)
    rw [y1, y2]
    rcases r with r | r | r | r
    · exact Or.inl (by omega)
    · exact Or.inr (Or.inl (by omega))
    · exact Or.inr (Or.inr (Or.inl (by omega)))
    · exact Or.inr (Or.inr (Or.inr ((by omega))))
  · obtain ⟨z, M2, e2, r⟩ := nu_M_guest1_2 (d := d) (by omega) hM h1 h2 p0 (by omega)
    obtain ⟨y1, y2⟩ := rI_inj (e.symm.trans e2)
    rw [y1, y2]
    rcases r with r | r | r | r
    · exact Or.inl (by omega)
    · exact Or.inr (Or.inl (by omega))
    · exact Or.inr (Or.inr (Or.inl (by omega)))
    · exact Or.inr (Or.inr (Or.inr ((by omega))))
  · obtain ⟨z, M2, e2, r⟩ := nu_M_guest1_3 (d := d) (by omega) hM h1 h2 p0 (by omega)
    obtain ⟨y1, y2⟩ := rI_inj (e.symm.trans e2)
    rw [y1, y2]
    rcases r with r | r | r | r
    · exact Or.inl (by omega)
    · exact Or.inr (Or.inl (by omega))
    · exact Or.inr (Or.inr (Or.inl (by omega)))
    · exact Or.inr (Or.inr (Or.inr ((by omega))))
  · obtain ⟨z, M2, e2, r⟩ := nu_M_guest1_4 (d := d) (by omega) hM h1 h2 p0 (by omega)
    obtain ⟨y1, y2⟩ := rI_inj (e.symm.trans e2)
    rw [y1, y2]
    rcases r with r | r | r | r
    · exact Or.inl (by omega)
    · exact Or.inr (Or.inl (by omega))
    · exact Or.inr (Or.inr (Or.inl (by omega)))
    · exact Or.inr (Or.inr (Or.inr ((by omega))))
  · obtain ⟨z, M2, e2, r⟩ := nu_M_guest1_5 (d := d) (by omega) hM h1 h2 p0 (by omega)
    obtain ⟨y1, y2⟩ := rI_inj (e.symm.trans e2)
    rw [y1, y2]
    rcases r with r | r | r | r
    · exact Or.inl (by omega)
    · exact Or.inr (Or.inl (by omega))
    · exact Or.inr (Or.inr (Or.inl (by omega)))
    · exact Or.inr (Or.inr (Or.inr ((by omega))))
  · obtain ⟨z, M2, e2, r⟩ := nu_M_guest1_6 (d := d) (by omega) hM h1 h2 p0 (by omega)
    obtain ⟨y1, y2⟩ := rI_inj (e.symm.trans e2)
    rw [y1, y2]
    rcases r with r | r | r | r
    · exact Or.inl (by omega)
    · exact Or.inr (Or.inl (by omega))
    · exact Or.inr (Or.inr (Or.inl (by omega)))
    · exact Or.inr (Or.inr (Or.inr ((by omega))))
  · obtain ⟨z, M2, e2, r⟩ := nu_M_guest1_7 (d := d) (by omega) hM h1 h2 p0 (by omega)
    obtain ⟨y1, y2⟩ := rI_inj (e.symm.trans e2)
    rw [y1, y2]
    rcases r with r | r | r | r
    · exact Or.inl (by omega)
    · exact Or.inr (Or.inl (by omega))
    · exact Or.inr (Or.inr (Or.inl (by omega)))
    · exact Or.inr (Or.inr (Or.inr ((by omega))))
  · obtain ⟨z, M2, e2, r⟩ := nu_M_guest1_8 (d := d) (by omega) hM h1 h2 p0 (by omega)
    obtain ⟨y1, y2⟩ := rI_inj (e.symm.trans e2)
    rw [y1, y2]
    rcases r with r | r | r | r
    · exact Or.inl (by omega)
    · exact Or.inr (Or.inl (by omega))
    · exact Or.inr (Or.inr (Or.inl (by omega)))
    · exact Or.inr (Or.inr (Or.inr ((by omega))))
  · obtain ⟨z, M2, e2, r⟩ := nu_M_guest1_9 (d := d) (by omega) hM h1 h2 p0 (by omega)
    obtain ⟨y1, y2⟩ := rI_inj (e.symm.trans e2)
    rw [y1, y2]
    rcases r with r | r | r | r
    · exact Or.inl (by omega)
    · exact Or.inr (Or.inl (by omega))
    · exact Or.inr (Or.inr (Or.inl (by omega)))
    · exact Or.inr (Or.inr (Or.inr ((by omega))))
  · obtain ⟨z, M2, e2, r⟩ := nu_M_guest1_10 (d := d) (by omega) hM h1 h2 p0 (by omega)
    obtain ⟨y1, y2⟩ := rI_inj (e.symm.trans e2)
    rw [y1, y2]
    rcases r with r | r | r | r
    · exact Or.inl (by omega)
    · exact Or.inr (Or.inl (by omega))
    · exact Or.inr (Or.inr (Or.inl (by omega)))
    · exact Or.inr (Or.inr (Or.inr ((by omega))))
  · obtain ⟨z, M2, e2, r⟩ := nu_M_guest1_11 (d := d) (by omega) hM h1 h2 p0 (by omega)
    obtain ⟨y1, y2⟩ := rI_inj (e.symm.trans e2)
    rw [y1, y2]
    rcases r with r | r | r | r
    · exact Or.inl (by omega)
    · exact Or.inr (Or.inl (by omega))
    · exact Or.inr (Or.inr (Or.inl (by omega)))
    · exact Or.inr (Or.inr (Or.inr ((by omega))))
theorem nu_M_guest0_0 {d : Nat} (hd : 5 ≤ d) {M : pM} {a1 : Int} {a2 : Int} (hM : gM gAll M) (h1 : -2147483648 ≤ a1 ∧ a1 ≤ 2147483647) (h2 : -2147483648 ≤ a2 ∧ a2 ≤ 2147483647) (p0 : 0 ≤ M 60 0 ∧ M 60 0 ≤ 0) (p1 : 0 ≤ M 60 3 ∧ M 60 3 ≤ 0) (p2 : 0 ≤ M 60 16 ∧ M 60 16 ≤ 0) : ∃ z M', xF d 239 [.inr 62, .inl a1, .inl a2] M = rI z M' ∧ ((-1 ≤ z ∧ z ≤ -1 ∧ 0 ≤ M' 60 16 ∧ M' 60 16 ≤ 0) ∨ (-2 ≤ z ∧ z ≤ -2 ∧ 0 ≤ M' 60 16 ∧ M' 60 16 ≤ 0) ∨ (0 ≤ z ∧ z ≤ 999999 ∧ 0 ≤ M' 60 16 ∧ M' 60 16 ≤ 0)) := by
  have c0 : cOK gAll (xF d) 239 K_967 := (ct_of (d := d) ct_ok (show K_967 ∈ CT.getD 239 [] from (show CT.getD 239 [] = [K_967, K_969, K_971, K_973, K_975, K_977, K_979, K_981, K_983, K_985, K_987, K_989, K_556, K_1080, K_943, K_945, K_947, K_949, K_951, K_953, K_955, K_957, K_959, K_961, K_963, K_965, K_1082, K_1084, K_1086, K_1088, K_1090, K_1092, K_1094, K_1096, K_1098, K_1100, K_554] from rfl) ▸ by simp) hd)
  obtain ⟨z, M', e, -, -, alt, ha, q, p⟩ := cOK_I c0 (A := [.inr 62, .inl a1, .inl a2]) (show aF2 gW [aRef 62, (0, -2147483648, 2147483647, 0, 0, 0), (0, -2147483648, 2147483647, 0, 0, 0)] [.inr 62, .inl a1, .inl a2] from ⟨gW_o, gW_i h1.1 h1.2, gW_i h2.1 h2.2, trivial⟩) hM (show gP0 [(60, 0, (0, 0, 0, 0, 0, 0)), (60, 3, (0, 0, 0, 0, 0, 0)), (60, 16, (0, 0, 0, 0, 0, 0))] M from fun e he => by
    simp only [List.mem_cons, List.not_mem_nil, or_false] at he
    rcases he with rfl | rfl | rfl
    · exact gR_i p0.1 p0.2
    · exact gR_i p1.1 p1.2
    · exact gR_i p2.1 p2.2) rfl
  refine ⟨z, M', e, ?_⟩
  have ha : alt ∈ [(some (0, -1, -1, 0, 0, 0), [], [(60, 0, (0, 0, 0, 0, 0, 0)), (60, 3, (0, 0, 0, 0, 0, 0)), (60, 16, (0, 0, 0, 0, 0, 0)), (60, 17, (0, 0, 0, 0, 0, 0))]), (some (0, -2, -2, 0, 0, 0), [(4, 0, 0, 0, 0, 0), (0, 0, 5, 0, 0, 0), (0, 0, 99, 0, 0, 0)], [(60, 0, (0, 0, 0, 0, 0, 0)), (60, 3, (0, 0, 0, 0, 0, 0)), (60, 16, (0, 0, 0, 0, 0, 0)), (60, 17, (0, 0, 0, 0, 0, 0)), (60, 30, (0, 0, 0, 0, 0, 0)), (60, 39, (0, 1, 1, 0, 0, 0)), (60, 40, (0, 0, 1000000, 0, 0, 0))]), (some (0, 0, 999999, 0, 0, 0), [(4, 0, 0, 0, 0, 0), (0, 0, 5, 0, 0, 0), (0, 0, 99, 0, 0, 0)], [(60, 0, (0, 0, 0, 0, 0, 0)), (60, 3, (0, 0, 0, 0, 0, 0)), (60, 16, (0, 0, 0, 0, 0, 0)), (60, 17, (0, 0, 0, 0, 0, 0)), (60, 30, (0, 0, 0, 0, 0, 0)), (60, 39, (0, 1, 1, 0, 0, 0)), (60, 40, (0, 0, 1000000, 0, 0, 0))])] := ha
  simp only [List.mem_cons, List.not_mem_nil, or_false] at ha
  rcases ha with rfl | rfl | rfl
  · obtain ⟨z2, e2, r⟩ := gW_int (show gW _ _ from q) (Nat.le_of_ble_eq_true rfl)
    cases e2
    have := gR0 r
    have w := gR0 (show gR (0, 0, 0, 0, 0, 0) (M' 60 16) from (p _ (List.mem_cons_of_mem _ (List.mem_cons_of_mem _ List.mem_cons_self))).1)
    exact Or.inl ⟨this.1, this.2, w.1, w.2⟩
  · obtain ⟨z2, e2, r⟩ := gW_int (show gW _ _ from q) (Nat.le_of_ble_eq_true rfl)
    cases e2
    have := gR0 r
    have w := gR0 (show gR (0, 0, 0, 0, 0, 0) (M' 60 16) from (p _ (List.mem_cons_of_mem _ (List.mem_cons_of_mem _ List.mem_cons_self))).1)
    exact Or.inr (Or.inl ⟨this.1, this.2, w.1, w.2⟩)
  · obtain ⟨z2, e2, r⟩ := gW_int (show gW _ _ from q) (Nat.le_of_ble_eq_true rfl)
    cases e2
    have := gR0 r
    have w := gR0 (show gR (0, 0, 0, 0, 0, 0) (M' 60 16) from (p _ (List.mem_cons_of_mem _ (List.mem_cons_of_mem _ List.mem_cons_self))).1)
    exact Or.inr (Or.inr ⟨this.1, this.2, w.1, w.2⟩)
theorem nu_M_guest0_1 {d : Nat} (hd : 5 ≤ d) {M : pM} {a1 : Int} {a2 : Int} (hM : gM gAll M) (h1 : -2147483648 ≤ a1 ∧ a1 ≤ 2147483647) (h2 : -2147483648 ≤ a2 ∧ a2 ≤ 2147483647) (p0 : 0 ≤ M 60 0 ∧ M 60 0 ≤ 0) (p1 : 0 ≤ M 60 3 ∧ M 60 3 ≤ 0) (p2 : 1 ≤ M 60 16 ∧ M 60 16 ≤ 1) : ∃ z M', xF d 239 [.inr 62, .inl a1, .inl a2] M = rI z M' ∧ ((-1 ≤ z ∧ z ≤ -1 ∧ 1 ≤ M' 60 16 ∧ M' 60 16 ≤ 1) ∨ (-2 ≤ z ∧ z ≤ -2 ∧ 1 ≤ M' 60 16 ∧ M' 60 16 ≤ 1) ∨ (0 ≤ z ∧ z ≤ 999999 ∧ 0 ≤ M' 60 16 ∧ M' 60 16 ≤ 0)) := by
  have c0 : cOK gAll (xF d) 239 K_969 := (ct_of (d := d) ct_ok (show K_969 ∈ CT.getD 239 [] from (show CT.getD 239 [] = [K_967, K_969, K_971, K_973, K_975, K_977, K_979, K_981, K_983, K_985, K_987, K_989, K_556, K_1080, K_943, K_945, K_947, K_949, K_951, K_953, K_955, K_957, K_959, K_961, K_963, K_965, K_1082, K_1084, K_1086, K_1088, K_1090, K_1092, K_1094, K_1096, K_1098, K_1100, K_554] from rfl) ▸ by simp) hd)
  obtain ⟨z, M', e, -, -, alt, ha, q, p⟩ := cOK_I c0 (A := [.inr 62, .inl a1, .inl a2]) (show aF2 gW [aRef 62, (0, -2147483648, 2147483647, 0, 0, 0), (0, -2147483648, 2147483647, 0, 0, 0)] [.inr 62, .inl a1, .inl a2] from ⟨gW_o, gW_i h1.1 h1.2, gW_i h2.1 h2.2, trivial⟩) hM (show gP0 [(60, 0, (0, 0, 0, 0, 0, 0)), (60, 3, (0, 0, 0, 0, 0, 0)), (60, 16, (0, 1, 1, 0, 0, 0))] M from fun e he => by
    simp only [List.mem_cons, List.not_mem_nil, or_false] at he
    rcases he with rfl | rfl | rfl
    · exact gR_i p0.1 p0.2
    · exact gR_i p1.1 p1.2
    · exact gR_i p2.1 p2.2) rfl
  refine ⟨z, M', e, ?_⟩
  have ha : alt ∈ [(some (0, -1, -1, 0, 0, 0), [], [(60, 0, (0, 0, 0, 0, 0, 0)), (60, 3, (0, 0, 0, 0, 0, 0)), (60, 16, (0, 1, 1, 0, 0, 0)), (60, 17, (0, 0, 0, 0, 0, 0))]), (some (0, -2, -2, 0, 0, 0), [(4, 0, 0, 0, 0, 0), (0, 0, 5, 0, 0, 0), (0, 0, 99, 0, 0, 0)], [(60, 0, (0, 0, 0, 0, 0, 0)), (60, 3, (0, 0, 0, 0, 0, 0)), (60, 16, (0, 1, 1, 0, 0, 0)), (60, 17, (0, 0, 0, 0, 0, 0)), (60, 30, (0, 0, 0, 0, 0, 0)), (60, 39, (0, 1, 1, 0, 0, 0)), (60, 40, (0, 0, 1000000, 0, 0, 0))]), (some (0, 0, 999999, 0, 0, 0), [(4, 0, 0, 0, 0, 0), (0, 0, 5, 0, 0, 0), (0, 0, 99, 0, 0, 0)], [(60, 0, (0, 0, 0, 0, 0, 0)), (60, 3, (0, 0, 0, 0, 0, 0)), (60, 16, (0, 0, 0, 0, 0, 0)), (60, 17, (0, 0, 0, 0, 0, 0)), (60, 30, (0, 0, 0, 0, 0, 0)), (60, 39, (0, 1, 1, 0, 0, 0)), (60, 40, (0, 0, 1000000, 0, 0, 0))])] := ha
  simp only [List.mem_cons, List.not_mem_nil, or_false] at ha
  rcases ha with rfl | rfl | rfl
  · obtain ⟨z2, e2, r⟩ := gW_int (show gW _ _ from q) (Nat.le_of_ble_eq_true rfl)
    cases e2
    have := gR0 r
    have w := gR0 (show gR (0, 1, 1, 0, 0, 0) (M' 60 16) from (p _ (List.mem_cons_of_mem _ (List.mem_cons_of_mem _ List.mem_cons_self))).1)
    exact Or.inl ⟨this.1, this.2, w.1, w.2⟩
  · obtain ⟨z2, e2, r⟩ := gW_int (show gW _ _ from q) (Nat.le_of_ble_eq_true rfl)
    cases e2
    have := gR0 r
    have w := gR0 (show gR (0, 1, 1, 0, 0, 0) (M' 60 16) from (p _ (List.mem_cons_of_mem _ (List.mem_cons_of_mem _ List.mem_cons_self))).1)
    exact Or.inr (Or.inl ⟨this.1, this.2, w.1, w.2⟩)
  · obtain ⟨z2, e2, r⟩ := gW_int (show gW _ _ from q) (Nat.le_of_ble_eq_true rfl)
    cases e2
    have := gR0 r
    have w := gR0 (show gR (0, 0, 0, 0, 0, 0) (M' 60 16) from (p _ (List.mem_cons_of_mem _ (List.mem_cons_of_mem _ List.mem_cons_self))).1)
    exact Or.inr (Or.inr ⟨this.1, this.2, w.1, w.2⟩)
theorem nu_M_guest0_2 {d : Nat} (hd : 5 ≤ d) {M : pM} {a1 : Int} {a2 : Int} (hM : gM gAll M) (h1 : -2147483648 ≤ a1 ∧ a1 ≤ 2147483647) (h2 : -2147483648 ≤ a2 ∧ a2 ≤ 2147483647) (p0 : 0 ≤ M 60 0 ∧ M 60 0 ≤ 0) (p1 : 0 ≤ M 60 3 ∧ M 60 3 ≤ 0) (p2 : 2 ≤ M 60 16 ∧ M 60 16 ≤ 2) : ∃ z M', xF d 239 [.inr 62, .inl a1, .inl a2] M = rI z M' ∧ ((-1 ≤ z ∧ z ≤ -1 ∧ 2 ≤ M' 60 16 ∧ M' 60 16 ≤ 2) ∨ (-2 ≤ z ∧ z ≤ -2 ∧ 2 ≤ M' 60 16 ∧ M' 60 16 ≤ 2) ∨ (0 ≤ z ∧ z ≤ 999999 ∧ 0 ≤ M' 60 16 ∧ M' 60 16 ≤ 0)) := by
  have c0 : cOK gAll (xF d) 239 K_971 := (ct_of (d := d) ct_ok (show K_971 ∈ CT.getD 239 [] from (show CT.getD 239 [] = [K_967, K_969, K_971, K_973, K_975, K_977, K_979, K_981, K_983, K_985, K_987, K_989, K_556, K_1080, K_943, K_945, K_947, K_949, K_951, K_953, K_955, K_957, K_959, K_961, K_963, K_965, K_1082, K_1084, K_1086, K_1088, K_1090, K_1092, K_1094, K_1096, K_1098, K_1100, K_554] from rfl) ▸ by simp) hd)
  obtain ⟨z, M', e, -, -, alt, ha, q, p⟩ := cOK_I c0 (A := [.inr 62, .inl a1, .inl a2]) (show aF2 gW [aRef 62, (0, -2147483648, 2147483647, 0, 0, 0), (0, -2147483648, 2147483647, 0, 0, 0)] [.inr 62, .inl a1, .inl a2] from ⟨gW_o, gW_i h1.1 h1.2, gW_i h2.1 h2.2, trivial⟩) hM (show gP0 [(60, 0, (0, 0, 0, 0, 0, 0)), (60, 3, (0, 0, 0, 0, 0, 0)), (60, 16, (0, 2, 2, 0, 0, 0))] M from fun e he => by
    simp only [List.mem_cons, List.not_mem_nil, or_false] at he
    rcases he with rfl | rfl | rfl
    · exact gR_i p0.1 p0.2
    · exact gR_i p1.1 p1.2
    · exact gR_i p2.1 p2.2) rfl
  refine ⟨z, M', e, ?_⟩
  have ha : alt ∈ [(some (0, -1, -1, 0, 0, 0), [], [(60, 0, (0, 0, 0, 0, 0, 0)), (60, 3, (0, 0, 0, 0, 0, 0)), (60, 16, (0, 2, 2, 0, 0, 0)), (60, 17, (0, 0, 0, 0, 0, 0))]), (some (0, -2, -2, 0, 0, 0), [(4, 0, 0, 0, 0, 0), (0, 0, 5, 0, 0, 0), (0, 0, 99, 0, 0, 0)], [(60, 0, (0, 0, 0, 0, 0, 0)), (60, 3, (0, 0, 0, 0, 0, 0)), (60, 16, (0, 2, 2, 0, 0, 0)), (60, 17, (0, 0, 0, 0, 0, 0)), (60, 30, (0, 0, 0, 0, 0, 0)), (60, 39, (0, 1, 1, 0, 0, 0)), (60, 40, (0, 0, 1000000, 0, 0, 0))]), (some (0, 0, 999999, 0, 0, 0), [(4, 0, 0, 0, 0, 0), (0, 0, 5, 0, 0, 0), (0, 0, 99, 0, 0, 0)], [(60, 0, (0, 0, 0, 0, 0, 0)), (60, 3, (0, 0, 0, 0, 0, 0)), (60, 16, (0, 0, 0, 0, 0, 0)), (60, 17, (0, 0, 0, 0, 0, 0)), (60, 30, (0, 0, 0, 0, 0, 0)), (60, 39, (0, 1, 1, 0, 0, 0)), (60, 40, (0, 0, 1000000, 0, 0, 0))])] := ha
  simp only [List.mem_cons, List.not_mem_nil, or_false] at ha
  rcases ha with rfl | rfl | rfl
  · obtain ⟨z2, e2, r⟩ := gW_int (show gW _ _ from q) (Nat.le_of_ble_eq_true rfl)
    cases e2
    have := gR0 r
    have w := gR0 (show gR (0, 2, 2, 0, 0, 0) (M' 60 16) from (p _ (List.mem_cons_of_mem _ (List.mem_cons_of_mem _ List.mem_cons_self))).1)
    exact Or.inl ⟨this.1, this.2, w.1, w.2⟩
  · obtain ⟨z2, e2, r⟩ := gW_int (show gW _ _ from q) (Nat.le_of_ble_eq_true rfl)
    cases e2
    have := gR0 r
    have w := gR0 (show gR (0, 2, 2, 0, 0, 0) (M' 60 16) from (p _ (List.mem_cons_of_mem _ (List.mem_cons_of_mem _ List.mem_cons_self))).1)
    exact Or.inr (Or.inl ⟨this.1, this.2, w.1, w.2⟩)
  · obtain ⟨z2, e2, r⟩ := gW_int (show gW _ _ from q) (Nat.le_of_ble_eq_true rfl)
    cases e2
    have := gR0 r
    have w := gR0 (show gR (0, 0, 0, 0, 0, 0) (M' 60 16) from (p _ (List.mem_cons_of_mem _ (List.mem_cons_of_mem _ List.mem_cons_self))).1)
    exact Or.inr (Or.inr ⟨this.1, this.2, w.1, w.2⟩)
theorem nu_M_guest0_3 {d : Nat} (hd : 5 ≤ d) {M : pM} {a1 : Int} {a2 : Int} (hM : gM gAll M) (h1 : -2147483648 ≤ a1 ∧ a1 ≤ 2147483647) (h2 : -2147483648 ≤ a2 ∧ a2 ≤ 2147483647) (p0 : 0 ≤ M 60 0 ∧ M 60 0 ≤ 0) (p1 : 0 ≤ M 60 3 ∧ M 60 3 ≤ 0) (p2 : 3 ≤ M 60 16 ∧ M 60 16 ≤ 3) : ∃ z M', xF d 239 [.inr 62, .inl a1, .inl a2] M = rI z M' ∧ ((-1 ≤ z ∧ z ≤ -1 ∧ 3 ≤ M' 60 16 ∧ M' 60 16 ≤ 3) ∨ (-2 ≤ z ∧ z ≤ -2 ∧ 3 ≤ M' 60 16 ∧ M' 60 16 ≤ 3) ∨ (0 ≤ z ∧ z ≤ 999999 ∧ 0 ≤ M' 60 16 ∧ M' 60 16 ≤ 0)) := by
  have c0 : cOK gAll (xF d) 239 K_973 := (ct_of (d := d) ct_ok (show K_973 ∈ CT.getD 239 [] from (show CT.getD 239 [] = [K_967, K_969, K_971, K_973, K_975, K_977, K_979, K_981, K_983, K_985, K_987, K_989, K_556, K_1080, K_943, K_945, K_947, K_949, K_951, K_953, K_955, K_957, K_959, K_961, K_963, K_965, K_1082, K_1084, K_1086, K_1088, K_1090, K_1092, K_1094, K_1096, K_1098, K_1100, K_554] from rfl) ▸ by simp) hd)
  obtain ⟨z, M', e, -, -, alt, ha, q, p⟩ := cOK_I c0 (A := [.inr 62, .inl a1, .inl a2]) (show aF2 gW [aRef 62, (0, -2147483648, 2147483647, 0, 0, 0), (0, -2147483648, 2147483647, 0, 0, 0)] [.inr 62, .inl a1, .inl a2] from ⟨gW_o, gW_i h1.1 h1.2, gW_i h2.1 h2.2, trivial⟩) hM (show gP0 [(60, 0, (0, 0, 0, 0, 0, 0)), (60, 3, (0, 0, 0, 0, 0, 0)), (60, 16, (0, 3, 3, 0, 0, 0))] M from fun e he => by
    simp only [List.mem_cons, List.not_mem_nil, or_false] at he
    rcases he with rfl | rfl | rfl
    · exact gR_i p0.1 p0.2
    · exact gR_i p1.1 p1.2
    · exact gR_i p2.1 p2.2) rfl
  refine ⟨z, M', e, ?_⟩
  have ha : alt ∈ [(some (0, -1, -1, 0, 0, 0), [], [(60, 0, (0, 0, 0, 0, 0, 0)), (60, 3, (0, 0, 0, 0, 0, 0)), (60, 16, (0, 3, 3, 0, 0, 0)), (60, 17, (0, 0, 0, 0, 0, 0))]), (some (0, -2, -2, 0, 0, 0), [(4, 0, 0, 0, 0, 0), (0, 0, 5, 0, 0, 0), (0, 0, 99, 0, 0, 0)], [(60, 0, (0, 0, 0, 0, 0, 0)), (60, 3, (0, 0, 0, 0, 0, 0)), (60, 16, (0, 3, 3, 0, 0, 0)), (60, 17, (0, 0, 0, 0, 0, 0)), (60, 30, (0, 0, 0, 0, 0, 0)), (60, 39, (0, 1, 1, 0, 0, 0)), (60, 40, (0, 0, 1000000, 0, 0, 0))]), (some (0, 0, 999999, 0, 0, 0), [(4, 0, 0, 0, 0, 0), (0, 0, 5, 0, 0, 0), (0, 0, 99, 0, 0, 0)], [(60, 0, (0, 0, 0, 0, 0, 0)), (60, 3, (0, 0, 0, 0, 0, 0)), (60, 16, (0, 0, 0, 0, 0, 0)), (60, 17, (0, 0, 0, 0, 0, 0)), (60, 30, (0, 0, 0, 0, 0, 0)), (60, 39, (0, 1, 1, 0, 0, 0)), (60, 40, (0, 0, 1000000, 0, 0, 0))])] := ha
  simp only [List.mem_cons, List.not_mem_nil, or_false] at ha
  rcases ha with rfl | rfl | rfl
  · obtain ⟨z2, e2, r⟩ := gW_int (show gW _ _ from q) (Nat.le_of_ble_eq_true rfl)
    cases e2
    have := gR0 r
    have w := gR0 (show gR (0, 3, 3, 0, 0, 0) (M' 60 16) from (p _ (List.mem_cons_of_mem _ (List.mem_cons_of_mem _ List.mem_cons_self))).1)
    exact Or.inl ⟨this.1, this.2, w.1, w.2⟩
  · obtain ⟨z2, e2, r⟩ := gW_int (show gW _ _ from q) (Nat.le_of_ble_eq_true rfl)
    cases e2
    have := gR0 r
    have w := gR0 (show gR (0, 3, 3, 0, 0, 0) (M' 60 16) from (p _ (List.mem_cons_of_mem _ (List.mem_cons_of_mem _ List.mem_cons_self))).1)
    exact Or.inr (Or.inl ⟨this.1, this.2, w.1, w.2⟩)
  · obtain ⟨z2, e2, r⟩ := gW_int (show gW _ _ from q) (Nat.le_of_ble_eq_true rfl)
    cases e2
    have := gR0 r
    have w := gR0 (show gR (0, 0, 0, 0, 0, 0) (M' 60 16) from (p _ (List.mem_cons_of_mem _ (List.mem_cons_of_mem _ List.mem_cons_self))).1)
    exact Or.inr (Or.inr ⟨this.1, this.2, w.1, w.2⟩)
theorem nu_M_guest0_4 {d : Nat} (hd : 5 ≤ d) {M : pM} {a1 : Int} {a2 : Int} (hM : gM gAll M) (h1 : -2147483648 ≤ a1 ∧ a1 ≤ 2147483647) (h2 : -2147483648 ≤ a2 ∧ a2 ≤ 2147483647) (p0 : 0 ≤ M 60 0 ∧ M 60 0 ≤ 0) (p1 : 0 ≤ M 60 3 ∧ M 60 3 ≤ 0) (p2 : 4 ≤ M 60 16 ∧ M 60 16 ≤ 4) : ∃ z M', xF d 239 [.inr 62, .inl a1, .inl a2] M = rI z M' ∧ ((-1 ≤ z ∧ z ≤ -1 ∧ 4 ≤ M' 60 16 ∧ M' 60 16 ≤ 4) ∨ (-2 ≤ z ∧ z ≤ -2 ∧ 4 ≤ M' 60 16 ∧ M' 60 16 ≤ 4) ∨ (0 ≤ z ∧ z ≤ 999999 ∧ 0 ≤ M' 60 16 ∧ M' 60 16 ≤ 0)) := by
  have c0 : cOK gAll (xF d) 239 K_975 := (ct_of (d := d) ct_ok (show K_975 ∈ CT.getD 239 [] from (show CT.getD 239 [] = [K_967, K_969, K_971, K_973, K_975, K_977, K_979, K_981, K_983, K_985, K_987, K_989, K_556, K_1080, K_943, K_945, K_947, K_949, K_951, K_953, K_955, K_957, K_959, K_961, K_963, K_965, K_1082, K_1084, K_1086, K_1088, K_1090, K_1092, K_1094, K_1096, K_1098, K_1100, K_554] from rfl) ▸ by simp) hd)
  obtain ⟨z, M', e, -, -, alt, ha, q, p⟩ := cOK_I c0 (A := [.inr 62, .inl a1, .inl a2]) (show aF2 gW [aRef 62, (0, -2147483648, 2147483647, 0, 0, 0), (0, -2147483648, 2147483647, 0, 0, 0)] [.inr 62, .inl a1, .inl a2] from ⟨gW_o, gW_i h1.1 h1.2, gW_i h2.1 h2.2, trivial⟩) hM (show gP0 [(60, 0, (0, 0, 0, 0, 0, 0)), (60, 3, (0, 0, 0, 0, 0, 0)), (60, 16, (0, 4, 4, 0, 0, 0))] M from fun e he => by
    simp only [List.mem_cons, List.not_mem_nil, or_false] at he
    rcases he with rfl | rfl | rfl
    · exact gR_i p0.1 p0.2
    · exact gR_i p1.1 p1.2
    · exact gR_i p2.1 p2.2) rfl
  refine ⟨z, M', e, ?_⟩
  have ha : alt ∈ [(some (0, -1, -1, 0, 0, 0), [], [(60, 0, (0, 0, 0, 0, 0, 0)), (60, 3, (0, 0, 0, 0, 0, 0)), (60, 16, (0, 4, 4, 0, 0, 0)), (60, 17, (0, 0, 0, 0, 0, 0))]), (some (0, -2, -2, 0, 0, 0), [(4, 0, 0, 0, 0, 0), (0, 0, 5, 0, 0, 0), (0, 0, 99, 0, 0, 0)], [(60, 0, (0, 0, 0, 0, 0, 0)), (60, 3, (0, 0, 0, 0, 0, 0)), (60, 16, (0, 4, 4, 0, 0, 0)), (60, 17, (0, 0, 0, 0, 0, 0)), (60, 30, (0, 0, 0, 0, 0, 0)), (60, 39, (0, 1, 1, 0, 0, 0)), (60, 40, (0, 0, 1000000, 0, 0, 0))]), (some (0, 0, 999999, 0, 0, 0), [(4, 0, 0, 0, 0, 0), (0, 0, 5, 0, 0, 0), (0, 0, 99, 0, 0, 0)], [(60, 0, (0, 0, 0, 0, 0, 0)), (60, 3, (0, 0, 0, 0, 0, 0)), (60, 16, (0, 0, 0, 0, 0, 0)), (60, 17, (0, 0, 0, 0, 0, 0)), (60, 30, (0, 0, 0, 0, 0, 0)), (60, 39, (0, 1, 1, 0, 0, 0)), (60, 40, (0, 0, 1000000, 0, 0, 0))])] := ha
  simp only [List.mem_cons, List.not_mem_nil, or_false] at ha
  rcases ha with rfl | rfl | rfl
  · obtain ⟨z2, e2, r⟩ := gW_int (show gW _ _ from q) (Nat.le_of_ble_eq_true rfl)
    cases e2
    have := gR0 r
    have w := gR0 (show gR (0, 4, 4, 0, 0, 0) (M' 60 16) from (p _ (List.mem_cons_of_mem _ (List.mem_cons_of_mem _ List.mem_cons_self))).1)
    exact Or.inl ⟨this.1, this.2, w.1, w.2⟩
  · obtain ⟨z2, e2, r⟩ := gW_int (show gW _ _ from q) (Nat.le_of_ble_eq_true rfl)
    cases e2
    have := gR0 r
    have w := gR0 (show gR (0, 4, 4, 0, 0, 0) (M' 60 16) from (p _ (List.mem_cons_of_mem _ (List.mem_cons_of_mem _ List.mem_cons_self))).1)
    exact Or.inr (Or.inl ⟨this.1, this.2, w.1, w.2⟩)
  · obtain ⟨z2, e2, r⟩ := gW_int (show gW _ _ from q) (Nat.le_of_ble_eq_true rfl)
    cases e2
    have := gR0 r
    have w := gR0 (show gR (0, 0, 0, 0, 0, 0) (M' 60 16) from (p _ (List.mem_cons_of_mem _ (List.mem_cons_of_mem _ List.mem_cons_self))).1)
    exact Or.inr (Or.inr ⟨this.1, this.2, w.1, w.2⟩)
theorem nu_M_guest0_5 {d : Nat} (hd : 5 ≤ d) {M : pM} {a1 : Int} {a2 : Int} (hM : gM gAll M) (h1 : -2147483648 ≤ a1 ∧ a1 ≤ 2147483647) (h2 : -2147483648 ≤ a2 ∧ a2 ≤ 2147483647) (p0 : 0 ≤ M 60 0 ∧ M 60 0 ≤ 0) (p1 : 0 ≤ M 60 3 ∧ M 60 3 ≤ 0) (p2 : 5 ≤ M 60 16 ∧ M 60 16 ≤ 5) : ∃ z M', xF d 239 [.inr 62, .inl a1, .inl a2] M = rI z M' ∧ ((-1 ≤ z ∧ z ≤ -1 ∧ 5 ≤ M' 60 16 ∧ M' 60 16 ≤ 5) ∨ (-2 ≤ z ∧ z ≤ -2 ∧ 5 ≤ M' 60 16 ∧ M' 60 16 ≤ 5) ∨ (0 ≤ z ∧ z ≤ 999999 ∧ 0 ≤ M' 60 16 ∧ M' 60 16 ≤ 0)) := by
  have c0 : cOK gAll (xF d) 239 K_977 := (ct_of (d := d) ct_ok (show K_977 ∈ CT.getD 239 [] from (show CT.getD 239 [] = [K_967, K_969, K_971, K_973, K_975, K_977, K_979, K_981, K_983, K_985, K_987, K_989, K_556, K_1080, K_943, K_945, K_947, K_949, K_951, K_953, K_955, K_957, K_959, K_961, K_963, K_965, K_1082, K_1084, K_1086, K_1088, K_1090, K_1092, K_1094, K_1096, K_1098, K_1100, K_554] from rfl) ▸ by simp) hd)
  obtain ⟨z, M', e, -, -, alt, ha, q, p⟩ := cOK_I c0 (A := [.inr 62, .inl a1, .inl a2]) (show aF2 gW [aRef 62, (0, -2147483648, 2147483647, 0, 0, 0), (0, -2147483648, 2147483647, 0, 0, 0)] [.inr 62, .inl a1, .inl a2] from ⟨gW_o, gW_i h1.1 h1.2, gW_i h2.1 h2.2, trivial⟩) hM (show gP0 [(60, 0, (0, 0, 0, 0, 0, 0)), (60, 3, (0, 0, 0, 0, 0, 0)), (60, 16, (0, 5, 5, 0, 0, 0))] M from fun e he => by
    simp only [List.mem_cons, List.not_mem_nil, or_false] at he
    rcases he with rfl | rfl | rfl
    · exact gR_i p0.1 p0.2
    · exact gR_i p1.1 p1.2
    · exact gR_i p2.1 p2.2) rfl
  refine ⟨z, M', e, ?_⟩
  have ha : alt ∈ [(some (0, -1, -1, 0, 0, 0), [], [(60, 0, (0, 0, 0, 0, 0, 0)), (60, 3, (0, 0, 0, 0, 0, 0)), (60, 16, (0, 5, 5, 0, 0, 0)), (60, 17, (0, 0, 0, 0, 0, 0))]), (some (0, -2, -2, 0, 0, 0), [(4, 0, 0, 0, 0, 0), (0, 0, 5, 0, 0, 0), (0, 0, 99, 0, 0, 0)], [(60, 0, (0, 0, 0, 0, 0, 0)), (60, 3, (0, 0, 0, 0, 0, 0)), (60, 16, (0, 5, 5, 0, 0, 0)), (60, 17, (0, 0, 0, 0, 0, 0)), (60, 30, (0, 0, 0, 0, 0, 0)), (60, 39, (0, 1, 1, 0, 0, 0)), (60, 40, (0, 0, 1000000, 0, 0, 0))]), (some (0, 0, 999999, 0, 0, 0), [(4, 0, 0, 0, 0, 0), (0, 0, 5, 0, 0, 0), (0, 0, 99, 0, 0, 0)], [(60, 0, (0, 0, 0, 0, 0, 0)), (60, 3, (0, 0, 0, 0, 0, 0)), (60, 16, (0, 0, 0, 0, 0, 0)), (60, 17, (0, 0, 0, 0, 0, 0)), (60, 30, (0, 0, 0, 0, 0, 0)), (60, 39, (0, 1, 1, 0, 0, 0)), (60, 40, (0, 0, 1000000, 0, 0, 0))])] := ha
  simp only [List.mem_cons, List.not_mem_nil, or_false] at ha
  rcases ha with rfl | rfl | rfl
  · obtain ⟨z2, e2, r⟩ := gW_int (show gW _ _ from q) (Nat.le_of_ble_eq_true rfl)
    cases e2
    have := gR0 r
    have w := gR0 (show gR (0, 5, 5, 0, 0, 0) (M' 60 16) from (p _ (List.mem_cons_of_mem _ (List.mem_cons_of_mem _ List.mem_cons_self))).1)
    exact Or.inl ⟨this.1, this.2, w.1, w.2⟩
  · obtain ⟨z2, e2, r⟩ := gW_int (show gW _ _ from q) (Nat.le_of_ble_eq_true rfl)
    cases e2
    have := gR0 r
    have w := gR0 (show gR (0, 5, 5, 0, 0, 0) (M' 60 16) from (p _ (List.mem_cons_of_mem _ (List.mem_cons_of_mem _ List.mem_cons_self))).1)
    exact Or.inr (Or.inl ⟨this.1, this.2, w.1, w.2⟩)
  · obtain ⟨z2, e2, r⟩ := gW_int (show gW _ _ from q) (Nat.le_of_ble_eq_true rfl)
    cases e2
    have := gR0 r
    have w := gR0 (show gR (0, 0, 0, 0, 0, 0) (M' 60 16) from (p _ (List.mem_cons_of_mem _ (List.mem_cons_of_mem _ List.mem_cons_self))).1)
    exact Or.inr (Or.inr ⟨this.1, this.2, w.1, w.2⟩)
theorem nu_M_guest0_6 {d : Nat} (hd : 5 ≤ d) {M : pM} {a1 : Int} {a2 : Int} (hM : gM gAll M) (h1 : -2147483648 ≤ a1 ∧ a1 ≤ 2147483647) (h2 : -2147483648 ≤ a2 ∧ a2 ≤ 2147483647) (p0 : 0 ≤ M 60 0 ∧ M 60 0 ≤ 0) (p1 : 0 ≤ M 60 3 ∧ M 60 3 ≤ 0) (p2 : 6 ≤ M 60 16 ∧ M 60 16 ≤ 6) : ∃ z M', xF d 239 [.inr 62, .inl a1, .inl a2] M = rI z M' ∧ ((-1 ≤ z ∧ z ≤ -1 ∧ 6 ≤ M' 60 16 ∧ M' 60 16 ≤ 6) ∨ (-2 ≤ z ∧ z ≤ -2 ∧ 6 ≤ M' 60 16 ∧ M' 60 16 ≤ 6) ∨ (0 ≤ z ∧ z ≤ 999999 ∧ 0 ≤ M' 60 16 ∧ M' 60 16 ≤ 0)) := by
  have c0 : cOK gAll (xF d) 239 K_979 := (ct_of (d := d) ct_ok (show K_979 ∈ CT.getD 239 [] from (show CT.getD 239 [] = [K_967, K_969, K_971, K_973, K_975, K_977, K_979, K_981, K_983, K_985, K_987, K_989, K_556, K_1080, K_943, K_945, K_947, K_949, K_951, K_953, K_955, K_957, K_959, K_961, K_963, K_965, K_1082, K_1084, K_1086, K_1088, K_1090, K_1092, K_1094, K_1096, K_1098, K_1100, K_554] from rfl) ▸ by simp) hd)
  obtain ⟨z, M', e, -, -, alt, ha, q, p⟩ := cOK_I c0 (A := [.inr 62, .inl a1, .inl a2]) (show aF2 gW [aRef 62, (0, -2147483648, 2147483647, 0, 0, 0), (0, -2147483648, 2147483647, 0, 0, 0)] [.inr 62, .inl a1, .inl a2] from ⟨gW_o, gW_i h1.1 h1.2, gW_i h2.1 h2.2, trivial⟩) hM (show gP0 [(60, 0, (0, 0, 0, 0, 0, 0)), (60, 3, (0, 0, 0, 0, 0, 0)), (60, 16, (0, 6, 6, 0, 0, 0))] M from fun e he => by
    simp only [List.mem_cons, List.not_mem_nil, or_false] at he
    rcases he with rfl | rfl | rfl
    · exact gR_i p0.1 p0.2
    · exact gR_i p1.1 p1.2
    · exact gR_i p2.1 p2.2) rfl
  refine ⟨z, M', e, ?_⟩
  have ha : alt ∈ [(some (0, -1, -1, 0, 0, 0), [], [(60, 0, (0, 0, 0, 0, 0, 0)), (60, 3, (0, 0, 0, 0, 0, 0)), (60, 16, (0, 6, 6, 0, 0, 0)), (60, 17, (0, 0, 0, 0, 0, 0))]), (some (0, -2, -2, 0, 0, 0), [(4, 0, 0, 0, 0, 0), (0, 0, 5, 0, 0, 0), (0, 0, 99, 0, 0, 0)], [(60, 0, (0, 0, 0, 0, 0, 0)), (60, 3, (0, 0, 0, 0, 0, 0)), (60, 16, (0, 6, 6, 0, 0, 0)), (60, 17, (0, 0, 0, 0, 0, 0)), (60, 30, (0, 0, 0, 0, 0, 0)), (60, 39, (0, 1, 1, 0, 0, 0)), (60, 40, (0, 0, 1000000, 0, 0, 0))]), (some (0, 0, 999999, 0, 0, 0), [(4, 0, 0, 0, 0, 0), (0, 0, 5, 0, 0, 0), (0, 0, 99, 0, 0, 0)], [(60, 0, (0, 0, 0, 0, 0, 0)), (60, 3, (0, 0, 0, 0, 0, 0)), (60, 16, (0, 0, 0, 0, 0, 0)), (60, 17, (0, 0, 0, 0, 0, 0)), (60, 30, (0, 0, 0, 0, 0, 0)), (60, 39, (0, 1, 1, 0, 0, 0)), (60, 40, (0, 0, 1000000, 0, 0, 0))])] := ha
  simp only [List.mem_cons, List.not_mem_nil, or_false] at ha
  rcases ha with rfl | rfl | rfl
  · obtain ⟨z2, e2, r⟩ := gW_int (show gW _ _ from q) (Nat.le_of_ble_eq_true rfl)
    cases e2
    have := gR0 r
    have w := gR0 (show gR (0, 6, 6, 0, 0, 0) (M' 60 16) from (p _ (List.mem_cons_of_mem _ (List.mem_cons_of_mem _ List.mem_cons_self))).1)
    exact Or.inl ⟨this.1, this.2, w.1, w.2⟩
  · obtain ⟨z2, e2, r⟩ := gW_int (show gW _ _ from q) (Nat.le_of_ble_eq_true rfl)
    cases e2
    have := gR0 r
    have w := gR0 (show gR (0, 6, 6, 0, 0, 0) (M' 60 16) from (p _ (List.mem_cons_of_mem _ (List.mem_cons_of_mem _ List.mem_cons_self))).1)
    exact Or.inr (Or.inl ⟨this.1, this.2, w.1, w.2⟩)
  · obtain ⟨z2, e2, r⟩ := gW_int (show gW _ _ from q) (Nat.le_of_ble_eq_true rfl)
    cases e2
    have := gR0 r
    have w := gR0 (show gR (0, 0, 0, 0, 0, 0) (M' 60 16) from (p _ (List.mem_cons_of_mem _ (List.mem_cons_of_mem _ List.mem_cons_self))).1)
    exact Or.inr (Or.inr ⟨this.1, this.2, w.1, w.2⟩)
theorem nu_M_guest0_7 {d : Nat} (hd : 5 ≤ d) {M : pM} {a1 : Int} {a2 : Int} (hM : gM gAll M) (h1 : -2147483648 ≤ a1 ∧ a1 ≤ 2147483647) (h2 : -2147483648 ≤ a2 ∧ a2 ≤ 2147483647) (p0 : 0 ≤ M 60 0 ∧ M 60 0 ≤ 0) (p1 : 0 ≤ M 60 3 ∧ M 60 3 ≤ 0) (p2 : 7 ≤ M 60 16 ∧ M 60 16 ≤ 7) : ∃ z M', xF d 239 [.inr 62, .inl a1, .inl a2] M = rI z M' ∧ ((-1 ≤ z ∧ z ≤ -1 ∧ 7 ≤ M' 60 16 ∧ M' 60 16 ≤ 7) ∨ (-2 ≤ z ∧ z ≤ -2 ∧ 7 ≤ M' 60 16 ∧ M' 60 16 ≤ 7) ∨ (0 ≤ z ∧ z ≤ 999999 ∧ 0 ≤ M' 60 16 ∧ M' 60 16 ≤ 0)) := by
  have c0 : cOK gAll (xF d) 239 K_981 := (ct_of (d := d) ct_ok (show K_981 ∈ CT.getD 239 [] from (show CT.getD 239 [] = [K_967, K_969, K_971, K_973, K_975, K_977, K_979, K_981, K_983, K_985, K_987, K_989, K_556, K_1080, K_943, K_945, K_947, K_949, K_951, K_953, K_955, K_957, K_959, K_961, K_963, K_965, K_1082, K_1084, K_1086, K_1088, K_1090, K_1092, K_1094, K_1096, K_1098, K_1100, K_554] from rfl) ▸ by simp) hd)
  obtain ⟨z, M', e, -, -, alt, ha, q, p⟩ := cOK_I c0 (A := [.inr 62, .inl a1, .inl a2]) (show aF2 gW [aRef 62, (0, -2147483648, 2147483647, 0, 0, 0), (0, -2147483648, 2147483647, 0, 0, 0)] [.inr 62, .inl a1, .inl a2] from ⟨gW_o, gW_i h1.1 h1.2, gW_i h2.1 h2.2, trivial⟩) hM (show gP0 [(60, 0, (0, 0, 0, 0, 0, 0)), (60, 3, (0, 0, 0, 0, 0, 0)), (60, 16, (0, 7, 7, 0, 0, 0))] M from fun e he => by
    simp only [List.mem_cons, List.not_mem_nil, or_false] at he
    rcases he with rfl | rfl | rfl
    · exact gR_i p0.1 p0.2
    · exact gR_i p1.1 p1.2
    · exact gR_i p2.1 p2.2) rfl
  refine ⟨z, M', e, ?_⟩
  have ha : alt ∈ [(some (0, -1, -1, 0, 0, 0), [], [(60, 0, (0, 0, 0, 0, 0, 0)), (60, 3, (0, 0, 0, 0, 0, 0)), (60, 16, (0, 7, 7, 0, 0, 0)), (60, 17, (0, 0, 0, 0, 0, 0))]), (some (0, -2, -2, 0, 0, 0), [(4, 0, 0, 0, 0, 0), (0, 0, 5, 0, 0, 0), (0, 0, 99, 0, 0, 0)], [(60, 0, (0, 0, 0, 0, 0, 0)), (60, 3, (0, 0, 0, 0, 0, 0)), (60, 16, (0, 7, 7, 0, 0, 0)), (60, 17, (0, 0, 0, 0, 0, 0)), (60, 30, (0, 0, 0, 0, 0, 0)), (60, 39, (0, 1, 1, 0, 0, 0)), (60, 40, (0, 0, 1000000, 0, 0, 0))]), (some (0, 0, 999999, 0, 0, 0), [(4, 0, 0, 0, 0, 0), (0, 0, 5, 0, 0, 0), (0, 0, 99, 0, 0, 0)], [(60, 0, (0, 0, 0, 0, 0, 0)), (60, 3, (0, 0, 0, 0, 0, 0)), (60, 16, (0, 0, 0, 0, 0, 0)), (60, 17, (0, 0, 0, 0, 0, 0)), (60, 30, (0, 0, 0, 0, 0, 0)), (60, 39, (0, 1, 1, 0, 0, 0)), (60, 40, (0, 0, 1000000, 0, 0, 0))])] := ha
  simp only [List.mem_cons, List.not_mem_nil, or_false] at ha
  rcases ha with rfl | rfl | rfl
  · obtain ⟨z2, e2, r⟩ := gW_int (show gW _ _ from q) (Nat.le_of_ble_eq_true rfl)
    cases e2
    have := gR0 r
    have w := gR0 (show gR (0, 7, 7, 0, 0, 0) (M' 60 16) from (p _ (List.mem_cons_of_mem _ (List.mem_cons_of_mem _ List.mem_cons_self))).1)
    exact Or.inl ⟨this.1, this.2, w.1, w.2⟩
  · obtain ⟨z2, e2, r⟩ := gW_int (show gW _ _ from q) (Nat.le_of_ble_eq_true rfl)
    cases e2
    have := gR0 r
    have w := gR0 (show gR (0, 7, 7, 0, 0, 0) (M' 60 16) from (p _ (List.mem_cons_of_mem _ (List.mem_cons_of_mem _ List.mem_cons_self))).1)
    exact Or.inr (Or.inl ⟨this.1, this.2, w.1, w.2⟩)
  · obtain ⟨z2, e2, r⟩ := gW_int (show gW _ _ from q) (Nat.le_of_ble_eq_true rfl)
    cases e2
    have := gR0 r
    have w := gR0 (show gR (0, 0, 0, 0, 0, 0) (M' 60 16) from (p _ (List.mem_cons_of_mem _ (List.mem_cons_of_mem _ List.mem_cons_self))).1)
    exact Or.inr (Or.inr ⟨this.1, this.2, w.1, w.2⟩)
theorem nu_M_guest0_8 {d : Nat} (hd : 5 ≤ d) {M : pM} {a1 : Int} {a2 : Int} (hM : gM gAll M) (h1 : -2147483648 ≤ a1 ∧ a1 ≤ 2147483647) (h2 : -2147483648 ≤ a2 ∧ a2 ≤ 2147483647) (p0 : 0 ≤ M 60 0 ∧ M 60 0 ≤ 0) (p1 : 0 ≤ M 60 3 ∧ M 60 3 ≤ 0) (p2 : 8 ≤ M 60 16 ∧ M 60 16 ≤ 8) : ∃ z M', xF d 239 [.inr 62, .inl a1, .inl a2] M = rI z M' ∧ ((-1 ≤ z ∧ z ≤ -1 ∧ 8 ≤ M' 60 16 ∧ M' 60 16 ≤ 8) ∨ (-2 ≤ z ∧ z ≤ -2 ∧ 8 ≤ M' 60 16 ∧ M' 60 16 ≤ 8) ∨ (0 ≤ z ∧ z ≤ 999999 ∧ 0 ≤ M' 60 16 ∧ M' 60 16 ≤ 0)) := by
  have c0 : cOK gAll (xF d) 239 K_983 := (ct_of (d := d) ct_ok (show K_983 ∈ CT.getD 239 [] from (show CT.getD 239 [] = [K_967, K_969, K_971, K_973, K_975, K_977, K_979, K_981, K_983, K_985, K_987, K_989, K_556, K_1080, K_943, K_945, K_947, K_949, K_951, K_953, K_955, K_957, K_959, K_961, K_963, K_965, K_1082, K_1084, K_1086, K_1088, K_1090, K_1092, K_1094, K_1096, K_1098, K_1100, K_554] from rfl) ▸ by simp) hd)
  obtain ⟨z, M', e, -, -, alt, ha, q, p⟩ := cOK_I c0 (A := [.inr 62, .inl a1, .inl a2]) (show aF2 gW [aRef 62, (0, -2147483648, 2147483647, 0, 0, 0), (0, -2147483648, 2147483647, 0, 0, 0)] [.inr 62, .inl a1, .inl a2] from ⟨gW_o, gW_i h1.1 h1.2, gW_i h2.1 h2.2, trivial⟩) hM (show gP0 [(60, 0, (0, 0, 0, 0, 0, 0)), (60, 3, (0, 0, 0, 0, 0, 0)), (60, 16, (0, 8, 8, 0, 0, 0))] M from fun e he => by
    simp only [List.mem_cons, List.not_mem_nil, or_false] at he
    rcases he with rfl | rfl | rfl
    · exact gR_i p0.1 p0.2
    · exact gR_i p1.1 p1.2
    · exact gR_i p2.1 p2.2) rfl
  refine ⟨z, M', e, ?_⟩
  have ha : alt ∈ [(some (0, -1, -1, 0, 0, 0), [], [(60, 0, (0, 0, 0, 0, 0, 0)), (60, 3, (0, 0, 0, 0, 0, 0)), (60, 16, (0, 8, 8, 0, 0, 0)), (60, 17, (0, 0, 0, 0, 0, 0))]), (some (0, -2, -2, 0, 0, 0), [(4, 0, 0, 0, 0, 0), (0, 0, 5, 0, 0, 0), (0, 0, 99, 0, 0, 0)], [(60, 0, (0, 0, 0, 0, 0, 0)), (60, 3, (0, 0, 0, 0, 0, 0)), (60, 16, (0, 8, 8, 0, 0, 0)), (60, 17, (0, 0, 0, 0, 0, 0)), (60, 30, (0, 0, 0, 0, 0, 0)), (60, 39, (0, 1, 1, 0, 0, 0)), (60, 40, (0, 0, 1000000, 0, 0, 0))]), (some (0, 0, 999999, 0, 0, 0), [(4, 0, 0, 0, 0, 0), (0, 0, 5, 0, 0, 0), (0, 0, 99, 0, 0, 0)], [(60, 0, (0, 0, 0, 0, 0, 0)), (60, 3, (0, 0, 0, 0, 0, 0)), (60, 16, (0, 0, 0, 0, 0, 0)), (60, 17, (0, 0, 0, 0, 0, 0)), (60, 30, (0, 0, 0, 0, 0, 0)), (60, 39, (0, 1, 1, 0, 0, 0)), (60, 40, (0, 0, 1000000, 0, 0, 0))])] := ha
  simp only [List.mem_cons, List.not_mem_nil, or_false] at ha
  rcases ha with rfl | rfl | rfl
  · obtain ⟨z2, e2, r⟩ := gW_int (show gW _ _ from q) (Nat.le_of_ble_eq_true rfl)
    cases e2
    have := gR0 r
    have w := gR0 (show gR (0, 8, 8, 0, 0, 0) (M' 60 16) from (p _ (List.mem_cons_of_mem _ (List.mem_cons_of_mem _ List.mem_cons_self))).1)
    exact Or.inl ⟨this.1, this.2, w.1, w.2⟩
  · obtain ⟨z2, e2, r⟩ := gW_int (show gW _ _ from q) (Nat.le_of_ble_eq_true rfl)
    cases e2
    have := gR0 r
    have w := gR0 (show gR (0, 8, 8, 0, 0, 0) (M' 60 16) from (p _ (List.mem_cons_of_mem _ (List.mem_cons_of_mem _ List.mem_cons_self))).1)
    exact Or.inr (Or.inl ⟨this.1, this.2, w.1, w.2⟩)
  · obtain ⟨z2, e2, r⟩ := gW_int (show gW _ _ from q) (Nat.le_of_ble_eq_true rfl)
    cases e2
    have := gR0 r
    have w := gR0 (show gR (0, 0, 0, 0, 0, 0) (M' 60 16) from (p _ (List.mem_cons_of_mem _ (List.mem_cons_of_mem _ List.mem_cons_self))).1)
    exact Or.inr (Or.inr ⟨this.1, this.2, w.1, w.2⟩)
theorem nu_M_guest0_9 {d : Nat} (hd : 5 ≤ d) {M : pM} {a1 : Int} {a2 : Int} (hM : gM gAll M) (h1 : -2147483648 ≤ a1 ∧ a1 ≤ 2147483647) (h2 : -2147483648 ≤ a2 ∧ a2 ≤ 2147483647) (p0 : 0 ≤ M 60 0 ∧ M 60 0 ≤ 0) (p1 : 0 ≤ M 60 3 ∧ M 60 3 ≤ 0) (p2 : 9 ≤ M 60 16 ∧ M 60 16 ≤ 9) : ∃ z M', xF d 239 [.inr 62, .inl a1, .inl a2] M = rI z M' ∧ ((-1 ≤ z ∧ z ≤ -1 ∧ 9 ≤ M' 60 16 ∧ M' 60 16 ≤ 9) ∨ (-2 ≤ z ∧ z ≤ -2 ∧ 9 ≤ M' 60 16 ∧ M' 60 16 ≤ 9) ∨ (0 ≤ z ∧ z ≤ 999999 ∧ 0 ≤ M' 60 16 ∧ M' 60 16 ≤ 0)) := by
  have c0 : cOK gAll (xF d) 239 K_985 := (ct_of (d := d) ct_ok (show K_985 ∈ CT.getD 239 [] from (show CT.getD 239 [] = [K_967, K_969, K_971, K_973, K_975, K_977, K_979, K_981, K_983, K_985, K_987, K_989, K_556, K_1080, K_943, K_945, K_947, K_949, K_951, K_953, K_955, K_957, K_959, K_961, K_963, K_965, K_1082, K_1084, K_1086, K_1088, K_1090, K_1092, K_1094, K_1096, K_1098, K_1100, K_554] from rfl) ▸ by simp) hd)
  obtain ⟨z, M', e, -, -, alt, ha, q, p⟩ := cOK_I c0 (A := [.inr 62, .inl a1, .inl a2]) (show aF2 gW [aRef 62, (0, -2147483648, 2147483647, 0, 0, 0), (0, -2147483648, 2147483647, 0, 0, 0)] [.inr 62, .inl a1, .inl a2] from ⟨gW_o, gW_i h1.1 h1.2, gW_i h2.1 h2.2, trivial⟩) hM (show gP0 [(60, 0, (0, 0, 0, 0, 0, 0)), (60, 3, (0, 0, 0, 0, 0, 0)), (60, 16, (0, 9, 9, 0, 0, 0))] M from fun e he => by
    simp only [List.mem_cons, List.not_mem_nil, or_false] at he
    rcases he with rfl | rfl | rfl
    · exact gR_i p0.1 p0.2
    · exact gR_i p1.1 p1.2
    · exact gR_i p2.1 p2.2) rfl
  refine ⟨z, M', e, ?_⟩
  have ha : alt ∈ [(some (0, -1, -1, 0, 0, 0), [], [(60, 0, (0, 0, 0, 0, 0, 0)), (60, 3, (0, 0, 0, 0, 0, 0)), (60, 16, (0, 9, 9, 0, 0, 0)), (60, 17, (0, 0, 0, 0, 0, 0))]), (some (0, -2, -2, 0, 0, 0), [(4, 0, 0, 0, 0, 0), (0, 0, 5, 0, 0, 0), (0, 0, 99, 0, 0, 0)], [(60, 0, (0, 0, 0, 0, 0, 0)), (60, 3, (0, 0, 0, 0, 0, 0)), (60, 16, (0, 9, 9, 0, 0, 0)), (60, 17, (0, 0, 0, 0, 0, 0)), (60, 30, (0, 0, 0, 0, 0, 0)), (60, 39, (0, 1, 1, 0, 0, 0)), (60, 40, (0, 0, 1000000, 0, 0, 0))]), (some (0, 0, 999999, 0, 0, 0), [(4, 0, 0, 0, 0, 0), (0, 0, 5, 0, 0, 0), (0, 0, 99, 0, 0, 0)], [(60, 0, (0, 0, 0, 0, 0, 0)), (60, 3, (0, 0, 0, 0, 0, 0)), (60, 16, (0, 0, 0, 0, 0, 0)), (60, 17, (0, 0, 0, 0, 0, 0)), (60, 30, (0, 0, 0, 0, 0, 0)), (60, 39, (0, 1, 1, 0, 0, 0)), (60, 40, (0, 0, 1000000, 0, 0, 0))])] := ha
  simp only [List.mem_cons, List.not_mem_nil, or_false] at ha
  rcases ha with rfl | rfl | rfl
  · obtain ⟨z2, e2, r⟩ := gW_int (show gW _ _ from q) (Nat.le_of_ble_eq_true rfl)
    cases e2
    have := gR0 r
    have w := gR0 (show gR (0, 9, 9, 0, 0, 0) (M' 60 16) from (p _ (List.mem_cons_of_mem _ (List.mem_cons_of_mem _ List.mem_cons_self))).1)
    exact Or.inl ⟨this.1, this.2, w.1, w.2⟩
  · obtain ⟨z2, e2, r⟩ := gW_int (show gW _ _ from q) (Nat.le_of_ble_eq_true rfl)
    cases e2
    have := gR0 r
    have w := gR0 (show gR (0, 9, 9, 0, 0, 0) (M' 60 16) from (p _ (List.mem_cons_of_mem _ (List.mem_cons_of_mem _ List.mem_cons_self))).1)
    exact Or.inr (Or.inl ⟨this.1, this.2, w.1, w.2⟩)
  · obtain ⟨z2, e2, r⟩ := gW_int (show gW _ _ from q) (Nat.le_of_ble_eq_true rfl)
    cases e2
    have := gR0 r
    have w := gR0 (show gR (0, 0, 0, 0, 0, 0) (M' 60 16) from (p _ (List.mem_cons_of_mem _ (List.mem_cons_of_mem _ List.mem_cons_self))).1)
    exact Or.inr (Or.inr ⟨this.1, this.2, w.1, w.2⟩)
theorem nu_M_guest0_10 {d : Nat} (hd : 5 ≤ d) {M : pM} {a1 : Int} {a2 : Int} (hM : gM gAll M) (h1 : -2147483648 ≤ a1 ∧ a1 ≤ 2147483647) (h2 : -2147483648 ≤ a2 ∧ a2 ≤ 2147483647) (p0 : 0 ≤ M 60 0 ∧ M 60 0 ≤ 0) (p1 : 0 ≤ M 60 3 ∧ M 60 3 ≤ 0) (p2 : 10 ≤ M 60 16 ∧ M 60 16 ≤ 10) : ∃ z M', xF d 239 [.inr 62, .inl a1, .inl a2] M = rI z M' ∧ ((-1 ≤ z ∧ z ≤ -1 ∧ 10 ≤ M' 60 16 ∧ M' 60 16 ≤ 10) ∨ (-2 ≤ z ∧ z ≤ -2 ∧ 10 ≤ M' 60 16 ∧ M' 60 16 ≤ 10) ∨ (0 ≤ z ∧ z ≤ 999999 ∧ 0 ≤ M' 60 16 ∧ M' 60 16 ≤ 0)) := by
  have c0 : cOK gAll (xF d) 239 K_987 := (ct_of (d := d) ct_ok (show K_987 ∈ CT.getD 239 [] from (show CT.getD 239 [] = [K_967, K_969, K_971, K_973, K_975, K_977, K_979, K_981, K_983, K_985, K_987, K_989, K_556, K_1080, K_943, K_945, K_947, K_949, K_951, K_953, K_955, K_957, K_959, K_961, K_963, K_965, K_1082, K_1084, K_1086, K_1088, K_1090, K_1092, K_1094, K_1096, K_1098, K_1100, K_554] from rfl) ▸ by simp) hd)
  obtain ⟨z, M', e, -, -, alt, ha, q, p⟩ := cOK_I c0 (A := [.inr 62, .inl a1, .inl a2]) (show aF2 gW [aRef 62, (0, -2147483648, 2147483647, 0, 0, 0), (0, -2147483648, 2147483647, 0, 0, 0)] [.inr 62, .inl a1, .inl a2] from ⟨gW_o, gW_i h1.1 h1.2, gW_i h2.1 h2.2, trivial⟩) hM (show gP0 [(60, 0, (0, 0, 0, 0, 0, 0)), (60, 3, (0, 0, 0, 0, 0, 0)), (60, 16, (0, 10, 10, 0, 0, 0))] M from fun e he => by
    simp only [List.mem_cons, List.not_mem_nil, or_false] at he
    rcases he with rfl | rfl | rfl
    · exact gR_i p0.1 p0.2
    · exact gR_i p1.1 p1.2
    · exact gR_i p2.1 p2.2) rfl
  refine ⟨z, M', e, ?_⟩
  have ha : alt ∈ [(some (0, -1, -1, 0, 0, 0), [], [(60, 0, (0, 0, 0, 0, 0, 0)), (60, 3, (0, 0, 0, 0, 0, 0)), (60, 16, (0, 10, 10, 0, 0, 0)), (60, 17, (0, 0, 0, 0, 0, 0))]), (some (0, -2, -2, 0, 0, 0), [(4, 0, 0, 0, 0, 0), (0, 0, 5, 0, 0, 0), (0, 0, 99, 0, 0, 0)], [(60, 0, (0, 0, 0, 0, 0, 0)), (60, 3, (0, 0, 0, 0, 0, 0)), (60, 16, (0, 10, 10, 0, 0, 0)), (60, 17, (0, 0, 0, 0, 0, 0)), (60, 30, (0, 0, 0, 0, 0, 0)), (60, 39, (0, 1, 1, 0, 0, 0)), (60, 40, (0, 0, 1000000, 0, 0, 0))]), (some (0, 0, 999999, 0, 0, 0), [(4, 0, 0, 0, 0, 0), (0, 0, 5, 0, 0, 0), (0, 0, 99, 0, 0, 0)], [(60, 0, (0, 0, 0, 0, 0, 0)), (60, 3, (0, 0, 0, 0, 0, 0)), (60, 16, (0, 0, 0, 0, 0, 0)), (60, 17, (0, 0, 0, 0, 0, 0)), (60, 30, (0, 0, 0, 0, 0, 0)), (60, 39, (0, 1, 1, 0, 0, 0)), (60, 40, (0, 0, 1000000, 0, 0, 0))])] := ha
  simp only [List.mem_cons, List.not_mem_nil, or_false] at ha
  rcases ha with rfl | rfl | rfl
  · obtain ⟨z2, e2, r⟩ := gW_int (show gW _ _ from q) (Nat.le_of_ble_eq_true rfl)
    cases e2
    have := gR0 r
    have w := gR0 (show gR (0, 10, 10, 0, 0, 0) (M' 60 16) from (p _ (List.mem_cons_of_mem _ (List.mem_cons_of_mem _ List.mem_cons_self))).1)
    exact Or.inl ⟨this.1, this.2, w.1, w.2⟩
  · obtain ⟨z2, e2, r⟩ := gW_int (show gW _ _ from q) (Nat.le_of_ble_eq_true rfl)
    cases e2
    have := gR0 r
    have w := gR0 (show gR (0, 10, 10, 0, 0, 0) (M' 60 16) from (p _ (List.mem_cons_of_mem _ (List.mem_cons_of_mem _ List.mem_cons_self))).1)
    exact Or.inr (Or.inl ⟨this.1, this.2, w.1, w.2⟩)
  · obtain ⟨z2, e2, r⟩ := gW_int (show gW _ _ from q) (Nat.le_of_ble_eq_true rfl)
    cases e2
    have := gR0 r
    have w := gR0 (show gR (0, 0, 0, 0, 0, 0) (M' 60 16) from (p _ (List.mem_cons_of_mem _ (List.mem_cons_of_mem _ List.mem_cons_self))).1)
    exact Or.inr (Or.inr ⟨this.1, this.2, w.1, w.2⟩)
theorem nu_M_guest0_11 {d : Nat} (hd : 5 ≤ d) {M : pM} {a1 : Int} {a2 : Int} (hM : gM gAll M) (h1 : -2147483648 ≤ a1 ∧ a1 ≤ 2147483647) (h2 : -2147483648 ≤ a2 ∧ a2 ≤ 2147483647) (p0 : 0 ≤ M 60 0 ∧ M 60 0 ≤ 0) (p1 : 0 ≤ M 60 3 ∧ M 60 3 ≤ 0) (p2 : 11 ≤ M 60 16 ∧ M 60 16 ≤ 11) : ∃ z M', xF d 239 [.inr 62, .inl a1, .inl a2] M = rI z M' ∧ ((-1 ≤ z ∧ z ≤ -1 ∧ 11 ≤ M' 60 16 ∧ M' 60 16 ≤ 11) ∨ (-2 ≤ z ∧ z ≤ -2 ∧ 11 ≤ M' 60 16 ∧ M' 60 16 ≤ 11) ∨ (0 ≤ z ∧ z ≤ 999999 ∧ 0 ≤ M' 60 16 ∧ M' 60 16 ≤ 0)) := by
  have c0 : cOK gAll (xF d) 239 K_989 := (ct_of (d := d) ct_ok (show K_989 ∈ CT.getD 239 [] from (show CT.getD 239 [] = [K_967, K_969, K_971, K_973, K_975, K_977, K_979, K_981, K_983, K_985, K_987, K_989, K_556, K_1080, K_943, K_945, K_947, K_949, K_951, K_953, K_955, K_957, K_959, K_961, K_963, K_965, K_1082, K_1084, K_1086, K_1088, K_1090, K_1092, K_1094, K_1096, K_1098, K_1100, K_554] from rfl) ▸ by simp) hd)
  obtain ⟨z, M', e, -, -, alt, ha, q, p⟩ := cOK_I c0 (A := [.inr 62, .inl a1, .inl a2]) (show aF2 gW [aRef 62, (0, -2147483648, 2147483647, 0, 0, 0), (0, -2147483648, 2147483647, 0, 0, 0)] [.inr 62, .inl a1, .inl a2] from ⟨gW_o, gW_i h1.1 h1.2, gW_i h2.1 h2.2, trivial⟩) hM (show gP0 [(60, 0, (0, 0, 0, 0, 0, 0)), (60, 3, (0, 0, 0, 0, 0, 0)), (60, 16, (0, 11, 11, 0, 0, 0))] M from fun e he => by
    simp only [List.mem_cons, List.not_mem_nil, or_false] at he
    rcases he with rfl | rfl | rfl
    · exact gR_i p0.1 p0.2
    · exact gR_i p1.1 p1.2
    · exact gR_i p2.1 p2.2) rfl
  refine ⟨z, M', e, ?_⟩
  have ha : alt ∈ [(some (0, -1, -1, 0, 0, 0), [], [(60, 0, (0, 0, 0, 0, 0, 0)), (60, 3, (0, 0, 0, 0, 0, 0)), (60, 16, (0, 11, 11, 0, 0, 0)), (60, 17, (0, 0, 0, 0, 0, 0))]), (some (0, -2, -2, 0, 0, 0), [(4, 0, 0, 0, 0, 0), (0, 0, 5, 0, 0, 0), (0, 0, 99, 0, 0, 0)], [(60, 0, (0, 0, 0, 0, 0, 0)), (60, 3, (0, 0, 0, 0, 0, 0)), (60, 16, (0, 11, 11, 0, 0, 0)), (60, 17, (0, 0, 0, 0, 0, 0)), (60, 30, (0, 0, 0, 0, 0, 0)), (60, 39, (0, 1, 1, 0, 0, 0)), (60, 40, (0, 0, 1000000, 0, 0, 0))]), (some (0, 0, 999999, 0, 0, 0), [(4, 0, 0, 0, 0, 0), (0, 0, 5, 0, 0, 0), (0, 0, 99, 0, 0, 0)], [(60, 0, (0, 0, 0, 0, 0, 0)), (60, 3, (0, 0, 0, 0, 0, 0)), (60, 16, (0, 0, 0, 0, 0, 0)), (60, 17, (0, 0, 0, 0, 0, 0)), (60, 30, (0, 0, 0, 0, 0, 0)), (60, 39, (0, 1, 1, 0, 0, 0)), (60, 40, (0, 0, 1000000, 0, 0, 0))])] := ha
  simp only [List.mem_cons, List.not_mem_nil, or_false] at ha
  rcases ha with rfl | rfl | rfl
  · obtain ⟨z2, e2, r⟩ := gW_int (show gW _ _ from q) (Nat.le_of_ble_eq_true rfl)
    cases e2
    have := gR0 r
    have w := gR0 (show gR (0, 11, 11, 0, 0, 0) (M' 60 16) from (p _ (List.mem_cons_of_mem _ (List.mem_cons_of_mem _ List.mem_cons_self))).1)
    exact Or.inl ⟨this.1, this.2, w.1, w.2⟩
  · obtain ⟨z2, e2, r⟩ := gW_int (show gW _ _ from q) (Nat.le_of_ble_eq_true rfl)
    cases e2
    have := gR0 r
    have w := gR0 (show gR (0, 11, 11, 0, 0, 0) (M' 60 16) from (p _ (List.mem_cons_of_mem _ (List.mem_cons_of_mem _ List.mem_cons_self))).1)
    exact Or.inr (Or.inl ⟨this.1, this.2, w.1, w.2⟩)
  · obtain ⟨z2, e2, r⟩ := gW_int (show gW _ _ from q) (Nat.le_of_ble_eq_true rfl)
    cases e2
    have := gR0 r
    have w := gR0 (show gR (0, 0, 0, 0, 0, 0) (M' 60 16) from (p _ (List.mem_cons_of_mem _ (List.mem_cons_of_mem _ List.mem_cons_self))).1)
    exact Or.inr (Or.inr ⟨this.1, this.2, w.1, w.2⟩)
theorem nu_M_guest0 {d : Nat} (hd : 5 ≤ d) {M M' : pM} {a1 : Int} {a2 : Int} {v : Int} (hM : gM gAll M) (h1 : -2147483648 ≤ a1 ∧ a1 ≤ 2147483647) (h2 : -2147483648 ≤ a2 ∧ a2 ≤ 2147483647) (p0 : 0 ≤ M 60 0 ∧ M 60 0 ≤ 0) (p1 : 0 ≤ M 60 3 ∧ M 60 3 ≤ 0) {n : Nat} (hn : n ≤ 11) (hc : M 60 16 = (n : Int)) (e : xF d 239 [.inr 62, .inl a1, .inl a2] M = rI v M') : (-1 ≤ v ∧ v ≤ -1 ∧ M' 60 16 = (n : Int)) ∨ (-2 ≤ v ∧ v ≤ -2 ∧ M' 60 16 = (n : Int)) ∨ (0 ≤ v ∧ v ≤ 999999 ∧ M' 60 16 = 0) := by
  rcases (show n = 0 ∨ n = 1 ∨ n = 2 ∨ n = 3 ∨ n = 4 ∨ n = 5 ∨ n = 6 ∨ n = 7 ∨ n = 8 ∨ n = 9 ∨ n = 10 ∨ n = 11 by omega) with rfl | rfl | rfl | rfl | rfl | rfl | rfl | rfl | rfl | rfl | rfl | rfl
  · obtain ⟨z, M2, e2, r⟩ := nu_M_guest0_0 (d := d) (by omega) hM h1 h2 p0 p1 (by omega)
    obtain ⟨y1, y2⟩ := rI_inj (e.symm.trans e2)
    rw [y1, y2]
    rcases r with r | r | r
    · exact Or.inl (by omega)
    · exact Or.inr (Or.inl (by omega))
    · exact Or.inr (Or.inr ((by omega)))
  · obtain ⟨z, M2, e2, r⟩ := nu_M_guest0_1 (d := d) (by omega) hM h1 h2 p0 p1 (by omega)
    obtain ⟨y1, y2⟩ := rI_inj (e.symm.trans e2)
    rw [y1, y2]
    rcases r with r | r | r
    · exact Or.inl (by omega)
    · exact Or.inr (Or.inl (by omega))
    · exact Or.inr (Or.inr ((by omega)))
  · obtain ⟨z, M2, e2, r⟩ := nu_M_guest0_2 (d := d) (by omega) hM h1 h2 p0 p1 (by omega)
    obtain ⟨y1, y2⟩ := rI_inj (e.symm.trans e2)
    rw [y1, y2]
    rcases r with r | r | r
    · exact Or.inl (by omega)
    · exact Or.inr (Or.inl (by omega))
    · exact Or.inr (Or.inr ((by omega)))
  · obtain ⟨z, M2, e2, r⟩ := nu_M_guest0_3 (d := d) (by omega) hM h1 h2 p0 p1 (by omega)
    obtain ⟨y1, y2⟩ := rI_inj (e.symm.trans e2)
    rw [y1, y2]
    rcases r with r | r | r
    · exact Or.inl (by omega)
    · exact Or.inr (Or.inl (by omega))
    · exact Or.inr (Or.inr ((by omega)))
  · obtain ⟨z, M2, e2, r⟩ := nu_M_guest0_4 (d := d) (by omega) hM h1 h2 p0 p1 (by omega)
    obtain ⟨y1, y2⟩ := rI_inj (e.symm.trans e2)
    rw [y1, y2]
    rcases r with r | r | r
    · exact Or.inl (by omega)
    · exact Or.inr (Or.inl (by omega))
    · exact Or.inr (Or.inr ((by omega)))
  · obtain ⟨z, M2, e2, r⟩ := nu_M_guest0_5 (d := d) (by omega) hM h1 h2 p0 p1 (by omega)
    obtain ⟨y1, y2⟩ := rI_inj (e.symm.trans e2)
    rw [y1, y2]
    rcases r with r | r | r
    · exact Or.inl (by omega)
    · exact Or.inr (Or.inl (by omega))
    · exact Or.inr (Or.inr ((by omega)))
  · obtain ⟨z, M2, e2, r⟩ := nu_M_guest0_6 (d := d) (by omega) hM h1 h2 p0 p1 (by omega)
    obtain ⟨y1, y2⟩ := rI_inj (e.symm.trans e2)
    rw [y1, y2]
    rcases r with r | r | r
    · exact Or.inl (by omega)
    · exact Or.inr (Or.inl (by omega))
    · exact Or.inr (Or.inr ((by omega)))
  · obtain ⟨z, M2, e2, r⟩ := nu_M_guest0_7 (d := d) (by omega) hM h1 h2 p0 p1 (by omega)
    obtain ⟨y1, y2⟩ := rI_inj (e.symm.trans e2)
    rw [y1, y2]
    rcases r with r | r | r
    · exact Or.inl (by omega)
    · exact Or.inr (Or.inl (by omega))
    · exact Or.inr (Or.inr ((by omega)))
  · obtain ⟨z, M2, e2, r⟩ := nu_M_guest0_8 (d := d) (by omega) hM h1 h2 p0 p1 (by omega)
    obtain ⟨y1, y2⟩ := rI_inj (e.symm.trans e2)
    rw [y1, y2]
    rcases r with r | r | r
    · exact Or.inl (by omega)
    · exact Or.inr (Or.inl (by omega))
    · exact Or.inr (Or.inr ((by omega)))
  · obtain ⟨z, M2, e2, r⟩ := nu_M_guest0_9 (d := d) (by omega) hM h1 h2 p0 p1 (by omega)
    obtain ⟨y1, y2⟩ := rI_inj (e.symm.trans e2)
    rw [y1, y2]
    rcases r with r | r | r
    · exact Or.inl (by omega)
    · exact Or.inr (Or.inl (by omega))
    · exact Or.inr (Or.inr ((by omega)))
  · obtain ⟨z, M2, e2, r⟩ := nu_M_guest0_10 (d := d) (by omega) hM h1 h2 p0 p1 (by omega)
    obtain ⟨y1, y2⟩ := rI_inj (e.symm.trans e2)
    rw [y1, y2]
    rcases r with r | r | r
    · exact Or.inl (by omega)
    · exact Or.inr (Or.inl (by omega))
    · exact Or.inr (Or.inr ((by omega)))
  · obtain ⟨z, M2, e2, r⟩ := nu_M_guest0_11 (d := d) (by omega) hM h1 h2 p0 p1 (by omega)
    obtain ⟨y1, y2⟩ := rI_inj (e.symm.trans e2)
    rw [y1, y2]
    rcases r with r | r | r
    · exact Or.inl (by omega)
    · exact Or.inr (Or.inl (by omega))
    · exact Or.inr (Or.inr ((by omega)))
theorem nu_M_sell1_0 {d : Nat} (hd : 4 ≤ d) {M : pM} (hM : gM gAll M) (p0 : 1 ≤ M 60 0 ∧ M 60 0 ≤ 6) (p1 : 0 ≤ M 60 16 ∧ M 60 16 ≤ 0) (p2 : 0 ≤ M 60 38 ∧ M 60 38 ≤ 0) : ∃ z M', xF d 246 [.inr 62] M = rI z M' ∧ ((-3 ≤ z ∧ z ≤ -3 ∧ 0 ≤ M' 60 16 ∧ M' 60 16 ≤ 0) ∨ (0 ≤ z ∧ z ≤ 63 ∧ 1 ≤ M' 60 16 ∧ M' 60 16 ≤ 1)) := by
  have c0 : cOK gAll (xF d) 246 K_990 := (ct_of (d := d) ct_ok (show K_990 ∈ CT.getD 246 [] from (show CT.getD 246 [] = [K_1002, K_1003, K_1004, K_1005, K_1006, K_1007, K_1008, K_1009, K_1010, K_1011, K_1012, K_1013, K_575, K_990, K_991, K_992, K_993, K_994, K_995, K_996, K_997, K_998, K_999, K_1000, K_1001, K_574] from rfl) ▸ by simp) hd)
  obtain ⟨z, M', e, -, -, alt, ha, q, p⟩ := cOK_I c0 (A := [.inr 62]) (show aF2 gW [aRef 62] [.inr 62] from ⟨gW_o, trivial⟩) hM (show gP0 [(60, 0, (0, 1, 6, 0, 0, 0)), (60, 16, (0, 0, 0, 0, 0, 0)), (60, 38, (0, 0, 0, 0, 0, 0))] M from fun e he => by
    simp only [List.mem_cons, List.not_mem_nil, or_false] at he
    rcases he with rfl | rfl | rfl
    · exact gR_i p0.1 p0.2
    · exact gR_i p1.1 p1.2
    · exact gR_i p2.1 p2.2) rfl
  refine ⟨z, M', e, ?_⟩
  have ha : alt ∈ [(some (0, -3, -3, 0, 0, 0), [], [(60, 0, (0, 1, 6, 0, 0, 0)), (60, 16, (0, 0, 0, 0, 0, 0)), (60, 17, (0, 0, 0, 0, 0, 0)), (60, 38, (0, 0, 0, 0, 0, 0)), (60, 39, (0, 20001, 1000000, 0, 0, 0))]), (some (0, 0, 63, 0, 0, 0), [], [(60, 0, (0, 1, 6, 0, 0, 0)), (60, 16, (0, 1, 1, 0, 0, 0)), (60, 17, (0, 0, 0, 0, 0, 0)), (60, 38, (0, 0, 0, 0, 0, 0)), (60, 39, (0, 1, 20000, 0, 0, 0)), (69, 0, (0, -2147483648, 2147483647, 0, 0, 0))])] := ha
  simp only [List.mem_cons, List.not_mem_nil, or_false] at ha
  rcases ha with rfl | rfl
  · obtain ⟨z2, e2, r⟩ := gW_int (show gW _ _ from q) (Nat.le_of_ble_eq_true rfl)
    cases e2
    have := gR0 r
    have w := gR0 (show gR (0, 0, 0, 0, 0, 0) (M' 60 16) from (p _ (List.mem_cons_of_mem _ List.mem_cons_self)).1)
    exact Or.inl ⟨this.1, this.2, w.1, w.2⟩
  · obtain ⟨z2, e2, r⟩ := gW_int (show gW _ _ from q) (Nat.le_of_ble_eq_true rfl)
    cases e2
    have := gR0 r
    have w := gR0 (show gR (0, 1, 1, 0, 0, 0) (M' 60 16) from (p _ (List.mem_cons_of_mem _ List.mem_cons_self)).1)
    exact Or.inr ⟨this.1, this.2, w.1, w.2⟩
theorem nu_M_sell1_1 {d : Nat} (hd : 4 ≤ d) {M : pM} (hM : gM gAll M) (p0 : 1 ≤ M 60 0 ∧ M 60 0 ≤ 6) (p1 : 1 ≤ M 60 16 ∧ M 60 16 ≤ 1) (p2 : 0 ≤ M 60 38 ∧ M 60 38 ≤ 0) : ∃ z M', xF d 246 [.inr 62] M = rI z M' ∧ ((-3 ≤ z ∧ z ≤ -3 ∧ 1 ≤ M' 60 16 ∧ M' 60 16 ≤ 1) ∨ (0 ≤ z ∧ z ≤ 63 ∧ 1 ≤ M' 60 16 ∧ M' 60 16 ≤ 1)) := by
  have c0 : cOK gAll (xF d) 246 K_991 := (ct_of (d := d) ct_ok (show K_991 ∈ CT.getD 246 [] from (show CT.getD 246 [] = [K_1002, K_1003, K_1004, K_1005, K_1006, K_1007, K_1008, K_1009, K_1010, K_1011, K_1012, K_1013, K_575, K_990, K_991, K_992, K_993, K_994, K_995, K_996, K_997, K_998, K_999, K_1000, K_1001, K_574] from rfl) ▸ by simp) hd)
  obtain ⟨z, M', e, -, -, alt, ha, q, p⟩ := cOK_I c0 (A := [.inr 62]) (show aF2 gW [aRef 62] [.inr 62] from ⟨gW_o, trivial⟩) hM (show gP0 [(60, 0, (0, 1, 6, 0, 0, 0)), (60, 16, (0, 1, 1, 0, 0, 0)), (60, 38, (0, 0, 0, 0, 0, 0))] M from fun e he => by
    simp only [List.mem_cons, List.not_mem_nil, or_false] at he
    rcases he with rfl | rfl | rfl
    · exact gR_i p0.1 p0.2
    · exact gR_i p1.1 p1.2
    · exact gR_i p2.1 p2.2) rfl
  refine ⟨z, M', e, ?_⟩
  have ha : alt ∈ [(some (0, -3, -3, 0, 0, 0), [], [(60, 0, (0, 1, 6, 0, 0, 0)), (60, 16, (0, 1, 1, 0, 0, 0)), (60, 17, (0, 0, 0, 0, 0, 0)), (60, 38, (0, 0, 0, 0, 0, 0)), (60, 39, (0, 20001, 1000000, 0, 0, 0))]), (some (0, 0, 63, 0, 0, 0), [], [(60, 0, (0, 1, 6, 0, 0, 0)), (60, 16, (0, 1, 1, 0, 0, 0)), (60, 17, (0, 0, 0, 0, 0, 0)), (60, 38, (0, 0, 0, 0, 0, 0)), (60, 39, (0, 1, 20000, 0, 0, 0)), (69, 0, (0, -2147483648, 2147483647, 0, 0, 0))])] := ha
  simp only [List.mem_cons, List.not_mem_nil, or_false] at ha
  rcases ha with rfl | rfl
  · obtain ⟨z2, e2, r⟩ := gW_int (show gW _ _ from q) (Nat.le_of_ble_eq_true rfl)
    cases e2
    have := gR0 r
    have w := gR0 (show gR (0, 1, 1, 0, 0, 0) (M' 60 16) from (p _ (List.mem_cons_of_mem _ List.mem_cons_self)).1)
    exact Or.inl ⟨this.1, this.2, w.1, w.2⟩
  · obtain ⟨z2, e2, r⟩ := gW_int (show gW _ _ from q) (Nat.le_of_ble_eq_true rfl)
    cases e2
    have := gR0 r
    have w := gR0 (show gR (0, 1, 1, 0, 0, 0) (M' 60 16) from (p _ (List.mem_cons_of_mem _ List.mem_cons_self)).1)
    exact Or.inr ⟨this.1, this.2, w.1, w.2⟩
theorem nu_M_sell1_2 {d : Nat} (hd : 4 ≤ d) {M : pM} (hM : gM gAll M) (p0 : 1 ≤ M 60 0 ∧ M 60 0 ≤ 6) (p1 : 2 ≤ M 60 16 ∧ M 60 16 ≤ 2) (p2 : 0 ≤ M 60 38 ∧ M 60 38 ≤ 0) : ∃ z M', xF d 246 [.inr 62] M = rI z M' ∧ ((-3 ≤ z ∧ z ≤ -3 ∧ 2 ≤ M' 60 16 ∧ M' 60 16 ≤ 2) ∨ (0 ≤ z ∧ z ≤ 63 ∧ 1 ≤ M' 60 16 ∧ M' 60 16 ≤ 1)) := by
  have c0 : cOK gAll (xF d) 246 K_992 := (ct_of (d := d) ct_ok (show K_992 ∈ CT.getD 246 [] from (show CT.getD 246 [] = [K_1002, K_1003, K_1004, K_1005, K_1006, K_1007, K_1008, K_1009, K_1010, K_1011, K_1012, K_1013, K_575, K_990, K_991, K_992, K_993, K_994, K_995, K_996, K_997, K_998, K_999, K_1000, K_1001, K_574] from rfl) ▸ by simp) hd)
  obtain ⟨z, M', e, -, -, alt, ha, q, p⟩ := cOK_I c0 (A := [.inr 62]) (show aF2 gW [aRef 62] [.inr 62] from ⟨gW_o, trivial⟩) hM (show gP0 [(60, 0, (0, 1, 6, 0, 0, 0)), (60, 16, (0, 2, 2, 0, 0, 0)), (60, 38, (0, 0, 0, 0, 0, 0))] M from fun e he => by
    simp only [List.mem_cons, List.not_mem_nil, or_false] at he
    rcases he with rfl | rfl | rfl
    · exact gR_i p0.1 p0.2
    · exact gR_i p1.1 p1.2
    · exact gR_i p2.1 p2.2) rfl
  refine ⟨z, M', e, ?_⟩
  have ha : alt ∈ [(some (0, -3, -3, 0, 0, 0), [], [(60, 0, (0, 1, 6, 0, 0, 0)), (60, 16, (0, 2, 2, 0, 0, 0)), (60, 17, (0, 0, 0, 0, 0, 0)), (60, 38, (0, 0, 0, 0, 0, 0)), (60, 39, (0, 20001, 1000000, 0, 0, 0))]), (some (0, 0, 63, 0, 0, 0), [], [(60, 0, (0, 1, 6, 0, 0, 0)), (60, 16, (0, 1, 1, 0, 0, 0)), (60, 17, (0, 0, 0, 0, 0, 0)), (60, 38, (0, 0, 0, 0, 0, 0)), (60, 39, (0, 1, 20000, 0, 0, 0)), (69, 0, (0, -2147483648, 2147483647, 0, 0, 0))])] := ha
  simp only [List.mem_cons, List.not_mem_nil, or_false] at ha
  rcases ha with rfl | rfl
  · obtain ⟨z2, e2, r⟩ := gW_int (show gW _ _ from q) (Nat.le_of_ble_eq_true rfl)
    cases e2
    have := gR0 r
    have w := gR0 (show gR (0, 2, 2, 0, 0, 0) (M' 60 16) from (p _ (List.mem_cons_of_mem _ List.mem_cons_self)).1)
    exact Or.inl ⟨this.1, this.2, w.1, w.2⟩
  · obtain ⟨z2, e2, r⟩ := gW_int (show gW _ _ from q) (Nat.le_of_ble_eq_true rfl)
    cases e2
    have := gR0 r
    have w := gR0 (show gR (0, 1, 1, 0, 0, 0) (M' 60 16) from (p _ (List.mem_cons_of_mem _ List.mem_cons_self)).1)
    exact Or.inr ⟨this.1, this.2, w.1, w.2⟩
theorem nu_M_sell1_3 {d : Nat} (hd : 4 ≤ d) {M : pM} (hM : gM gAll M) (p0 : 1 ≤ M 60 0 ∧ M 60 0 ≤ 6) (p1 : 3 ≤ M 60 16 ∧ M 60 16 ≤ 3) (p2 : 0 ≤ M 60 38 ∧ M 60 38 ≤ 0) : ∃ z M', xF d 246 [.inr 62] M = rI z M' ∧ ((-3 ≤ z ∧ z ≤ -3 ∧ 3 ≤ M' 60 16 ∧ M' 60 16 ≤ 3) ∨ (0 ≤ z ∧ z ≤ 63 ∧ 1 ≤ M' 60 16 ∧ M' 60 16 ≤ 1)) := by
  have c0 : cOK gAll (xF d) 246 K_993 := (ct_of (d := d) ct_ok (show K_993 ∈ CT.getD 246 [] from (show CT.getD 246 [] = [K_1002, K_1003, K_1004, K_1005, K_1006, K_1007, K_1008, K_1009, K_1010, K_1011, K_1012, K_1013, K_575, K_990, K_991, K_992, K_993, K_994, K_995, K_996, K_997, K_998, K_999, K_1000, K_1001, K_574] from rfl) ▸ by simp) hd)
  obtain ⟨z, M', e, -, -, alt, ha, q, p⟩ := cOK_I c0 (A := [.inr 62]) (show aF2 gW [aRef 62] [.inr 62] from ⟨gW_o, trivial⟩) hM (show gP0 [(60, 0, (0, 1, 6, 0, 0, 0)), (60, 16, (0, 3, 3, 0, 0, 0)), (60, 38, (0, 0, 0, 0, 0, 0))] M from fun e he => by
    simp only [List.mem_cons, List.not_mem_nil, or_false] at he
    rcases he with rfl | rfl | rfl
    · exact gR_i p0.1 p0.2
    · exact gR_i p1.1 p1.2
    · exact gR_i p2.1 p2.2) rfl
  refine ⟨z, M', e, ?_⟩
  have ha : alt ∈ [(some (0, -3, -3, 0, 0, 0), [], [(60, 0, (0, 1, 6, 0, 0, 0)), (60, 16, (0, 3, 3, 0, 0, 0)), (60, 17, (0, 0, 0, 0, 0, 0)), (60, 38, (0, 0, 0, 0, 0, 0)), (60, 39, (0, 20001, 1000000, 0, 0, 0))]), (some (0, 0, 63, 0, 0, 0), [], [(60, 0, (0, 1, 6, 0, 0, 0)), (60, 16, (0, 1, 1, 0, 0, 0)), (60, 17, (0, 0, 0, 0, 0, 0)), (60, 38, (0, 0, 0, 0, 0, 0)), (60, 39, (0, 1, 20000, 0, 0, 0)), (69, 0, (0, -2147483648, 2147483647, 0, 0, 0))])] := ha
  simp only [List.mem_cons, List.not_mem_nil, or_false] at ha
  rcases ha with rfl | rfl
  · obtain ⟨z2, e2, r⟩ := gW_int (show gW _ _ from q) (Nat.le_of_ble_eq_true rfl)
    cases e2
    have := gR0 r
    have w := gR0 (show gR (0, 3, 3, 0, 0, 0) (M' 60 16) from (p _ (List.mem_cons_of_mem _ List.mem_cons_self)).1)
    exact Or.inl ⟨this.1, this.2, w.1, w.2⟩
  · obtain ⟨z2, e2, r⟩ := gW_int (show gW _ _ from q) (Nat.le_of_ble_eq_true rfl)
    cases e2
    have := gR0 r
    have w := gR0 (show gR (0, 1, 1, 0, 0, 0) (M' 60 16) from (p _ (List.mem_cons_of_mem _ List.mem_cons_self)).1)
    exact Or.inr ⟨this.1, this.2, w.1, w.2⟩
theorem nu_M_sell1_4 {d : Nat} (hd : 4 ≤ d) {M : pM} (hM : gM gAll M) (p0 : 1 ≤ M 60 0 ∧ M 60 0 ≤ 6) (p1 : 4 ≤ M 60 16 ∧ M 60 16 ≤ 4) (p2 : 0 ≤ M 60 38 ∧ M 60 38 ≤ 0) : ∃ z M', xF d 246 [.inr 62] M = rI z M' ∧ ((-3 ≤ z ∧ z ≤ -3 ∧ 4 ≤ M' 60 16 ∧ M' 60 16 ≤ 4) ∨ (0 ≤ z ∧ z ≤ 63 ∧ 1 ≤ M' 60 16 ∧ M' 60 16 ≤ 1)) := by
  have c0 : cOK gAll (xF d) 246 K_994 := (ct_of (d := d) ct_ok (show K_994 ∈ CT.getD 246 [] from (show CT.getD 246 [] = [K_1002, K_1003, K_1004, K_1005, K_1006, K_1007, K_1008, K_1009, K_1010, K_1011, K_1012, K_1013, K_575, K_990, K_991, K_992, K_993, K_994, K_995, K_996, K_997, K_998, K_999, K_1000, K_1001, K_574] from rfl) ▸ by simp) hd)
  obtain ⟨z, M', e, -, -, alt, ha, q, p⟩ := cOK_I c0 (A := [.inr 62]) (show aF2 gW [aRef 62] [.inr 62] from ⟨gW_o, trivial⟩) hM (show gP0 [(60, 0, (0, 1, 6, 0, 0, 0)), (60, 16, (0, 4, 4, 0, 0, 0)), (60, 38, (0, 0, 0, 0, 0, 0))] M from fun e he => by
    simp only [List.mem_cons, List.not_mem_nil, or_false] at he
    rcases he with rfl | rfl | rfl
    · exact gR_i p0.1 p0.2
    · exact gR_i p1.1 p1.2
    · exact gR_i p2.1 p2.2) rfl
  refine ⟨z, M', e, ?_⟩
  have ha : alt ∈ [(some (0, -3, -3, 0, 0, 0), [], [(60, 0, (0, 1, 6, 0, 0, 0)), (60, 16, (0, 4, 4, 0, 0, 0)), (60, 17, (0, 0, 0, 0, 0, 0)), (60, 38, (0, 0, 0, 0, 0, 0)), (60, 39, (0, 20001, 1000000, 0, 0, 0))]), (some (0, 0, 63, 0, 0, 0), [], [(60, 0, (0, 1, 6, 0, 0, 0)), (60, 16, (0, 1, 1, 0, 0, 0)), (60, 17, (0, 0, 0, 0, 0, 0)), (60, 38, (0, 0, 0, 0, 0, 0)), (60, 39, (0, 1, 20000, 0, 0, 0)), (69, 0, (0, -2147483648, 2147483647, 0, 0, 0))])] := ha
  simp only [List.mem_cons, List.not_mem_nil, or_false] at ha
  rcases ha with rfl | rfl
  · obtain ⟨z2, e2, r⟩ := gW_int (show gW _ _ from q) (Nat.le_of_ble_eq_true rfl)
    cases e2
    have := gR0 r
    have w := gR0 (show gR (0, 4, 4, 0, 0, 0) (M' 60 16) from (p _ (List.mem_cons_of_mem _ List.mem_cons_self)).1)
    exact Or.inl ⟨this.1, this.2, w.1, w.2⟩
  · obtain ⟨z2, e2, r⟩ := gW_int (show gW _ _ from q) (Nat.le_of_ble_eq_true rfl)
    cases e2
    have := gR0 r
    have w := gR0 (show gR (0, 1, 1, 0, 0, 0) (M' 60 16) from (p _ (List.mem_cons_of_mem _ List.mem_cons_self)).1)
    exact Or.inr ⟨this.1, this.2, w.1, w.2⟩
theorem nu_M_sell1_5 {d : Nat} (hd : 4 ≤ d) {M : pM} (hM : gM gAll M) (p0 : 1 ≤ M 60 0 ∧ M 60 0 ≤ 6) (p1 : 5 ≤ M 60 16 ∧ M 60 16 ≤ 5) (p2 : 0 ≤ M 60 38 ∧ M 60 38 ≤ 0) : ∃ z M', xF d 246 [.inr 62] M = rI z M' ∧ ((-3 ≤ z ∧ z ≤ -3 ∧ 5 ≤ M' 60 16 ∧ M' 60 16 ≤ 5) ∨ (0 ≤ z ∧ z ≤ 63 ∧ 1 ≤ M' 60 16 ∧ M' 60 16 ≤ 1)) := by
  have c0 : cOK gAll (xF d) 246 K_995 := (ct_of (d := d) ct_ok (show K_995 ∈ CT.getD 246 [] from (show CT.getD 246 [] = [K_1002, K_1003, K_1004, K_1005, K_1006, K_1007, K_1008, K_1009, K_1010, K_1011, K_1012, K_1013, K_575, K_990, K_991, K_992, K_993, K_994, K_995, K_996, K_997, K_998, K_999, K_1000, K_1001, K_574] from rfl) ▸ by simp) hd)
  obtain ⟨z, M', e, -, -, alt, ha, q, p⟩ := cOK_I c0 (A := [.inr 62]) (show aF2 gW [aRef 62] [.inr 62] from ⟨gW_o, trivial⟩) hM (show gP0 [(60, 0, (0, 1, 6, 0, 0, 0)), (60, 16, (0, 5, 5, 0, 0, 0)), (60, 38, (0, 0, 0, 0, 0, 0))] M from fun e he => by
    simp only [List.mem_cons, List.not_mem_nil, or_false] at he
    rcases he with rfl | rfl | rfl
    · exact gR_i p0.1 p0.2
    · exact gR_i p1.1 p1.2
    · exact gR_i p2.1 p2.2) rfl
  refine ⟨z, M', e, ?_⟩
  have ha : alt ∈ [(some (0, -3, -3, 0, 0, 0), [], [(60, 0, (0, 1, 6, 0, 0, 0)), (60, 16, (0, 5, 5, 0, 0, 0)), (60, 17, (0, 0, 0, 0, 0, 0)), (60, 38, (0, 0, 0, 0, 0, 0)), (60, 39, (0, 20001, 1000000, 0, 0, 0))]), (some (0, 0, 63, 0, 0, 0), [], [(60, 0, (0, 1, 6, 0, 0, 0)), (60, 16, (0, 1, 1, 0, 0, 0)), (60, 17, (0, 0, 0, 0, 0, 0)), (60, 38, (0, 0, 0, 0, 0, 0)), (60, 39, (0, 1, 20000, 0, 0, 0)), (69, 0, (0, -2147483648, 2147483647, 0, 0, 0))])] := ha
  simp only [List.mem_cons, List.not_mem_nil, or_false] at ha
  rcases ha with rfl | rfl
  · obtain ⟨z2, e2, r⟩ := gW_int (show gW _ _ from q) (Nat.le_of_ble_eq_true rfl)
    cases e2
    have := gR0 r
    have w := gR0 (show gR (0, 5, 5, 0, 0, 0) (M' 60 16) from (p _ (List.mem_cons_of_mem _ List.mem_cons_self)).1)
    exact Or.inl ⟨this.1, this.2, w.1, w.2⟩
  · obtain ⟨z2, e2, r⟩ := gW_int (show gW _ _ from q) (Nat.le_of_ble_eq_true rfl)
    cases e2
    have := gR0 r
    have w := gR0 (show gR (0, 1, 1, 0, 0, 0) (M' 60 16) from (p _ (List.mem_cons_of_mem _ List.mem_cons_self)).1)
    exact Or.inr ⟨this.1, this.2, w.1, w.2⟩
theorem nu_M_sell1_6 {d : Nat} (hd : 4 ≤ d) {M : pM} (hM : gM gAll M) (p0 : 1 ≤ M 60 0 ∧ M 60 0 ≤ 6) (p1 : 6 ≤ M 60 16 ∧ M 60 16 ≤ 6) (p2 : 0 ≤ M 60 38 ∧ M 60 38 ≤ 0) : ∃ z M', xF d 246 [.inr 62] M = rI z M' ∧ ((-3 ≤ z ∧ z ≤ -3 ∧ 6 ≤ M' 60 16 ∧ M' 60 16 ≤ 6) ∨ (0 ≤ z ∧ z ≤ 63 ∧ 1 ≤ M' 60 16 ∧ M' 60 16 ≤ 1)) := by
  have c0 : cOK gAll (xF d) 246 K_996 := (ct_of (d := d) ct_ok (show K_996 ∈ CT.getD 246 [] from (show CT.getD 246 [] = [K_1002, K_1003, K_1004, K_1005, K_1006, K_1007, K_1008, K_1009, K_1010, K_1011, K_1012, K_1013, K_575, K_990, K_991, K_992, K_993, K_994, K_995, K_996, K_997, K_998, K_999, K_1000, K_1001, K_574] from rfl) ▸ by simp) hd)
  obtain ⟨z, M', e, -, -, alt, ha, q, p⟩ := cOK_I c0 (A := [.inr 62]) (show aF2 gW [aRef 62] [.inr 62] from ⟨gW_o, trivial⟩) hM (show gP0 [(60, 0, (0, 1, 6, 0, 0, 0)), (60, 16, (0, 6, 6, 0, 0, 0)), (60, 38, (0, 0, 0, 0, 0, 0))] M from fun e he => by
    simp only [List.mem_cons, List.not_mem_nil, or_false] at he
    rcases he with rfl | rfl | rfl
    · exact gR_i p0.1 p0.2
    · exact gR_i p1.1 p1.2
    · exact gR_i p2.1 p2.2) rfl
  refine ⟨z, M', e, ?_⟩
  have ha : alt ∈ [(some (0, -3, -3, 0, 0, 0), [], [(60, 0, (0, 1, 6, 0, 0, 0)), (60, 16, (0, 6, 6, 0, 0, 0)), (60, 17, (0, 0, 0, 0, 0, 0)), (60, 38, (0, 0, 0, 0, 0, 0)), (60, 39, (0, 20001, 1000000, 0, 0, 0))]), (some (0, 0, 63, 0, 0, 0), [], [(60, 0, (0, 1, 6, 0, 0, 0)), (60, 16, (0, 1, 1, 0, 0, 0)), (60, 17, (0, 0, 0, 0, 0, 0)), (60, 38, (0, 0, 0, 0, 0, 0)), (60, 39, (0, 1, 20000, 0, 0, 0)), (69, 0, (0, -2147483648, 2147483647, 0, 0, 0))])] := ha
  simp only [List.mem_cons, List.not_mem_nil, or_false] at ha
  rcases ha with rfl | rfl
  · obtain ⟨z2, e2, r⟩ := gW_int (show gW _ _ from q) (Nat.le_of_ble_eq_true rfl)
    cases e2
    have := gR0 r
    have w := gR0 (show gR (0, 6, 6, 0, 0, 0) (M' 60 16) from (p _ (List.mem_cons_of_mem _ List.mem_cons_self)).1)
    exact Or.inl ⟨this.1, this.2, w.1, w.2⟩
  · obtain ⟨z2, e2, r⟩ := gW_int (show gW _ _ from q) (Nat.le_of_ble_eq_true rfl)
    cases e2
    have := gR0 r
    have w := gR0 (show gR (0, 1, 1, 0, 0, 0) (M' 60 16) from (p _ (List.mem_cons_of_mem _ List.mem_cons_self)).1)
    exact Or.inr ⟨this.1, this.2, w.1, w.2⟩
theorem nu_M_sell1_7 {d : Nat} (hd : 4 ≤ d) {M : pM} (hM : gM gAll M) (p0 : 1 ≤ M 60 0 ∧ M 60 0 ≤ 6) (p1 : 7 ≤ M 60 16 ∧ M 60 16 ≤ 7) (p2 : 0 ≤ M 60 38 ∧ M 60 38 ≤ 0) : ∃ z M', xF d 246 [.inr 62] M = rI z M' ∧ ((-3 ≤ z ∧ z ≤ -3 ∧ 7 ≤ M' 60 16 ∧ M' 60 16 ≤ 7) ∨ (0 ≤ z ∧ z ≤ 63 ∧ 1 ≤ M' 60 16 ∧ M' 60 16 ≤ 1)) := by
  have c0 : cOK gAll (xF d) 246 K_997 := (ct_of (d := d) ct_ok (show K_997 ∈ CT.getD 246 [] from (show CT.getD 246 [] = [K_1002, K_1003, K_1004, K_1005, K_1006, K_1007, K_1008, K_1009, K_1010, K_1011, K_1012, K_1013, K_575, K_990, K_991, K_992, K_993, K_994, K_995, K_996, K_997, K_998, K_999, K_1000, K_1001, K_574] from rfl) ▸ by simp) hd)
  obtain ⟨z, M', e, -, -, alt, ha, q, p⟩ := cOK_I c0 (A := [.inr 62]) (show aF2 gW [aRef 62] [.inr 62] from ⟨gW_o, trivial⟩) hM (show gP0 [(60, 0, (0, 1, 6, 0, 0, 0)), (60, 16, (0, 7, 7, 0, 0, 0)), (60, 38, (0, 0, 0, 0, 0, 0))] M from fun e he => by
    simp only [List.mem_cons, List.not_mem_nil, or_false] at he
    rcases he with rfl | rfl | rfl
    · exact gR_i p0.1 p0.2
    · exact gR_i p1.1 p1.2
    · exact gR_i p2.1 p2.2) rfl
  refine ⟨z, M', e, ?_⟩
  have ha : alt ∈ [(some (0, -3, -3, 0, 0, 0), [], [(60, 0, (0, 1, 6, 0, 0, 0)), (60, 16, (0, 7, 7, 0, 0, 0)), (60, 17, (0, 0, 0, 0, 0, 0)), (60, 38, (0, 0, 0, 0, 0, 0)), (60, 39, (0, 20001, 1000000, 0, 0, 0))]), (some (0, 0, 63, 0, 0, 0), [], [(60, 0, (0, 1, 6, 0, 0, 0)), (60, 16, (0, 1, 1, 0, 0, 0)), (60, 17, (0, 0, 0, 0, 0, 0)), (60, 38, (0, 0, 0, 0, 0, 0)), (60, 39, (0, 1, 20000, 0, 0, 0)), (69, 0, (0, -2147483648, 2147483647, 0, 0, 0))])] := ha
  simp only [List.mem_cons, List.not_mem_nil, or_false] at ha
  rcases ha with rfl | rfl
  · obtain ⟨z2, e2, r⟩ := gW_int (show gW _ _ from q) (Nat.le_of_ble_eq_true rfl)
    cases e2
    have := gR0 r
    have w := gR0 (show gR (0, 7, 7, 0, 0, 0) (M' 60 16) from (p _ (List.mem_cons_of_mem _ List.mem_cons_self)).1)
    exact Or.inl ⟨this.1, this.2, w.1, w.2⟩
  · obtain ⟨z2, e2, r⟩ := gW_int (show gW _ _ from q) (Nat.le_of_ble_eq_true rfl)
    cases e2
    have := gR0 r
    have w := gR0 (show gR (0, 1, 1, 0, 0, 0) (M' 60 16) from (p _ (List.mem_cons_of_mem _ List.mem_cons_self)).1)
    exact Or.inr ⟨this.1, this.2, w.1, w.2⟩
theorem nu_M_sell1_8 {d : Nat} (hd : 4 ≤ d) {M : pM} (hM : gM gAll M) (p0 : 1 ≤ M 60 0 ∧ M 60 0 ≤ 6) (p1 : 8 ≤ M 60 16 ∧ M 60 16 ≤ 8) (p2 : 0 ≤ M 60 38 ∧ M 60 38 ≤ 0) : ∃ z M', xF d 246 [.inr 62] M = rI z M' ∧ ((-3 ≤ z ∧ z ≤ -3 ∧ 8 ≤ M' 60 16 ∧ M' 60 16 ≤ 8) ∨ (0 ≤ z ∧ z ≤ 63 ∧ 1 ≤ M' 60 16 ∧ M' 60 16 ≤ 1)) := by
  have c0 : cOK gAll (xF d) 246 K_998 := (ct_of (d := d) ct_ok (show K_998 ∈ CT.getD 246 [] from (show CT.getD 246 [] = [K_1002, K_1003, K_1004, K_1005, K_1006, K_1007, K_1008, K_1009, K_1010, K_1011, K_1012, K_1013, K_575, K_990, K_991, K_992, K_993, K_994, K_995, K_996, K_997, K_998, K_999, K_1000, K_1001, K_574] from rfl) ▸ by simp) hd)
  obtain ⟨z, M', e, -, -, alt, ha, q, p⟩ := cOK_I c0 (A := [.inr 62]) (show aF2 gW [aRef 62] [.inr 62] from ⟨gW_o, trivial⟩) hM (show gP0 [(60, 0, (0, 1, 6, 0, 0, 0)), (60, 16, (0, 8, 8, 0, 0, 0)), (60, 38, (0, 0, 0, 0, 0, 0))] M from fun e he => by
    simp only [List.mem_cons, List.not_mem_nil, or_false] at he
    rcases he with rfl | rfl | rfl
    · exact gR_i p0.1 p0.2
    · exact gR_i p1.1 p1.2
    · exact gR_i p2.1 p2.2) rfl
  refine ⟨z, M', e, ?_⟩
  have ha : alt ∈ [(some (0, -3, -3, 0, 0, 0), [], [(60, 0, (0, 1, 6, 0, 0, 0)), (60, 16, (0, 8, 8, 0, 0, 0)), (60, 17, (0, 0, 0, 0, 0, 0)), (60, 38, (0, 0, 0, 0, 0, 0)), (60, 39, (0, 20001, 1000000, 0, 0, 0))]), (some (0, 0, 63, 0, 0, 0), [], [(60, 0, (0, 1, 6, 0, 0, 0)), (60, 16, (0, 1, 1, 0, 0, 0)), (60, 17, (0, 0, 0, 0, 0, 0)), (60, 38, (0, 0, 0, 0, 0, 0)), (60, 39, (0, 1, 20000, 0, 0, 0)), (69, 0, (0, -2147483648, 2147483647, 0, 0, 0))])] := ha
  simp only [List.mem_cons, List.not_mem_nil, or_false] at ha
  rcases ha with rfl | rfl
  · obtain ⟨z2, e2, r⟩ := gW_int (show gW _ _ from q) (Nat.le_of_ble_eq_true rfl)
    cases e2
    have := gR0 r
    have w := gR0 (show gR (0, 8, 8, 0, 0, 0) (M' 60 16) from (p _ (List.mem_cons_of_mem _ List.mem_cons_self)).1)
    exact Or.inl ⟨this.1, this.2, w.1, w.2⟩
  · obtain ⟨z2, e2, r⟩ := gW_int (show gW _ _ from q) (Nat.le_of_ble_eq_true rfl)
    cases e2
    have := gR0 r
    have w := gR0 (show gR (0, 1, 1, 0, 0, 0) (M' 60 16) from (p _ (List.mem_cons_of_mem _ List.mem_cons_self)).1)
    exact Or.inr ⟨this.1, this.2, w.1, w.2⟩
theorem nu_M_sell1_9 {d : Nat} (hd : 4 ≤ d) {M : pM} (hM : gM gAll M) (p0 : 1 ≤ M 60 0 ∧ M 60 0 ≤ 6) (p1 : 9 ≤ M 60 16 ∧ M 60 16 ≤ 9) (p2 : 0 ≤ M 60 38 ∧ M 60 38 ≤ 0) : ∃ z M', xF d 246 [.inr 62] M = rI z M' ∧ ((-3 ≤ z ∧ z ≤ -3 ∧ 9 ≤ M' 60 16 ∧ M' 60 16 ≤ 9) ∨ (0 ≤ z ∧ z ≤ 63 ∧ 1 ≤ M' 60 16 ∧ M' 60 16 ≤ 1)) := by
  have c0 : cOK gAll (xF d) 246 K_999 := (ct_of (d := d) ct_ok (show K_999 ∈ CT.getD 246 [] from (show CT.getD 246 [] = [K_1002, K_1003, K_1004, K_1005, K_1006, K_1007, K_1008, K_1009, K_1010, K_1011, K_1012, K_1013, K_575, K_990, K_991, K_992, K_993, K_994, K_995, K_996, K_997, K_998, K_999, K_1000, K_1001, K_574] from rfl) ▸ by simp) hd)
  obtain ⟨z, M', e, -, -, alt, ha, q, p⟩ := cOK_I c0 (A := [.inr 62]) (show aF2 gW [aRef 62] [.inr 62] from ⟨gW_o, trivial⟩) hM (show gP0 [(60, 0, (0, 1, 6, 0, 0, 0)), (60, 16, (0, 9, 9, 0, 0, 0)), (60, 38, (0, 0, 0, 0, 0, 0))] M from fun e he => by
    simp only [List.mem_cons, List.not_mem_nil, or_false] at he
    rcases he with rfl | rfl | rfl
    · exact gR_i p0.1 p0.2
    · exact gR_i p1.1 p1.2
    · exact gR_i p2.1 p2.2) rfl
  refine ⟨z, M', e, ?_⟩
  have ha : alt ∈ [(some (0, -3, -3, 0, 0, 0), [], [(60, 0, (0, 1, 6, 0, 0, 0)), (60, 16, (0, 9, 9, 0, 0, 0)), (60, 17, (0, 0, 0, 0, 0, 0)), (60, 38, (0, 0, 0, 0, 0, 0)), (60, 39, (0, 20001, 1000000, 0, 0, 0))]), (some (0, 0, 63, 0, 0, 0), [], [(60, 0, (0, 1, 6, 0, 0, 0)), (60, 16, (0, 1, 1, 0, 0, 0)), (60, 17, (0, 0, 0, 0, 0, 0)), (60, 38, (0, 0, 0, 0, 0, 0)), (60, 39, (0, 1, 20000, 0, 0, 0)), (69, 0, (0, -2147483648, 2147483647, 0, 0, 0))])] := ha
  simp only [List.mem_cons, List.not_mem_nil, or_false] at ha
  rcases ha with rfl | rfl
  · obtain ⟨z2, e2, r⟩ := gW_int (show gW _ _ from q) (Nat.le_of_ble_eq_true rfl)
    cases e2
    have := gR0 r
    have w := gR0 (show gR (0, 9, 9, 0, 0, 0) (M' 60 16) from (p _ (List.mem_cons_of_mem _ List.mem_cons_self)).1)
    exact Or.inl ⟨this.1, this.2, w.1, w.2⟩
  · obtain ⟨z2, e2, r⟩ := gW_int (show gW _ _ from q) (Nat.le_of_ble_eq_true rfl)
    cases e2
    have := gR0 r
    have w := gR0 (show gR (0, 1, 1, 0, 0, 0) (M' 60 16) from (p _ (List.mem_cons_of_mem _ List.mem_cons_self)).1)
    exact Or.inr ⟨this.1, this.2, w.1, w.2⟩
theorem nu_M_sell1_10 {d : Nat} (hd : 4 ≤ d) {M : pM} (hM : gM gAll M) (p0 : 1 ≤ M 60 0 ∧ M 60 0 ≤ 6) (p1 : 10 ≤ M 60 16 ∧ M 60 16 ≤ 10) (p2 : 0 ≤ M 60 38 ∧ M 60 38 ≤ 0) : ∃ z M', xF d 246 [.inr 62] M = rI z M' ∧ ((-3 ≤ z ∧ z ≤ -3 ∧ 10 ≤ M' 60 16 ∧ M' 60 16 ≤ 10) ∨ (0 ≤ z ∧ z ≤ 63 ∧ 1 ≤ M' 60 16 ∧ M' 60 16 ≤ 1)) := by
  have c0 : cOK gAll (xF d) 246 K_1000 := (ct_of (d := d) ct_ok (show K_1000 ∈ CT.getD 246 [] from (show CT.getD 246 [] = [K_1002, K_1003, K_1004, K_1005, K_1006, K_1007, K_1008, K_1009, K_1010, K_1011, K_1012, K_1013, K_575, K_990, K_991, K_992, K_993, K_994, K_995, K_996, K_997, K_998, K_999, K_1000, K_1001, K_574] from rfl) ▸ by simp) hd)
  obtain ⟨z, M', e, -, -, alt, ha, q, p⟩ := cOK_I c0 (A := [.inr 62]) (show aF2 gW [aRef 62] [.inr 62] from ⟨gW_o, trivial⟩) hM (show gP0 [(60, 0, (0, 1, 6, 0, 0, 0)), (60, 16, (0, 10, 10, 0, 0, 0)), (60, 38, (0, 0, 0, 0, 0, 0))] M from fun e he => by
    simp only [List.mem_cons, List.not_mem_nil, or_false] at he
    rcases he with rfl | rfl | rfl
    · exact gR_i p0.1 p0.2
    · exact gR_i p1.1 p1.2
    · exact gR_i p2.1 p2.2) rfl
  refine ⟨z, M', e, ?_⟩
  have ha : alt ∈ [(some (0, -3, -3, 0, 0, 0), [], [(60, 0, (0, 1, 6, 0, 0, 0)), (60, 16, (0, 10, 10, 0, 0, 0)), (60, 17, (0, 0, 0, 0, 0, 0)), (60, 38, (0, 0, 0, 0, 0, 0)), (60, 39, (0, 20001, 1000000, 0, 0, 0))]), (some (0, 0, 63, 0, 0, 0), [], [(60, 0, (0, 1, 6, 0, 0, 0)), (60, 16, (0, 1, 1, 0, 0, 0)), (60, 17, (0, 0, 0, 0, 0, 0)), (60, 38, (0, 0, 0, 0, 0, 0)), (60, 39, (0, 1, 20000, 0, 0, 0)), (69, 0, (0, -2147483648, 2147483647, 0, 0, 0))])] := ha
  simp only [List.mem_cons, List.not_mem_nil, or_false] at ha
  rcases ha with rfl | rfl
  · obtain ⟨z2, e2, r⟩ := gW_int (show gW _ _ from q) (Nat.le_of_ble_eq_true rfl)
    cases e2
    have := gR0 r
    have w := gR0 (show gR (0, 10, 10, 0, 0, 0) (M' 60 16) from (p _ (List.mem_cons_of_mem _ List.mem_cons_self)).1)
    exact Or.inl ⟨this.1, this.2, w.1, w.2⟩
  · obtain ⟨z2, e2, r⟩ := gW_int (show gW _ _ from q) (Nat.le_of_ble_eq_true rfl)
    cases e2
    have := gR0 r
    have w := gR0 (show gR (0, 1, 1, 0, 0, 0) (M' 60 16) from (p _ (List.mem_cons_of_mem _ List.mem_cons_self)).1)
    exact Or.inr ⟨this.1, this.2, w.1, w.2⟩
theorem nu_M_sell1_11 {d : Nat} (hd : 4 ≤ d) {M : pM} (hM : gM gAll M) (p0 : 1 ≤ M 60 0 ∧ M 60 0 ≤ 6) (p1 : 11 ≤ M 60 16 ∧ M 60 16 ≤ 11) (p2 : 0 ≤ M 60 38 ∧ M 60 38 ≤ 0) : ∃ z M', xF d 246 [.inr 62] M = rI z M' ∧ ((-3 ≤ z ∧ z ≤ -3 ∧ 11 ≤ M' 60 16 ∧ M' 60 16 ≤ 11) ∨ (0 ≤ z ∧ z ≤ 63 ∧ 1 ≤ M' 60 16 ∧ M' 60 16 ≤ 1)) := by
  have c0 : cOK gAll (xF d) 246 K_1001 := (ct_of (d := d) ct_ok (show K_1001 ∈ CT.getD 246 [] from (show CT.getD 246 [] = [K_1002, K_1003, K_1004, K_1005, K_1006, K_1007, K_1008, K_1009, K_1010, K_1011, K_1012, K_1013, K_575, K_990, K_991, K_992, K_993, K_994, K_995, K_996, K_997, K_998, K_999, K_1000, K_1001, K_574] from rfl) ▸ by simp) hd)
  obtain ⟨z, M', e, -, -, alt, ha, q, p⟩ := cOK_I c0 (A := [.inr 62]) (show aF2 gW [aRef 62] [.inr 62] from ⟨gW_o, trivial⟩) hM (show gP0 [(60, 0, (0, 1, 6, 0, 0, 0)), (60, 16, (0, 11, 11, 0, 0, 0)), (60, 38, (0, 0, 0, 0, 0, 0))] M from fun e he => by
    simp only [List.mem_cons, List.not_mem_nil, or_false] at he
    rcases he with rfl | rfl | rfl
    · exact gR_i p0.1 p0.2
    · exact gR_i p1.1 p1.2
    · exact gR_i p2.1 p2.2) rfl
  refine ⟨z, M', e, ?_⟩
  have ha : alt ∈ [(some (0, -3, -3, 0, 0, 0), [], [(60, 0, (0, 1, 6, 0, 0, 0)), (60, 16, (0, 11, 11, 0, 0, 0)), (60, 17, (0, 0, 0, 0, 0, 0)), (60, 38, (0, 0, 0, 0, 0, 0)), (60, 39, (0, 20001, 1000000, 0, 0, 0))]), (some (0, 0, 63, 0, 0, 0), [], [(60, 0, (0, 1, 6, 0, 0, 0)), (60, 16, (0, 1, 1, 0, 0, 0)), (60, 17, (0, 0, 0, 0, 0, 0)), (60, 38, (0, 0, 0, 0, 0, 0)), (60, 39, (0, 1, 20000, 0, 0, 0)), (69, 0, (0, -2147483648, 2147483647, 0, 0, 0))])] := ha
  simp only [List.mem_cons, List.not_mem_nil, or_false] at ha
  rcases ha with rfl | rfl
  · obtain ⟨z2, e2, r⟩ := gW_int (show gW _ _ from q) (Nat.le_of_ble_eq_true rfl)
    cases e2
    have := gR0 r
    have w := gR0 (show gR (0, 11, 11, 0, 0, 0) (M' 60 16) from (p _ (List.mem_cons_of_mem _ List.mem_cons_self)).1)
    exact Or.inl ⟨this.1, this.2, w.1, w.2⟩
  · obtain ⟨z2, e2, r⟩ := gW_int (show gW _ _ from q) (Nat.le_of_ble_eq_true rfl)
    cases e2
    have := gR0 r
    have w := gR0 (show gR (0, 1, 1, 0, 0, 0) (M' 60 16) from (p _ (List.mem_cons_of_mem _ List.mem_cons_self)).1)
    exact Or.inr ⟨this.1, this.2, w.1, w.2⟩
