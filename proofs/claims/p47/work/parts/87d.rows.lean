/-! more of that (by program) -/
theorem nt_X_evenings {d : Nat} (hd : 8 ≤ d) {M M' : pM} {v : Int} (hM : gM gAll M) {n : Nat} (hn : n ≤ 10) (hc : M 7 10 = (n : Int)) (e : xF d 41 [.inr 2] M = rI v M') : (-4 ≤ v ∧ v ≤ -4) ∨ (-2 ≤ v ∧ v ≤ -2) ∨ (-3 ≤ v ∧ v ≤ -3) ∨ (0 ≤ v ∧ v ≤ 0 ∧ M' 5 1 = 1) ∨ (1 ≤ v ∧ v ≤ 300 ∧ M' 5 1 = (n : Int) + 1) := by
  rcases (show n = 0 ∨ n = 1 ∨ n = 2 ∨ n = 3 ∨ n = 4 ∨ n = 5 ∨ n = 6 ∨ n = 7 ∨ n = 8 ∨ n = 9 ∨ n = 10 by omega) with rfl | rfl | rfl | rfl | rfl | rfl | rfl | rfl | rfl | rfl | rfl
  · obtain ⟨z, M2, e2, r⟩ := nt_X_evenings_0 (d := d) (by omega) hM (by omega)
    obtain ⟨y1, y2⟩ := rI_inj (e.symm.trans e2)
    rw [y1, y2]
    exact Or.inl (by omega)
  · obtain ⟨z, M2, e2, r⟩ := nt_X_evenings_1 (d := d) (by omega) hM (by omega)
    obtain ⟨y1, y2⟩ := rI_inj (e.symm.trans e2)
    rw [y1, y2]
    rcases r with r | r | r | r | r
    · exact Or.inr (Or.inl (by omega))
    · exact Or.inr (Or.inr (Or.inl (by omega)))
    · exact Or.inl (by omega)
    · exact Or.inr (Or.inr (Or.inr (Or.inl (by omega))))
    · exact Or.inr (Or.inr (Or.inr (Or.inr ((by omega)))))
  · obtain ⟨z, M2, e2, r⟩ := nt_X_evenings_2 (d := d) (by omega) hM (by omega)
    obtain ⟨y1, y2⟩ := rI_inj (e.symm.trans e2)
    rw [y1, y2]
    rcases r with r | r | r | r | r
    · exact Or.inr (Or.inl (by omega))
    · exact Or.inr (Or.inr (Or.inl (by omega)))
    · exact Or.inl (by omega)
    · exact Or.inr (Or.inr (Or.inr (Or.inl (by omega))))
    · exact Or.inr (Or.inr (Or.inr (Or.inr ((by omega)))))
  · obtain ⟨z, M2, e2, r⟩ := nt_X_evenings_3 (d := d) (by omega) hM (by omega)
    obtain ⟨y1, y2⟩ := rI_inj (e.symm.trans e2)
    rw [y1, y2]
    rcases r with r | r | r | r | r
    · exact Or.inr (Or.inl (by omega))
    · exact Or.inr (Or.inr (Or.inl (by omega)))
    · exact Or.inl (by omega)
    · exact Or.inr (Or.inr (Or.inr (Or.inl (by omega))))
    · exact Or.inr (Or.inr (Or.inr (Or.inr ((by omega)))))
  · obtain ⟨z, M2, e2, r⟩ := nt_X_evenings_4 (d := d) (by omega) hM (by omega)
    obtain ⟨y1, y2⟩ := rI_inj (e.symm.trans e2)
    rw [y1, y2]
    rcases r with r | r | r | r | r
    · exact Or.inr (Or.inl (by omega))
    · exact Or.inr (Or.inr (Or.inl (by omega)))
    · exact Or.inl (by omega)
    · exact Or.inr (Or.inr (Or.inr (Or.inl (by omega))))
    · exact Or.inr (Or.inr (Or.inr (Or.inr ((by omega)))))
  · obtain ⟨z, M2, e2, r⟩ := nt_X_evenings_5 (d := d) (by omega) hM (by omega)
    obtain ⟨y1, y2⟩ := rI_inj (e.symm.trans e2)
    rw [y1, y2]
    rcases r with r | r | r | r | r
    · exact Or.inr (Or.inl (by omega))
    · exact Or.inr (Or.inr (Or.inl (by omega)))
    · exact Or.inl (by omega)
    · exact Or.inr (Or.inr (Or.inr (Or.inl (by omega))))
    · exact Or.inr (Or.inr (Or.inr (Or.inr ((by omega)))))
  · obtain ⟨z, M2, e2, r⟩ := nt_X_evenings_6 (d := d) (by omega) hM (by omega)
    obtain ⟨y1, y2⟩ := rI_inj (e.symm.trans e2)
    rw [y1, y2]
    rcases r with r | r | r | r | r
    · exact Or.inr (Or.inl (by omega))
    · exact Or.inr (Or.inr (Or.inl (by omega)))
    · exact Or.inl (by omega)
    · exact Or.inr (Or.inr (Or.inr (Or.inl (by omega))))
    · exact Or.inr (Or.inr (Or.inr (Or.inr ((by omega)))))
  · obtain ⟨z, M2, e2, r⟩ := nt_X_evenings_7 (d := d) (by omega) hM (by omega)
    obtain ⟨y1, y2⟩ := rI_inj (e.symm.trans e2)
    rw [y1, y2]
    rcases r with r | r | r | r | r
    · exact Or.inr (Or.inl (by omega))
    · exact Or.inr (Or.inr (Or.inl (by omega)))
    · exact Or.inl (by omega)
    · exact Or.inr (Or.inr (Or.inr (Or.inl (by omega))))
    · exact Or.inr (Or.inr (Or.inr (Or.inr ((by omega)))))
  · obtain ⟨z, M2, e2, r⟩ := nt_X_evenings_8 (d := d) (by omega) hM (by omega)
    obtain ⟨y1, y2⟩ := rI_inj (e.symm.trans e2)
    rw [y1, y2]
    rcases r with r | r | r | r | r
    · exact Or.inr (Or.inl (by omega))
    · exact Or.inr (Or.inr (Or.inl (by omega)))
    · exact Or.inl (by omega)
    · exact Or.inr (Or.inr (Or.inr (Or.inl (by omega))))
    · exact Or.inr (Or.inr (Or.inr (Or.inr ((by omega)))))
  · obtain ⟨z, M2, e2, r⟩ := nt_X_evenings_9 (d := d) (by omega) hM (by omega)
    obtain ⟨y1, y2⟩ := rI_inj (e.symm.trans e2)
    rw [y1, y2]
    rcases r with r | r | r | r | r
    · exact Or.inr (Or.inl (by omega))
    · exact Or.inr (Or.inr (Or.inl (by omega)))
    · exact Or.inl (by omega)
    · exact Or.inr (Or.inr (Or.inr (Or.inl (by omega))))
    · exact Or.inr (Or.inr (Or.inr (Or.inr ((by omega)))))
  · obtain ⟨z, M2, e2, r⟩ := nt_X_evenings_10 (d := d) (by omega) hM (by omega)
    obtain ⟨y1, y2⟩ := rI_inj (e.symm.trans e2)
    rw [y1, y2]
    rcases r with r | r | r | r | r
    · exact Or.inr (Or.inl (by omega))
    · exact Or.inr (Or.inr (Or.inl (by omega)))
    · exact Or.inl (by omega)
    · exact Or.inr (Or.inr (Or.inr (Or.inl (by omega))))
    · exact Or.inr (Or.inr (Or.inr (Or.inr ((by omega)))))
theorem ns_X_evening_0 {d : Nat} (hd : 5 ≤ d) {M : pM} (hM : gM gAll M)  : ∃ z M', xF d 12 [.inr 2] M = rI z M' ∧ ((0 ≤ z ∧ z ≤ 0 ∧ 2 ≤ M' 5 1 ∧ M' 5 1 ≤ 2) ∨ (1 ≤ z ∧ z ≤ 1 ∧ 2 ≤ M' 5 1 ∧ M' 5 1 ≤ 2)) := by
  have c0 : cOK gAll (xF d) 12 K_245 := (ct_of (d := d) ct_ok (show K_245 ∈ CT.getD 12 [] from (show CT.getD 12 [] = [K_245] from rfl) ▸ by simp) hd)
  obtain ⟨z, M', e, -, -, alt, ha, q, p⟩ := cOK_I c0 (A := [.inr 2]) (show aF2 gW [aRef 2] [.inr 2] from ⟨gW_o, trivial⟩) hM (show gP0 [] M from fun e he => by cases he) rfl
  refine ⟨z, M', e, ?_⟩
  have ha : alt ∈ [(some (0, 0, 0, 0, 0, 0), [], [(5, 1, (0, 2, 2, 0, 0, 0)), (6, 1, (0, -2147483648, 2147483647, 0, 0, 0))]), (some (0, 1, 1, 0, 0, 0), [], [(0, 16, (0, 0, 0, 0, 0, 0)), (5, 1, (0, 2, 2, 0, 0, 0)), (6, 1, (0, -2147483648, 2147483647, 0, 0, 0)), (39, 3, (0, 0, 0, 0, 0, 0))])] := ha
  simp only [List.mem_cons, List.not_mem_nil, or_false] at ha
  rcases ha with rfl | rfl
  · obtain ⟨z2, e2, r⟩ := gW_int (show gW _ _ from q) (Nat.le_of_ble_eq_true rfl)
    cases e2
    have := gR0 r
    have w := gR0 (show gR (0, 2, 2, 0, 0, 0) (M' 5 1) from (p _ List.mem_cons_self).1)
    exact Or.inl ⟨this.1, this.2, w.1, w.2⟩
  · obtain ⟨z2, e2, r⟩ := gW_int (show gW _ _ from q) (Nat.le_of_ble_eq_true rfl)
    cases e2
    have := gR0 r
    have w := gR0 (show gR (0, 2, 2, 0, 0, 0) (M' 5 1) from (p _ (List.mem_cons_of_mem _ List.mem_cons_self)).1)
    exact Or.inr ⟨this.1, this.2, w.1, w.2⟩
theorem ns_X_evening {d : Nat} (hd : 5 ≤ d) {M M' : pM} {v : Int} (hM : gM gAll M)  (e : xF d 12 [.inr 2] M = rI v M') : (0 ≤ v ∧ v ≤ 0 ∧ M' 5 1 = 2) ∨ (1 ≤ v ∧ v ≤ 1 ∧ M' 5 1 = 2) := by
  obtain ⟨z, M2, e2, r⟩ := ns_X_evening_0 (d := d) (by omega) hM 
  obtain ⟨y1, y2⟩ := rI_inj (e.symm.trans e2)
  rw [y1, y2]
  rcases r with r | r
  · exact Or.inl (by omega)
  · exact Or.inr ((by omega))
theorem ns_X_day_0 {d : Nat} (hd : 7 ≤ d) {M : pM} (hM : gM gAll M)  : ∃ z M', xF d 13 [.inr 2] M = rI z M' ∧ ((-81 ≤ z ∧ z ≤ -1) ∨ (2 ≤ M' 5 1 ∧ M' 5 1 ≤ 2)) := by
  have c0 : cOK gAll (xF d) 13 K_261 := (ct_of (d := d) ct_ok (show K_261 ∈ CT.getD 13 [] from (show CT.getD 13 [] = [K_261] from rfl) ▸ by simp) hd)
  obtain ⟨z, M', e, -, -, alt, ha, q, p⟩ := cOK_I c0 (A := [.inr 2]) (show aF2 gW [aRef 2] [.inr 2] from ⟨gW_o, trivial⟩) hM (show gP0 [] M from fun e he => by cases he) rfl
  refine ⟨z, M', e, ?_⟩
  have ha : alt ∈ [(some (0, -81, -1, 0, 0, 0), [], [(3, 2, (0, 0, 40, 0, 0, 0))]), (some (1, 0, 0, 0, 0, 0), [], [(3, 2, (0, 0, 40, 0, 0, 0)), (3, 3, (0, -1, -1, 0, 0, 0)), (5, 1, (0, 2, 2, 0, 0, 0))])] := ha
  simp only [List.mem_cons, List.not_mem_nil, or_false] at ha
  rcases ha with rfl | rfl
  · obtain ⟨z2, e2, r⟩ := gW_int (show gW _ _ from q) (Nat.le_of_ble_eq_true rfl)
    cases e2
    have := gR0 r
    exact Or.inl ⟨this.1, this.2⟩
  · have w := gR0 (show gR (0, 2, 2, 0, 0, 0) (M' 5 1) from (p _ (List.mem_cons_of_mem _ (List.mem_cons_of_mem _ List.mem_cons_self))).1)
    exact Or.inr ⟨w.1, w.2⟩
theorem ns_X_day {d : Nat} (hd : 7 ≤ d) {M M' : pM} {v : Int} (hM : gM gAll M)  (e : xF d 13 [.inr 2] M = rI v M') : (-81 ≤ v ∧ v ≤ -1) ∨ (M' 5 1 = 2) := by
  obtain ⟨z, M2, e2, r⟩ := ns_X_day_0 (d := d) (by omega) hM 
  obtain ⟨y1, y2⟩ := rI_inj (e.symm.trans e2)
  rw [y1, y2]
  rcases r with r | r
  · exact Or.inl (by omega)
  · exact Or.inr ((by omega))
theorem ns_X_build_0 {d : Nat} (hd : 6 ≤ d) {M : pM} (hM : gM gAll M)  : ∃ z M', xF d 33 [.inr 2] M = rI z M' ∧ ((-2 ≤ z ∧ z ≤ -2) ∨ (-3 ≤ z ∧ z ≤ -3) ∨ (1 ≤ M' 5 1 ∧ M' 5 1 ≤ 1)) := by
  have c0 : cOK gAll (xF d) 33 K_411 := (ct_of (d := d) ct_ok (show K_411 ∈ CT.getD 33 [] from (show CT.getD 33 [] = [K_411] from rfl) ▸ by simp) hd)
  obtain ⟨z, M', e, -, -, alt, ha, q, p⟩ := cOK_I c0 (A := [.inr 2]) (show aF2 gW [aRef 2] [.inr 2] from ⟨gW_o, trivial⟩) hM (show gP0 [] M from fun e he => by cases he) rfl
  refine ⟨z, M', e, ?_⟩
  have ha : alt ∈ [(some (0, -2, -2, 0, 0, 0), [], []), (some (0, -3, -3, 0, 0, 0), [], [(7, 9, (0, 1, 6, 0, 0, 0))]), (some (1, 0, 0, 0, 0, 0), [], [(5, 1, (0, 1, 1, 0, 0, 0)), (6, 0, (0, -2147483648, 2147483647, 0, 0, 0)), (7, 9, (0, 1, 6, 0, 0, 0))])] := ha
  simp only [List.mem_cons, List.not_mem_nil, or_false] at ha
  rcases ha with rfl | rfl | rfl
  · obtain ⟨z2, e2, r⟩ := gW_int (show gW _ _ from q) (Nat.le_of_ble_eq_true rfl)
    cases e2
    have := gR0 r
    exact Or.inl ⟨this.1, this.2⟩
  · obtain ⟨z2, e2, r⟩ := gW_int (show gW _ _ from q) (Nat.le_of_ble_eq_true rfl)
    cases e2
    have := gR0 r
    exact Or.inr (Or.inl ⟨this.1, this.2⟩)
  · have w := gR0 (show gR (0, 1, 1, 0, 0, 0) (M' 5 1) from (p _ List.mem_cons_self).1)
    exact Or.inr (Or.inr ⟨w.1, w.2⟩)
theorem ns_X_build {d : Nat} (hd : 6 ≤ d) {M M' : pM} {v : Int} (hM : gM gAll M)  (e : xF d 33 [.inr 2] M = rI v M') : (-2 ≤ v ∧ v ≤ -2) ∨ (-3 ≤ v ∧ v ≤ -3) ∨ (M' 5 1 = 1) := by
  obtain ⟨z, M2, e2, r⟩ := ns_X_build_0 (d := d) (by omega) hM 
  obtain ⟨y1, y2⟩ := rI_inj (e.symm.trans e2)
  rw [y1, y2]
  rcases r with r | r | r
  · exact Or.inl (by omega)
  · exact Or.inr (Or.inl (by omega))
  · exact Or.inr (Or.inr ((by omega)))
theorem ns_X_weakest_0 {d : Nat} (hd : 8 ≤ d) {M : pM} (hM : gM gAll M)  : ∃ z M', xF d 42 [.inr 2] M = rI z M' ∧ ((-2 ≤ z ∧ z ≤ -2) ∨ (-3 ≤ z ∧ z ≤ -3) ∨ (-4 ≤ z ∧ z ≤ -4) ∨ (0 ≤ z ∧ z ≤ 0 ∧ 1 ≤ M' 5 1 ∧ M' 5 1 ≤ 1) ∨ (1 ≤ M' 5 1 ∧ M' 5 1 ≤ 1)) := by
  have c0 : cOK gAll (xF d) 42 K_467 := (ct_of (d := d) ct_ok (show K_467 ∈ CT.getD 42 [] from (show CT.getD 42 [] = [K_467] from rfl) ▸ by simp) hd)
  obtain ⟨z, M', e, -, -, alt, ha, q, p⟩ := cOK_I c0 (A := [.inr 2]) (show aF2 gW [aRef 2] [.inr 2] from ⟨gW_o, trivial⟩) hM (show gP0 [] M from fun e he => by cases he) rfl
  refine ⟨z, M', e, ?_⟩
  have ha : alt ∈ [(some (0, -2, -2, 0, 0, 0), [], [(0, 14, (0, 1, 10, 0, 0, 0)), (7, 10, (0, 1, 10, 0, 0, 0))]), (some (0, -3, -3, 0, 0, 0), [], [(0, 14, (0, 1, 10, 0, 0, 0)), (7, 10, (0, 1, 10, 0, 0, 0))]), (some (0, -4, -4, 0, 0, 0), [], []), (some (0, 0, 0, 0, 0, 0), [], [(0, 14, (0, 1, 10, 0, 0, 0)), (5, 1, (0, 1, 1, 0, 0, 0)), (6, 0, (0, -2147483648, 2147483647, 0, 0, 0)), (7, 10, (0, 1, 10, 0, 0, 0))]), (some (1, 0, 0, 0, 0, 0), [], [(0, 14, (0, 1, 10, 0, 0, 0)), (5, 1, (0, 1, 1, 0, 0, 0)), (6, 0, (0, -2147483648, 2147483647, 0, 0, 0)), (7, 10, (0, 1, 10, 0, 0, 0)), (52, 5, (0, 1, 300, 0, 0, 0)), (52, 7, (0, 0, 299, 0, 0, 0))])] := ha
  simp only [List.mem_cons, List.not_mem_nil, or_false] at ha
  rcases ha with rfl | rfl | rfl | rfl | rfl
  · obtain ⟨z2, e2, r⟩ := gW_int (show gW _ _ from q) (Nat.le_of_ble_eq_true rfl)
    cases e2
    have := gR0 r
    exact Or.inl ⟨this.1, this.2⟩
  · obtain ⟨z2, e2, r⟩ := gW_int (show gW _ _ from q) (Nat.le_of_ble_eq_true rfl)
    cases e2
    have := gR0 r
    exact Or.inr (Or.inl ⟨this.1, this.2⟩)
  · obtain ⟨z2, e2, r⟩ := gW_int (show gW _ _ from q) (Nat.le_of_ble_eq_true rfl)
    cases e2
    have := gR0 r
    exact Or.inr (Or.inr (Or.inl ⟨this.1, this.2⟩))
  · obtain ⟨z2, e2, r⟩ := gW_int (show gW _ _ from q) (Nat.le_of_ble_eq_true rfl)
    cases e2
    have := gR0 r
    have w := gR0 (show gR (0, 1, 1, 0, 0, 0) (M' 5 1) from (p _ (List.mem_cons_of_mem _ List.mem_cons_self)).1)
    exact Or.inr (Or.inr (Or.inr (Or.inl ⟨this.1, this.2, w.1, w.2⟩)))
  · have w := gR0 (show gR (0, 1, 1, 0, 0, 0) (M' 5 1) from (p _ (List.mem_cons_of_mem _ List.mem_cons_self)).1)
    exact Or.inr (Or.inr (Or.inr (Or.inr ⟨w.1, w.2⟩)))
theorem ns_X_weakest {d : Nat} (hd : 8 ≤ d) {M M' : pM} {v : Int} (hM : gM gAll M)  (e : xF d 42 [.inr 2] M = rI v M') : (-2 ≤ v ∧ v ≤ -2) ∨ (-3 ≤ v ∧ v ≤ -3) ∨ (-4 ≤ v ∧ v ≤ -4) ∨ (0 ≤ v ∧ v ≤ 0 ∧ M' 5 1 = 1) ∨ (M' 5 1 = 1) := by
  obtain ⟨z, M2, e2, r⟩ := ns_X_weakest_0 (d := d) (by omega) hM 
  obtain ⟨y1, y2⟩ := rI_inj (e.symm.trans e2)
  rw [y1, y2]
  rcases r with r | r | r | r | r
  · exact Or.inl (by omega)
  · exact Or.inr (Or.inl (by omega))
  · exact Or.inr (Or.inr (Or.inl (by omega)))
  · exact Or.inr (Or.inr (Or.inr (Or.inl (by omega))))
  · exact Or.inr (Or.inr (Or.inr (Or.inr ((by omega)))))
theorem ns_X_may_0 {d : Nat} (hd : 5 ≤ d) {M : pM} {a1 : Int} (hM : gM gAll M) (h1 : -2147483648 ≤ a1 ∧ a1 ≤ 2147483647) : ∃ z M', xF d 28 [.inr 2, .inl a1] M = rI z M' ∧ ((-1 ≤ z ∧ z ≤ -1) ∨ (-3 ≤ z ∧ z ≤ -3) ∨ (-2147483648 ≤ z ∧ z ≤ 2147483647 ∧ 1 ≤ M' 5 1 ∧ M' 5 1 ≤ 1)) := by
  have c0 : cOK gAll (xF d) 28 K_403 := (ct_of (d := d) ct_ok (show K_403 ∈ CT.getD 28 [] from (show CT.getD 28 [] = [K_403] from rfl) ▸ by simp) hd)
  obtain ⟨z, M', e, -, -, alt, ha, q, p⟩ := cOK_I c0 (A := [.inr 2, .inl a1]) (show aF2 gW [aRef 2, (0, -2147483648, 2147483647, 0, 0, 0)] [.inr 2, .inl a1] from ⟨gW_o, gW_i h1.1 h1.2, trivial⟩) hM (show gP0 [] M from fun e he => by cases he) rfl
  refine ⟨z, M', e, ?_⟩
  have ha : alt ∈ [(some (0, -1, -1, 0, 0, 0), [], []), (some (0, -3, -3, 0, 0, 0), [(4, 0, 0, 0, 0, 0), (0, 0, 9, 0, 0, 0)], [(7, 12, (0, 1, 10, 0, 0, 0))]), (some (0, -2147483648, 2147483647, 0, 0, 0), [(4, 0, 0, 0, 0, 0), (0, 0, 9, 0, 0, 0)], [(5, 1, (0, 1, 1, 0, 0, 0)), (7, 12, (0, 1, 10, 0, 0, 0))])] := ha
  simp only [List.mem_cons, List.not_mem_nil, or_false] at ha
  rcases ha with rfl | rfl | rfl
  · obtain ⟨z2, e2, r⟩ := gW_int (show gW _ _ from q) (Nat.le_of_ble_eq_true rfl)
    cases e2
    have := gR0 r
    exact Or.inl ⟨this.1, this.2⟩
  · obtain ⟨z2, e2, r⟩ := gW_int (show gW _ _ from q) (Nat.le_of_ble_eq_true rfl)
    cases e2
    have := gR0 r
    exact Or.inr (Or.inl ⟨this.1, this.2⟩)
  · obtain ⟨z2, e2, r⟩ := gW_int (show gW _ _ from q) (Nat.le_of_ble_eq_true rfl)
    cases e2
    have := gR0 r
    have w := gR0 (show gR (0, 1, 1, 0, 0, 0) (M' 5 1) from (p _ List.mem_cons_self).1)
    exact Or.inr (Or.inr ⟨this.1, this.2, w.1, w.2⟩)
theorem ns_X_may {d : Nat} (hd : 5 ≤ d) {M M' : pM} {a1 : Int} {v : Int} (hM : gM gAll M) (h1 : -2147483648 ≤ a1 ∧ a1 ≤ 2147483647) (e : xF d 28 [.inr 2, .inl a1] M = rI v M') : (-1 ≤ v ∧ v ≤ -1) ∨ (-3 ≤ v ∧ v ≤ -3) ∨ (-2147483648 ≤ v ∧ v ≤ 2147483647 ∧ M' 5 1 = 1) := by
  obtain ⟨z, M2, e2, r⟩ := ns_X_may_0 (d := d) (by omega) hM h1
  obtain ⟨y1, y2⟩ := rI_inj (e.symm.trans e2)
  rw [y1, y2]
  rcases r with r | r | r
  · exact Or.inl (by omega)
  · exact Or.inr (Or.inl (by omega))
  · exact Or.inr (Or.inr ((by omega)))
theorem ns_X_together_0 {d : Nat} (hd : 5 ≤ d) {M : pM} {a1 : Int} {a2 : Int} (hM : gM gAll M) (h1 : -2147483648 ≤ a1 ∧ a1 ≤ 2147483647) (h2 : -2147483648 ≤ a2 ∧ a2 ≤ 2147483647) : ∃ z M', xF d 29 [.inr 2, .inl a1, .inl a2] M = rI z M' ∧ ((-1 ≤ z ∧ z ≤ -1) ∨ (-3 ≤ z ∧ z ≤ -3) ∨ (1 ≤ M' 5 1 ∧ M' 5 1 ≤ 1)) := by
  have c0 : cOK gAll (xF d) 29 K_405 := (ct_of (d := d) ct_ok (show K_405 ∈ CT.getD 29 [] from (show CT.getD 29 [] = [K_405] from rfl) ▸ by simp) hd)
  obtain ⟨z, M', e, -, -, alt, ha, q, p⟩ := cOK_I c0 (A := [.inr 2, .inl a1, .inl a2]) (show aF2 gW [aRef 2, (0, -2147483648, 2147483647, 0, 0, 0), (0, -2147483648, 2147483647, 0, 0, 0)] [.inr 2, .inl a1, .inl a2] from ⟨gW_o, gW_i h1.1 h1.2, gW_i h2.1 h2.2, trivial⟩) hM (show gP0 [] M from fun e he => by cases he) rfl
  refine ⟨z, M', e, ?_⟩
  have ha : alt ∈ [(some (0, -1, -1, 0, 0, 0), [], []), (some (0, -3, -3, 0, 0, 0), [(4, 0, 0, 0, 0, 0), (0, 0, 9, 0, 0, 0), (0, 0, 9, 0, 0, 0)], [(7, 10, (0, 1, 10, 0, 0, 0))]), (some (1, 0, 0, 0, 0, 0), [(4, 0, 0, 0, 0, 0), (0, 0, 9, 0, 0, 0), (0, 0, 9, 0, 0, 0)], [(5, 1, (0, 1, 1, 0, 0, 0)), (7, 10, (0, 1, 10, 0, 0, 0))])] := ha
  simp only [List.mem_cons, List.not_mem_nil, or_false] at ha
  rcases ha with rfl | rfl | rfl
  · obtain ⟨z2, e2, r⟩ := gW_int (show gW _ _ from q) (Nat.le_of_ble_eq_true rfl)
    cases e2
    have := gR0 r
    exact Or.inl ⟨this.1, this.2⟩
  · obtain ⟨z2, e2, r⟩ := gW_int (show gW _ _ from q) (Nat.le_of_ble_eq_true rfl)
    cases e2
    have := gR0 r
    exact Or.inr (Or.inl ⟨this.1, this.2⟩)
  · have w := gR0 (show gR (0, 1, 1, 0, 0, 0) (M' 5 1) from (p _ List.mem_cons_self).1)
    exact Or.inr (Or.inr ⟨w.1, w.2⟩)
theorem ns_X_together {d : Nat} (hd : 5 ≤ d) {M M' : pM} {a1 : Int} {a2 : Int} {v : Int} (hM : gM gAll M) (h1 : -2147483648 ≤ a1 ∧ a1 ≤ 2147483647) (h2 : -2147483648 ≤ a2 ∧ a2 ≤ 2147483647) (e : xF d 29 [.inr 2, .inl a1, .inl a2] M = rI v M') : (-1 ≤ v ∧ v ≤ -1) ∨ (-3 ≤ v ∧ v ≤ -3) ∨ (M' 5 1 = 1) := by
  obtain ⟨z, M2, e2, r⟩ := ns_X_together_0 (d := d) (by omega) hM h1 h2
  obtain ⟨y1, y2⟩ := rI_inj (e.symm.trans e2)
  rw [y1, y2]
  rcases r with r | r | r
  · exact Or.inl (by omega)
  · exact Or.inr (Or.inl (by omega))
  · exact Or.inr (Or.inr ((by omega)))
theorem ns_X_judge_0 {d : Nat} (hd : 6 ≤ d) {M : pM} {a1 : Int} {a2 : Int} (hM : gM gAll M) (h1 : 0 ≤ a1 ∧ a1 ≤ 4) (h2 : -2147483648 ≤ a2 ∧ a2 ≤ 2147483647) : ∃ z M', xF d 15 [.inr 2, .inl a1, .inl a2] M = rI z M' ∧ ((-2 ≤ z ∧ z ≤ 3 ∧ 2 ≤ M' 5 1 ∧ M' 5 1 ≤ 2)) := by
  have c0 : cOK gAll (xF d) 15 K_827 := (ct_of (d := d) ct_ok (show K_827 ∈ CT.getD 15 [] from (show CT.getD 15 [] = [K_827, K_276] from rfl) ▸ by simp) hd)
  obtain ⟨z, M', e, -, -, alt, ha, q, p⟩ := cOK_I c0 (A := [.inr 2, .inl a1, .inl a2]) (show aF2 gW [aRef 2, (0, 0, 4, 0, 0, 0), (0, -2147483648, 2147483647, 0, 0, 0)] [.inr 2, .inl a1, .inl a2] from ⟨gW_o, gW_i h1.1 h1.2, gW_i h2.1 h2.2, trivial⟩) hM (show gP0 [] M from fun e he => by cases he) rfl
  refine ⟨z, M', e, ?_⟩
  have ha : alt ∈ [(some (0, -2, 3, 0, 0, 0), [], [(5, 1, (0, 2, 2, 0, 0, 0)), (6, 1, (0, -2147483648, 2147483647, 0, 0, 0))])] := ha
  simp only [List.mem_cons, List.not_mem_nil, or_false] at ha
  rcases ha with rfl
  · obtain ⟨z2, e2, r⟩ := gW_int (show gW _ _ from q) (Nat.le_of_ble_eq_true rfl)
    cases e2
    have := gR0 r
    have w := gR0 (show gR (0, 2, 2, 0, 0, 0) (M' 5 1) from (p _ List.mem_cons_self).1)
    exact ⟨this.1, this.2, w.1, w.2⟩
theorem ns_X_judge {d : Nat} (hd : 6 ≤ d) {M M' : pM} {a1 : Int} {a2 : Int} {v : Int} (hM : gM gAll M) (h1 : 0 ≤ a1 ∧ a1 ≤ 4) (h2 : -2147483648 ≤ a2 ∧ a2 ≤ 2147483647) (e : xF d 15 [.inr 2, .inl a1, .inl a2] M = rI v M') : (-2 ≤ v ∧ v ≤ 3 ∧ M' 5 1 = 2) := by
  obtain ⟨z, M2, e2, r⟩ := ns_X_judge_0 (d := d) (by omega) hM h1 h2
  obtain ⟨y1, y2⟩ := rI_inj (e.symm.trans e2)
  rw [y1, y2]
  exact by omega
theorem nu_M_heaviest_0 {d : Nat} (hd : 3 ≤ d) {M : pM} (hM : gM gAll M) (p0 : 0 ≤ M 60 16 ∧ M 60 16 ≤ 0) : ∃ z M', xF d 224 [.inr 62] M = rI z M' ∧ ((-2 ≤ z ∧ z ≤ -2 ∧ 0 ≤ M' 60 16 ∧ M' 60 16 ≤ 0) ∨ (0 ≤ z ∧ z ≤ 9 ∧ 2 ≤ M' 60 16 ∧ M' 60 16 ≤ 2)) := by
  have c0 : cOK gAll (xF d) 224 K_828 := (ct_of (d := d) ct_ok (show K_828 ∈ CT.getD 224 [] from (show CT.getD 224 [] = [K_828, K_829, K_830, K_831, K_832, K_833, K_834, K_835, K_836, K_837, K_838, K_839, K_525] from rfl) ▸ by simp) hd)
  obtain ⟨z, M', e, -, -, alt, ha, q, p⟩ := cOK_I c0 (A := [.inr 62]) (show aF2 gW [aRef 62] [.inr 62] from ⟨gW_o, trivial⟩) hM (show gP0 [(60, 16, (0, 0, 0, 0, 0, 0))] M from fun e he => by
    simp only [List.mem_cons, List.not_mem_nil, or_false] at he
    rcases he with rfl
    · exact gR_i p0.1 p0.2) rfl
  refine ⟨z, M', e, ?_⟩
  have ha : alt ∈ [(some (0, -2, -2, 0, 0, 0), [], [(60, 3, (0, 0, 0, 0, 0, 0)), (60, 16, (0, 0, 0, 0, 0, 0)), (60, 17, (0, 0, 0, 0, 0, 0))]), (some (0, 0, 9, 0, 0, 0), [], [(60, 3, (0, 1, 10, 0, 0, 0)), (60, 16, (0, 2, 2, 0, 0, 0)), (60, 17, (0, 0, 0, 0, 0, 0)), (69, 1, (0, -2147483648, 2147483647, 0, 0, 0))])] := ha
  simp only [List.mem_cons, List.not_mem_nil, or_false] at ha
  rcases ha with rfl | rfl
  · obtain ⟨z2, e2, r⟩ := gW_int (show gW _ _ from q) (Nat.le_of_ble_eq_true rfl)
    cases e2
    have := gR0 r
    have w := gR0 (show gR (0, 0, 0, 0, 0, 0) (M' 60 16) from (p _ (List.mem_cons_of_mem _ List.mem_cons_self)).1)
    exact Or.inl ⟨this.1, this.2, w.1, w.2⟩
  · obtain ⟨z2, e2, r⟩ := gW_int (show gW _ _ from q) (Nat.le_of_ble_eq_true rfl)
    cases e2
    have := gR0 r
    have w := gR0 (show gR (0, 2, 2, 0, 0, 0) (M' 60 16) from (p _ (List.mem_cons_of_mem _ List.mem_cons_self)).1)
    exact Or.inr ⟨this.1, this.2, w.1, w.2⟩
theorem nu_M_heaviest_1 {d : Nat} (hd : 3 ≤ d) {M : pM} (hM : gM gAll M) (p0 : 1 ≤ M 60 16 ∧ M 60 16 ≤ 1) : ∃ z M', xF d 224 [.inr 62] M = rI z M' ∧ ((-2 ≤ z ∧ z ≤ -2 ∧ 1 ≤ M' 60 16 ∧ M' 60 16 ≤ 1) ∨ (0 ≤ z ∧ z ≤ 9 ∧ 2 ≤ M' 60 16 ∧ M' 60 16 ≤ 2)) := by
  have c0 : cOK gAll (xF d) 224 K_829 := (ct_of (d := d) ct_ok (show K_829 ∈ CT.getD 224 [] from (show CT.getD 224 [] = [K_828, K_829, K_830, K_831, K_832, K_833, K_834, K_835, K_836, K_837, K_838, K_839, K_525] from rfl) ▸ by simp) hd)
  obtain ⟨z, M', e, -, -, alt, ha, q, p⟩ := cOK_I c0 (A := [.inr 62]) (show aF2 gW [aRef 62] [.inr 62] from ⟨gW_o, trivial⟩) hM (show gP0 [(60, 16, (0, 1, 1, 0, 0, 0))] M from fun e he => by
    simp only [List.mem_cons, List.not_mem_nil, or_false] at he
    rcases he with rfl
    · exact gR_i p0.1 p0.2) rfl
  refine ⟨z, M', e, ?_⟩
  have ha : alt ∈ [(some (0, -2, -2, 0, 0, 0), [], [(60, 3, (0, 0, 0, 0, 0, 0)), (60, 16, (0, 1, 1, 0, 0, 0)), (60, 17, (0, 0, 0, 0, 0, 0))]), (some (0, 0, 9, 0, 0, 0), [], [(60, 3, (0, 1, 10, 0, 0, 0)), (60, 16, (0, 2, 2, 0, 0, 0)), (60, 17, (0, 0, 0, 0, 0, 0)), (69, 1, (0, -2147483648, 2147483647, 0, 0, 0))])] := ha
  simp only [List.mem_cons, List.not_mem_nil, or_false] at ha
  rcases ha with rfl | rfl
  · obtain ⟨z2, e2, r⟩ := gW_int (show gW _ _ from q) (Nat.le_of_ble_eq_true rfl)
    cases e2
    have := gR0 r
    have w := gR0 (show gR (0, 1, 1, 0, 0, 0) (M' 60 16) from (p _ (List.mem_cons_of_mem _ List.mem_cons_self)).1)
    exact Or.inl ⟨this.1, this.2, w.1, w.2⟩
  · obtain ⟨z2, e2, r⟩ := gW_int (show gW _ _ from q) (Nat.le_of_ble_eq_true rfl)
    cases e2
    have := gR0 r
    have w := gR0 (show gR (0, 2, 2, 0, 0, 0) (M' 60 16) from (p _ (List.mem_cons_of_mem _ List.mem_cons_self)).1)
    exact Or.inr ⟨this.1, this.2, w.1, w.2⟩
theorem nu_M_heaviest_2 {d : Nat} (hd : 3 ≤ d) {M : pM} (hM : gM gAll M) (p0 : 2 ≤ M 60 16 ∧ M 60 16 ≤ 2) : ∃ z M', xF d 224 [.inr 62] M = rI z M' ∧ ((-2 ≤ z ∧ z ≤ -2 ∧ 2 ≤ M' 60 16 ∧ M' 60 16 ≤ 2) ∨ (0 ≤ z ∧ z ≤ 9 ∧ 2 ≤ M' 60 16 ∧ M' 60 16 ≤ 2)) := by
  have c0 : cOK gAll (xF d) 224 K_830 := (ct_of (d := d) ct_ok (show K_830 ∈ CT.getD 224 [] from (show CT.getD 224 [] = [K_828, K_829, K_830, K_831, K_832, K_833, K_834, K_835, K_836, K_837, K_838, K_839, K_525] from rfl) ▸ by simp) hd)
  obtain ⟨z, M', e, -, -, alt, ha, q, p⟩ := cOK_I c0 (A := [.inr 62]) (show aF2 gW [aRef 62] [.inr 62] from ⟨gW_o, trivial⟩) hM (show gP0 [(60, 16, (0, 2, 2, 0, 0, 0))] M from fun e he => by
    simp only [List.mem_cons, List.not_mem_nil, or_false] at he
    rcases he with rfl
    · exact gR_i p0.1 p0.2) rfl
  refine ⟨z, M', e, ?_⟩
  have ha : alt ∈ [(some (0, -2, -2, 0, 0, 0), [], [(60, 3, (0, 0, 0, 0, 0, 0)), (60, 16, (0, 2, 2, 0, 0, 0)), (60, 17, (0, 0, 0, 0, 0, 0))]), (some (0, 0, 9, 0, 0, 0), [], [(60, 3, (0, 1, 10, 0, 0, 0)), (60, 16, (0, 2, 2, 0, 0, 0)), (60, 17, (0, 0, 0, 0, 0, 0)), (69, 1, (0, -2147483648, 2147483647, 0, 0, 0))])] := ha
  simp only [List.mem_cons, List.not_mem_nil, or_false] at ha
  rcases ha with rfl | rfl
  · obtain ⟨z2, e2, r⟩ := gW_int (show gW _ _ from q) (Nat.le_of_ble_eq_true rfl)
    cases e2
    have := gR0 r
    have w := gR0 (show gR (0, 2, 2, 0, 0, 0) (M' 60 16) from (p _ (List.mem_cons_of_mem _ List.mem_cons_self)).1)
    exact Or.inl ⟨this.1, this.2, w.1, w.2⟩
  · obtain ⟨z2, e2, r⟩ := gW_int (show gW _ _ from q) (Nat.le_of_ble_eq_true rfl)
    cases e2
    have := gR0 r
    have w := gR0 (show gR (0, 2, 2, 0, 0, 0) (M' 60 16) from (p _ (List.mem_cons_of_mem _ List.mem_cons_self)).1)
    exact Or.inr ⟨this.1, this.2, w.1, w.2⟩
theorem nu_M_heaviest_3 {d : Nat} (hd : 3 ≤ d) {M : pM} (hM : gM gAll M) (p0 : 3 ≤ M 60 16 ∧ M 60 16 ≤ 3) : ∃ z M', xF d 224 [.inr 62] M = rI z M' ∧ ((-2 ≤ z ∧ z ≤ -2 ∧ 3 ≤ M' 60 16 ∧ M' 60 16 ≤ 3) ∨ (0 ≤ z ∧ z ≤ 9 ∧ 2 ≤ M' 60 16 ∧ M' 60 16 ≤ 2)) := by
  have c0 : cOK gAll (xF d) 224 K_831 := (ct_of (d := d) ct_ok (show K_831 ∈ CT.getD 224 [] from (show CT.getD 224 [] = [K_828, K_829, K_830, K_831, K_832, K_833, K_834, K_835, K_836, K_837, K_838, K_839, K_525] from rfl) ▸ by simp) hd)
  obtain ⟨z, M', e, -, -, alt, ha, q, p⟩ := cOK_I c0 (A := [.inr 62]) (show aF2 gW [aRef 62] [.inr 62] from ⟨gW_o, trivial⟩) hM (show gP0 [(60, 16, (0, 3, 3, 0, 0, 0))] M from fun e he => by
    simp only [List.mem_cons, List.not_mem_nil, or_false] at he
    rcases he with rfl
    · exact gR_i p0.1 p0.2) rfl
  refine ⟨z, M', e, ?_⟩
  have ha : alt ∈ [(some (0, -2, -2, 0, 0, 0), [], [(60, 3, (0, 0, 0, 0, 0, 0)), (60, 16, (0, 3, 3, 0, 0, 0)), (60, 17, (0, 0, 0, 0, 0, 0))]), (some (0, 0, 9, 0, 0, 0), [], [(60, 3, (0, 1, 10, 0, 0, 0)), (60, 16, (0, 2, 2, 0, 0, 0)), (60, 17, (0, 0, 0, 0, 0, 0)), (69, 1, (0, -2147483648, 2147483647, 0, 0, 0))])] := ha
  simp only [List.mem_cons, List.not_mem_nil, or_false] at ha
  rcases ha with rfl | rfl
  · obtain ⟨z2, e2, r⟩ := gW_int (show gW _ _ from q) (Nat.le_of_ble_eq_true rfl)
    cases e2
    have := gR0 r
    have w := gR0 (show gR (0, 3, 3, 0, 0, 0) (M' 60 16) from (p _ (List.mem_cons_of_mem _ List.mem_cons_self)).1)
    exact Or.inl ⟨this.1, this.2, w.1, w.2⟩
  · obtain ⟨z2, e2, r⟩ := gW_int (show gW _ _ from q) (Nat.le_of_ble_eq_true rfl)
    cases e2
    have := gR0 r
    have w := gR0 (show gR (0, 2, 2, 0, 0, 0) (M' 60 16) from (p _ (List.mem_cons_of_mem _ List.mem_cons_self)).1)
    exact Or.inr ⟨this.1, this.2, w.1, w.2⟩
theorem nu_M_heaviest_4 {d : Nat} (hd : 3 ≤ d) {M : pM} (hM : gM gAll M) (p0 : 4 ≤ M 60 16 ∧ M 60 16 ≤ 4) : ∃ z M', xF d 224 [.inr 62] M = rI z M' ∧ ((-2 ≤ z ∧ z ≤ -2 ∧ 4 ≤ M' 60 16 ∧ M' 60 16 ≤ 4) ∨ (0 ≤ z ∧ z ≤ 9 ∧ 2 ≤ M' 60 16 ∧ M' 60 16 ≤ 2)) := by
  have c0 : cOK gAll (xF d) 224 K_832 := (ct_of (d := d) ct_ok (show K_832 ∈ CT.getD 224 [] from (show CT.getD 224 [] = [K_828, K_829, K_830, K_831, K_832, K_833, K_834, K_835, K_836, K_837, K_838, K_839, K_525] from rfl) ▸ by simp) hd)
  obtain ⟨z, M', e, -, -, alt, ha, q, p⟩ := cOK_I c0 (A := [.inr 62]) (show aF2 gW [aRef 62] [.inr 62] from ⟨gW_o, trivial⟩) hM (show gP0 [(60, 16, (0, 4, 4, 0, 0, 0))] M from fun e he => by
    simp only [List.mem_cons, List.not_mem_nil, or_false] at he
    rcases he with rfl
    · exact gR_i p0.1 p0.2) rfl
  refine ⟨z, M', e, ?_⟩
  have ha : alt ∈ [(some (0, -2, -2, 0, 0, 0), [], [(60, 3, (0, 0, 0, 0, 0, 0)), (60, 16, (0, 4, 4, 0, 0, 0)), (60, 17, (0, 0, 0, 0, 0, 0))]), (some (0, 0, 9, 0, 0, 0), [], [(60, 3, (0, 1, 10, 0, 0, 0)), (60, 16, (0, 2, 2, 0, 0, 0)), (60, 17, (0, 0, 0, 0, 0, 0)), (69, 1, (0, -2147483648, 2147483647, 0, 0, 0))])] := ha
  simp only [List.mem_cons, List.not_mem_nil, or_false] at ha
  rcases ha with rfl | rfl
  · obtain ⟨z2, e2, r⟩ := gW_int (show gW _ _ from q) (Nat.le_of_ble_eq_true rfl)
    cases e2
    have := gR0 r
    have w := gR0 (show gR (0, 4, 4, 0, 0, 0) (M' 60 16) from (p _ (List.mem_cons_of_mem _ List.mem_cons_self)).1)
    exact Or.inl ⟨this.1, this.2, w.1, w.2⟩
  · obtain ⟨z2, e2, r⟩ := gW_int (show gW _ _ from q) (Nat.le_of_ble_eq_true rfl)
    cases e2
    have := gR0 r
    have w := gR0 (show gR (0, 2, 2, 0, 0, 0) (M' 60 16) from (p _ (List.mem_cons_of_mem _ List.mem_cons_self)).1)
    exact Or.inr ⟨this.1, this.2, w.1, w.2⟩
theorem nu_M_heaviest_5 {d : Nat} (hd : 3 ≤ d) {M : pM} (hM : gM gAll M) (p0 : 5 ≤ M 60 16 ∧ M 60 16 ≤ 5) : ∃ z M', xF d 224 [.inr 62] M = rI z M' ∧ ((-2 ≤ z ∧ z ≤ -2 ∧ 5 ≤ M' 60 16 ∧ M' 60 16 ≤ 5) ∨ (0 ≤ z ∧ z ≤ 9 ∧ 2 ≤ M' 60 16 ∧ M' 60 16 ≤ 2)) := by
  have c0 : cOK gAll (xF d) 224 K_833 := (ct_of (d := d) ct_ok (show K_833 ∈ CT.getD 224 [] from (show CT.getD 224 [] = [K_828, K_829, K_830, K_831, K_832, K_833, K_834, K_835, K_836, K_837, K_838, K_839, K_525] from rfl) ▸ by simp) hd)
  obtain ⟨z, M', e, -, -, alt, ha, q, p⟩ := cOK_I c0 (A := [.inr 62]) (show aF2 gW [aRef 62] [.inr 62] from ⟨gW_o, trivial⟩) hM (show gP0 [(60, 16, (0, 5, 5, 0, 0, 0))] M from fun e he => by
    simp only [List.mem_cons, List.not_mem_nil, or_false] at he
    rcases he with rfl
    · exact gR_i p0.1 p0.2) rfl
  refine ⟨z, M', e, ?_⟩
  have ha : alt ∈ [(some (0, -2, -2, 0, 0, 0), [], [(60, 3, (0, 0, 0, 0, 0, 0)), (60, 16, (0, 5, 5, 0, 0, 0)), (60, 17, (0, 0, 0, 0, 0, 0))]), (some (0, 0, 9, 0, 0, 0), [], [(60, 3, (0, 1, 10, 0, 0, 0)), (60, 16, (0, 2, 2, 0, 0, 0)), (60, 17, (0, 0, 0, 0, 0, 0)), (69, 1, (0, -2147483648, 2147483647, 0, 0, 0))])] := ha
  simp only [List.mem_cons, List.not_mem_nil, or_false] at ha
  rcases ha with rfl | rfl
  · obtain ⟨z2, e2, r⟩ := gW_int (show gW _ _ from q) (Nat.le_of_ble_eq_true rfl)
    cases e2
    have := gR0 r
    have w := gR0 (show gR (0, 5, 5, 0, 0, 0) (M' 60 16) from (p _ (List.mem_cons_of_mem _ List.mem_cons_self)).1)
    exact Or.inl ⟨this.1, this.2, w.1, w.2⟩
  · obtain ⟨z2, e2, r⟩ := gW_int (show gW _ _ from q) (Nat.le_of_ble_eq_true rfl)
    cases e2
    have := gR0 r
    have w := gR0 (show gR (0, 2, 2, 0, 0, 0) (M' 60 16) from (p _ (List.mem_cons_of_mem _ List.mem_cons_self)).1)
    exact Or.inr ⟨this.1, this.2, w.1, w.2⟩
theorem nu_M_heaviest_6 {d : Nat} (hd : 3 ≤ d) {M : pM} (hM : gM gAll M) (p0 : 6 ≤ M 60 16 ∧ M 60 16 ≤ 6) : ∃ z M', xF d 224 [.inr 62] M = rI z M' ∧ ((-2 ≤ z ∧ z ≤ -2 ∧ 6 ≤ M' 60 16 ∧ M' 60 16 ≤ 6) ∨ (0 ≤ z ∧ z ≤ 9 ∧ 2 ≤ M' 60 16 ∧ M' 60 16 ≤ 2)) := by
  have c0 : cOK gAll (xF d) 224 K_834 := (ct_of (d := d) ct_ok (show K_834 ∈ CT.getD 224 [] from (show CT.getD 224 [] = [K_828, K_829, K_830, K_831, K_832, K_833, K_834, K_835, K_836, K_837, K_838, K_839, K_525] from rfl) ▸ by simp) hd)
  obtain ⟨z, M', e, -, -, alt, ha, q, p⟩ := cOK_I c0 (A := [.inr 62]) (show aF2 gW [aRef 62] [.inr 62] from ⟨gW_o, trivial⟩) hM (show gP0 [(60, 16, (0, 6, 6, 0, 0, 0))] M from fun e he => by
    simp only [List.mem_cons, List.not_mem_nil, or_false] at he
    rcases he with rfl
    · exact gR_i p0.1 p0.2) rfl
  refine ⟨z, M', e, ?_⟩
  have ha : alt ∈ [(some (0, -2, -2, 0, 0, 0), [], [(60, 3, (0, 0, 0, 0, 0, 0)), (60, 16, (0, 6, 6, 0, 0, 0)), (60, 17, (0, 0, 0, 0, 0, 0))]), (some (0, 0, 9, 0, 0, 0), [], [(60, 3, (0, 1, 10, 0, 0, 0)), (60, 16, (0, 2, 2, 0, 0, 0)), (60, 17, (0, 0, 0, 0, 0, 0)), (69, 1, (0, -2147483648, 2147483647, 0, 0, 0))])] := ha
  simp only [List.mem_cons, List.not_mem_nil, or_false] at ha
  rcases ha with rfl | rfl
  · obtain ⟨z2, e2, r⟩ := gW_int (show gW _ _ from q) (Nat.le_of_ble_eq_true rfl)
    cases e2
    have := gR0 r
    have w := gR0 (show gR (0, 6, 6, 0, 0, 0) (M' 60 16) from (p _ (List.mem_cons_of_mem _ List.mem_cons_self)).1)
    exact Or.inl ⟨this.1, this.2, w.1, w.2⟩
  · obtain ⟨z2, e2, r⟩ := gW_int (show gW _ _ from q) (Nat.le_of_ble_eq_true rfl)
    cases e2
    have := gR0 r
    have w := gR0 (show gR (0, 2, 2, 0, 0, 0) (M' 60 16) from (p _ (List.mem_cons_of_mem _ List.mem_cons_self)).1)
    exact Or.inr ⟨this.1, this.2, w.1, w.2⟩
theorem nu_M_heaviest_7 {d : Nat} (hd : 3 ≤ d) {M : pM} (hM : gM gAll M) (p0 : 7 ≤ M 60 16 ∧ M 60 16 ≤ 7) : ∃ z M', xF d 224 [.inr 62] M = rI z M' ∧ ((-2 ≤ z ∧ z ≤ -2 ∧ 7 ≤ M' 60 16 ∧ M' 60 16 ≤ 7) ∨ (0 ≤ z ∧ z ≤ 9 ∧ 2 ≤ M' 60 16 ∧ M' 60 16 ≤ 2)) := by
  have c0 : cOK gAll (xF d) 224 K_835 := (ct_of (d := d) ct_ok (show K_835 ∈ CT.getD 224 [] from (show CT.getD 224 [] = [K_828, K_829, K_830, K_831, K_832, K_833, K_834, K_835, K_836, K_837, K_838, K_839, K_525] from rfl) ▸ by simp) hd)
  obtain ⟨z, M', e, -, -, alt, ha, q, p⟩ := cOK_I c0 (A := [.inr 62]) (show aF2 gW [aRef 62] [.inr 62] from ⟨gW_o, trivial⟩) hM (show gP0 [(60, 16, (0, 7, 7, 0, 0, 0))] M from fun e he => by
    simp only [List.mem_cons, List.not_mem_nil, or_false] at he
    rcases he with rfl
    · exact gR_i p0.1 p0.2) rfl
  refine ⟨z, M', e, ?_⟩
  have ha : alt ∈ [(some (0, -2, -2, 0, 0, 0), [], [(60, 3, (0, 0, 0, 0, 0, 0)), (60, 16, (0, 7, 7, 0, 0, 0)), (60, 17, (0, 0, 0, 0, 0, 0))]), (some (0, 0, 9, 0, 0, 0), [], [(60, 3, (0, 1, 10, 0, 0, 0)), (60, 16, (0, 2, 2, 0, 0, 0)), (60, 17, (0, 0, 0, 0, 0, 0)), (69, 1, (0, -2147483648, 2147483647, 0, 0, 0))])] := ha
  simp only [List.mem_cons, List.not_mem_nil, or_false] at ha
  rcases ha with rfl | rfl
  · obtain ⟨z2, e2, r⟩ := gW_int (show gW _ _ from q) (Nat.le_of_ble_eq_true rfl)
    cases e2
    have := gR0 r
    have w := gR0 (show gR (0, 7, 7, 0, 0, 0) (M' 60 16) from (p _ (List.mem_cons_of_mem _ List.mem_cons_self)).1)
    exact Or.inl ⟨this.1, this.2, w.1, w.2⟩
  · obtain ⟨z2, e2, r⟩ := gW_int (show gW _ _ from q) (Nat.le_of_ble_eq_true rfl)
    cases e2
    have := gR0 r
    have w := gR0 (show gR (0, 2, 2, 0, 0, 0) (M' 60 16) from (p _ (List.mem_cons_of_mem _ List.mem_cons_self)).1)
    exact Or.inr ⟨this.1, this.2, w.1, w.2⟩
theorem nu_M_heaviest_8 {d : Nat} (hd : 3 ≤ d) {M : pM} (hM : gM gAll M) (p0 : 8 ≤ M 60 16 ∧ M 60 16 ≤ 8) : ∃ z M', xF d 224 [.inr 62] M = rI z M' ∧ ((-2 ≤ z ∧ z ≤ -2 ∧ 8 ≤ M' 60 16 ∧ M' 60 16 ≤ 8) ∨ (0 ≤ z ∧ z ≤ 9 ∧ 2 ≤ M' 60 16 ∧ M' 60 16 ≤ 2)) := by
  have c0 : cOK gAll (xF d) 224 K_836 := (ct_of (d := d) ct_ok (show K_836 ∈ CT.getD 224 [] from (show CT.getD 224 [] = [K_828, K_829, K_830, K_831, K_832, K_833, K_834, K_835, K_836, K_837, K_838, K_839, K_525] from rfl) ▸ by simp) hd)
  obtain ⟨z, M', e, -, -, alt, ha, q, p⟩ := cOK_I c0 (A := [.inr 62]) (show aF2 gW [aRef 62] [.inr 62] from ⟨gW_o, trivial⟩) hM (show gP0 [(60, 16, (0, 8, 8, 0, 0, 0))] M from fun e he => by
    simp only [List.mem_cons, List.not_mem_nil, or_false] at he
    rcases he with rfl
    · exact gR_i p0.1 p0.2) rfl
  refine ⟨z, M', e, ?_⟩
  have ha : alt ∈ [(some (0, -2, -2, 0, 0, 0), [], [(60, 3, (0, 0, 0, 0, 0, 0)), (60, 16, (0, 8, 8, 0, 0, 0)), (60, 17, (0, 0, 0, 0, 0, 0))]), (some (0, 0, 9, 0, 0, 0), [], [(60, 3, (0, 1, 10, 0, 0, 0)), (60, 16, (0, 2, 2, 0, 0, 0)), (60, 17, (0, 0, 0, 0, 0, 0)), (69, 1, (0, -2147483648, 2147483647, 0, 0, 0))])] := ha
  simp only [List.mem_cons, List.not_mem_nil, or_false] at ha
  rcases ha with rfl | rfl
  · obtain ⟨z2, e2, r⟩ := gW_int (show gW _ _ from q) (Nat.le_of_ble_eq_true rfl)
    cases e2
    have := gR0 r
    have w := gR0 (show gR (0, 8, 8, 0, 0, 0) (M' 60 16) from (p _ (List.mem_cons_of_mem _ List.mem_cons_self)).1)
    exact Or.inl ⟨this.1, this.2, w.1, w.2⟩
  · obtain ⟨z2, e2, r⟩ := gW_int (show gW _ _ from q) (Nat.le_of_ble_eq_true rfl)
    cases e2
    have := gR0 r
    have w := gR0 (show gR (0, 2, 2, 0, 0, 0) (M' 60 16) from (p _ (List.mem_cons_of_mem _ List.mem_cons_self)).1)
    exact Or.inr ⟨this.1, this.2, w.1, w.2⟩
theorem nu_M_heaviest_9 {d : Nat} (hd : 3 ≤ d) {M : pM} (hM : gM gAll M) (p0 : 9 ≤ M 60 16 ∧ M 60 16 ≤ 9) : ∃ z M', xF d 224 [.inr 62] M = rI z M' ∧ ((-2 ≤ z ∧ z ≤ -2 ∧ 9 ≤ M' 60 16 ∧ M' 60 16 ≤ 9) ∨ (0 ≤ z ∧ z ≤ 9 ∧ 2 ≤ M' 60 16 ∧ M' 60 16 ≤ 2)) := by
  have c0 : cOK gAll (xF d) 224 K_837 := (ct_of (d := d) ct_ok (show K_837 ∈ CT.getD 224 [] from (show CT.getD 224 [] = [K_828, K_829, K_830, K_831, K_832, K_833, K_834, K_835, K_836, K_837, K_838, K_839, K_525] from rfl) ▸ by simp) hd)
  obtain ⟨z, M', e, -, -, alt, ha, q, p⟩ := cOK_I c0 (A := [.inr 62]) (show aF2 gW [aRef 62] [.inr 62] from ⟨gW_o, trivial⟩) hM (show gP0 [(60, 16, (0, 9, 9, 0, 0, 0))] M from fun e he => by
    simp only [List.mem_cons, List.not_mem_nil, or_false] at he
    rcases he with rfl
    · exact gR_i p0.1 p0.2) rfl
  refine ⟨z, M', e, ?_⟩
  have ha : alt ∈ [(some (0, -2, -2, 0, 0, 0), [], [(60, 3, (0, 0, 0, 0, 0, 0)), (60, 16, (0, 9, 9, 0, 0, 0)), (60, 17, (0, 0, 0, 0, 0, 0))]), (some (0, 0, 9, 0, 0, 0), [], [(60, 3, (0, 1, 10, 0, 0, 0)), (60, 16, (0, 2, 2, 0, 0, 0)), (60, 17, (0, 0, 0, 0, 0, 0)), (69, 1, (0, -2147483648, 2147483647, 0, 0, 0))])] := ha
  simp only [List.mem_cons, List.not_mem_nil, or_false] at ha
  rcases ha with rfl | rfl
  · obtain ⟨z2, e2, r⟩ := gW_int (show gW _ _ from q) (Nat.le_of_ble_eq_true rfl)
    cases e2
    have := gR0 r
    have w := gR0 (show gR (0, 9, 9, 0, 0, 0) (M' 60 16) from (p _ (List.mem_cons_of_mem _ List.mem_cons_self)).1)
    exact Or.inl ⟨this.1, this.2, w.1, w.2⟩
  · obtain ⟨z2, e2, r⟩ := gW_int (show gW _ _ from q) (Nat.le_of_ble_eq_true rfl)
    cases e2
    have := gR0 r
    have w := gR0 (show gR (0, 2, 2, 0, 0, 0) (M' 60 16) from (p _ (List.mem_cons_of_mem _ List.mem_cons_self)).1)
    exact Or.inr ⟨this.1, this.2, w.1, w.2⟩
theorem nu_M_heaviest_10 {d : Nat} (hd : 3 ≤ d) {M : pM} (hM : gM gAll M) (p0 : 10 ≤ M 60 16 ∧ M 60 16 ≤ 10) : ∃ z M', xF d 224 [.inr 62] M = rI z M' ∧ ((-2 ≤ z ∧ z ≤ -2 ∧ 10 ≤ M' 60 16 ∧ M' 60 16 ≤ 10) ∨ (0 ≤ z ∧ z ≤ 9 ∧ 2 ≤ M' 60 16 ∧ M' 60 16 ≤ 2)) := by
  have c0 : cOK gAll (xF d) 224 K_838 := (ct_of (d := d) ct_ok (show K_838 ∈ CT.getD 224 [] from (show CT.getD 224 [] = [K_828, K_829, K_830, K_831, K_832, K_833, K_834, K_835, K_836, K_837, K_838, K_839, K_525] from rfl) ▸ by simp) hd)
  obtain ⟨z, M', e, -, -, alt, ha, q, p⟩ := cOK_I c0 (A := [.inr 62]) (show aF2 gW [aRef 62] [.inr 62] from ⟨gW_o, trivial⟩) hM (show gP0 [(60, 16, (0, 10, 10, 0, 0, 0))] M from fun e he => by
    simp only [List.mem_cons, List.not_mem_nil, or_false] at he
    rcases he with rfl
    · exact gR_i p0.1 p0.2) rfl
  refine ⟨z, M', e, ?_⟩
  have ha : alt ∈ [(some (0, -2, -2, 0, 0, 0), [], [(60, 3, (0, 0, 0, 0, 0, 0)), (60, 16, (0, 10, 10, 0, 0, 0)), (60, 17, (0, 0, 0, 0, 0, 0))]), (some (0, 0, 9, 0, 0, 0), [], [(60, 3, (0, 1, 10, 0, 0, 0)), (60, 16, (0, 2, 2, 0, 0, 0)), (60, 17, (0, 0, 0, 0, 0, 0)), (69, 1, (0, -2147483648, 2147483647, 0, 0, 0))])] := ha
  simp only [List.mem_cons, List.not_mem_nil, or_false] at ha
  rcases ha with rfl | rfl
  · obtain ⟨z2, e2, r⟩ := gW_int (show gW _ _ from q) (Nat.le_of_ble_eq_true rfl)
    cases e2
    have := gR0 r
    have w := gR0 (show gR (0, 10, 10, 0, 0, 0) (M' 60 16) from (p _ (List.mem_cons_of_mem _ List.mem_cons_self)).1)
    exact Or.inl ⟨this.1, this.2, w.1, w.2⟩
  · obtain ⟨z2, e2, r⟩ := gW_int (show gW _ _ from q) (Nat.le_of_ble_eq_true rfl)
    cases e2
    have := gR0 r
    have w := gR0 (show gR (0, 2, 2, 0, 0, 0) (M' 60 16) from (p _ (List.mem_cons_of_mem _ List.mem_cons_self)).1)
    exact Or.inr ⟨this.1, this.2, w.1, w.2⟩
theorem nu_M_heaviest_11 {d : Nat} (hd : 3 ≤ d) {M : pM} (hM : gM gAll M) (p0 : 11 ≤ M 60 16 ∧ M 60 16 ≤ 11) : ∃ z M', xF d 224 [.inr 62] M = rI z M' ∧ ((-2 ≤ z ∧ z ≤ -2 ∧ 11 ≤ M' 60 16 ∧ M' 60 16 ≤ 11) ∨ (0 ≤ z ∧ z ≤ 9 ∧ 2 ≤ M' 60 16 ∧ M' 60 16 ≤ 2)) := by
  have c0 : cOK gAll (xF d) 224 K_839 := (ct_of (d := d) ct_ok (show K_839 ∈ CT.getD 224 [] from (show CT.getD 224 [] = [K_828, K_829, K_830, K_831, K_832, K_833, K_834, K_835, K_836, K_837, K_838, K_839, K_525] from rfl) ▸ by simp) hd)
  obtain ⟨z, M', e, -, -, alt, ha, q, p⟩ := cOK_I c0 (A := [.inr 62]) (show aF2 gW [aRef 62] [.inr 62] from ⟨gW_o, trivial⟩) hM (show gP0 [(60, 16, (0, 11, 11, 0, 0, 0))] M from fun e he => by
    simp only [List.mem_cons, List.not_mem_nil, or_false] at he
    rcases he with rfl
    · exact gR_i p0.1 p0.2) rfl
  refine ⟨z, M', e, ?_⟩
  have ha : alt ∈ [(some (0, -2, -2, 0, 0, 0), [], [(60, 3, (0, 0, 0, 0, 0, 0)), (60, 16, (0, 11, 11, 0, 0, 0)), (60, 17, (0, 0, 0, 0, 0, 0))]), (some (0, 0, 9, 0, 0, 0), [], [(60, 3, (0, 1, 10, 0, 0, 0)), (60, 16, (0, 2, 2, 0, 0, 0)), (60, 17, (0, 0, 0, 0, 0, 0)), (69, 1, (0, -2147483648, 2147483647, 0, 0, 0))])] := ha
  simp only [List.mem_cons, List.not_mem_nil, or_false] at ha
  rcases ha with rfl | rfl
  · obtain ⟨z2, e2, r⟩ := gW_int (show gW _ _ from q) (Nat.le_of_ble_eq_true rfl)
    cases e2
    have := gR0 r
    have w := gR0 (show gR (0, 11, 11, 0, 0, 0) (M' 60 16) from (p _ (List.mem_cons_of_mem _ List.mem_cons_self)).1)
    exact Or.inl ⟨this.1, this.2, w.1, w.2⟩
  · obtain ⟨z2, e2, r⟩ := gW_int (show gW _ _ from q) (Nat.le_of_ble_eq_true rfl)
    cases e2
    have := gR0 r
    have w := gR0 (show gR (0, 2, 2, 0, 0, 0) (M' 60 16) from (p _ (List.mem_cons_of_mem _ List.mem_cons_self)).1)
    exact Or.inr ⟨this.1, this.2, w.1, w.2⟩
theorem nu_M_heaviest {d : Nat} (hd : 3 ≤ d) {M M' : pM} {v : Int} (hM : gM gAll M) {n : Nat} (hn : n ≤ 11) (hc : M 60 16 = (n : Int)) (e : xF d 224 [.inr 62] M = rI v M') : (-2 ≤ v ∧ v ≤ -2 ∧ M' 60 16 = (n : Int)) ∨ (0 ≤ v ∧ v ≤ 9 ∧ M' 60 16 = 2) := by
  rcases (show n = 0 ∨ n = 1 ∨ n = 2 ∨ n = 3 ∨ n = 4 ∨ n = 5 ∨ n = 6 ∨ n = 7 ∨ n = 8 ∨ n = 9 ∨ n = 10 ∨ n = 11 by omega) with rfl | rfl | rfl | rfl | rfl | rfl | rfl | rfl | rfl | rfl | rfl | rfl
  · obtain ⟨z, M2, e2, r⟩ := nu_M_heaviest_0 (d := d) (by omega) hM (by omega)
    obtain ⟨y1, y2⟩ := rI_inj (e.symm.trans e2)
    rw [y1, y2]
    rcases r with r | r
    · exact Or.inl (by omega)
    · exact Or.inr ((by omega))
  · obtain ⟨z, M2, e2, r⟩ := nu_M_heaviest_1 (d := d) (by omega) hM (by omega)
    obtain ⟨y1, y2⟩ := rI_inj (e.symm.trans e2)
    rw [y1, y2]
    rcases r with r | r
    · exact Or.inl (by omega)
    · exact Or.inr ((by omega))
  · obtain ⟨z, M2, e2, r⟩ := nu_M_heaviest_2 (d := d) (by omega) hM (by omega)
    obtain ⟨y1, y2⟩ := rI_inj (e.symm.trans e2)
    rw [y1, y2]
    rcases r with r | r
    · exact Or.inl (by omega)
    · exact Or.inr ((by omega))
  · obtain ⟨z, M2, e2, r⟩ := nu_M_heaviest_3 (d := d) (by omega) hM (by omega)
    obtain ⟨y1, y2⟩ := rI_inj (e.symm.trans e2)
    rw [y1, y2]
    rcases r with r | r
    · exact Or.inl (by omega)
    · exact Or.inr ((by omega))
  · obtain ⟨z, M2, e2, r⟩ := nu_M_heaviest_4 (d := d) (by omega) hM (by omega)
    obtain ⟨y1, y2⟩ := rI_inj (e.symm.trans e2)
    rw [y1, y2]
    rcases r with r | r
    · exact Or.inl (by omega)
    · exact Or.inr ((by omega))
  · obtain ⟨z, M2, e2, r⟩ := nu_M_heaviest_5 (d := d) (by omega) hM (by omega)
    obtain ⟨y1, y2⟩ := rI_inj (e.symm.trans e2)
    rw [y1, y2]
    rcases r with r | r
    · exact Or.inl (by omega)
    · exact Or.inr ((by omega))
  · obtain ⟨z, M2, e2, r⟩ := nu_M_heaviest_6 (d := d) (by omega) hM (by omega)
    obtain ⟨y1, y2⟩ := rI_inj (e.symm.trans e2)
    rw [y1, y2]
    rcases r with r | r
    · exact Or.inl (by omega)
    · exact Or.inr ((by omega))
  · obtain ⟨z, M2, e2, r⟩ := nu_M_heaviest_7 (d := d) (by omega) hM (by omega)
    obtain ⟨y1, y2⟩ := rI_inj (e.symm.trans e2)
    rw [y1, y2]
    rcases r with r | r
    · exact Or.inl (by omega)
    · exact Or.inr ((by omega))
  · obtain ⟨z, M2, e2, r⟩ := nu_M_heaviest_8 (d := d) (by omega) hM (by omega)
    obtain ⟨y1, y2⟩ := rI_inj (e.symm.trans e2)
    rw [y1, y2]
    rcases r with r | r
    · exact Or.inl (by omega)
    · exact Or.inr ((by omega))
  · obtain ⟨z, M2, e2, r⟩ := nu_M_heaviest_9 (d := d) (by omega) hM (by omega)
    obtain ⟨y1, y2⟩ := rI_inj (e.symm.trans e2)
    rw [y1, y2]
    rcases r with r | r
    · exact Or.inl (by omega)
    · exact Or.inr ((by omega))
  · obtain ⟨z, M2, e2, r⟩ := nu_M_heaviest_10 (d := d) (by omega) hM (by omega)
    obtain ⟨y1, y2⟩ := rI_inj (e.symm.trans e2)
    rw [y1, y2]
    rcases r with r | r
    · exact Or.inl (by omega)
    · exact Or.inr ((by omega))
  · obtain ⟨z, M2, e2, r⟩ := nu_M_heaviest_11 (d := d) (by omega) hM (by omega)
    obtain ⟨y1, y2⟩ := rI_inj (e.symm.trans e2)
    rw [y1, y2]
    rcases r with r | r
    · exact Or.inl (by omega)
    · exact Or.inr ((by omega))
theorem nu_M_without_0 {d : Nat} (hd : 3 ≤ d) {M : pM} {a1 : Int} (hM : gM gAll M) (h1 : -2147483648 ≤ a1 ∧ a1 ≤ 2147483647) (p0 : 0 ≤ M 60 16 ∧ M 60 16 ≤ 0) : ∃ z M', xF d 225 [.inr 62, .inl a1] M = rI z M' ∧ ((-1 ≤ z ∧ z ≤ -1 ∧ 0 ≤ M' 60 16 ∧ M' 60 16 ≤ 0) ∨ (0 ≤ z ∧ z ≤ 10 ∧ 1 ≤ M' 60 16 ∧ M' 60 16 ≤ 1)) := by
  have c0 : cOK gAll (xF d) 225 K_840 := (ct_of (d := d) ct_ok (show K_840 ∈ CT.getD 225 [] from (show CT.getD 225 [] = [K_840, K_841, K_842, K_843, K_844, K_845, K_846, K_847, K_848, K_849, K_850, K_851, K_526] from rfl) ▸ by simp) hd)
  obtain ⟨z, M', e, -, -, alt, ha, q, p⟩ := cOK_I c0 (A := [.inr 62, .inl a1]) (show aF2 gW [aRef 62, (0, -2147483648, 2147483647, 0, 0, 0)] [.inr 62, .inl a1] from ⟨gW_o, gW_i h1.1 h1.2, trivial⟩) hM (show gP0 [(60, 16, (0, 0, 0, 0, 0, 0))] M from fun e he => by
    simp only [List.mem_cons, List.not_mem_nil, or_false] at he
    rcases he with rfl
    · exact gR_i p0.1 p0.2) rfl
  refine ⟨z, M', e, ?_⟩
  have ha : alt ∈ [(some (0, -1, -1, 0, 0, 0), [], [(60, 16, (0, 0, 0, 0, 0, 0)), (60, 17, (0, 0, 0, 0, 0, 0))]), (some (0, 0, 10, 0, 0, 0), [(4, 0, 0, 0, 0, 0), (0, 0, 9, 0, 0, 0)], [(60, 16, (0, 1, 1, 0, 0, 0)), (60, 17, (0, 0, 0, 0, 0, 0)), (69, 0, (0, -2147483648, 2147483647, 0, 0, 0))])] := ha
  simp only [List.mem_cons, List.not_mem_nil, or_false] at ha
  rcases ha with rfl | rfl
  · obtain ⟨z2, e2, r⟩ := gW_int (show gW _ _ from q) (Nat.le_of_ble_eq_true rfl)
    cases e2
    have := gR0 r
    have w := gR0 (show gR (0, 0, 0, 0, 0, 0) (M' 60 16) from (p _ List.mem_cons_self).1)
    exact Or.inl ⟨this.1, this.2, w.1, w.2⟩
  · obtain ⟨z2, e2, r⟩ := gW_int (show gW _ _ from q) (Nat.le_of_ble_eq_true rfl)
    cases e2
    have := gR0 r
    have w := gR0 (show gR (0, 1, 1, 0, 0, 0) (M' 60 16) from (p _ List.mem_cons_self).1)
    exact Or.inr ⟨this.1, this.2, w.1, w.2⟩
theorem nu_M_without_1 {d : Nat} (hd : 3 ≤ d) {M : pM} {a1 : Int} (hM : gM gAll M) (h1 : -2147483648 ≤ a1 ∧ a1 ≤ 2147483647) (p0 : 1 ≤ M 60 16 ∧ M 60 16 ≤ 1) : ∃ z M', xF d 225 [.inr 62, .inl a1] M = rI z M' ∧ ((-1 ≤ z ∧ z ≤ -1 ∧ 1 ≤ M' 60 16 ∧ M' 60 16 ≤ 1) ∨ (0 ≤ z ∧ z ≤ 10 ∧ 1 ≤ M' 60 16 ∧ M' 60 16 ≤ 1)) := by
  have c0 : cOK gAll (xF d) 225 K_841 := (ct_of (d := d) ct_ok (show K_841 ∈ CT.getD 225 [] from (show CT.getD 225 [] = [K_840, K_841, K_842, K_843, K_844, K_845, K_846, K_847, K_848, K_849, K_850, K_851, K_526] from rfl) ▸ by simp) hd)
  obtain ⟨z, M', e, -, -, alt, ha, q, p⟩ := cOK_I c0 (A := [.inr 62, .inl a1]) (show aF2 gW [aRef 62, (0, -2147483648, 2147483647, 0, 0, 0)] [.inr 62, .inl a1] from ⟨gW_o, gW_i h1.1 h1.2, trivial⟩) hM (show gP0 [(60, 16, (0, 1, 1, 0, 0, 0))] M from fun e he => by
    simp only [List.mem_cons, List.not_mem_nil, or_false] at he
    rcases he with rfl
    · exact gR_i p0.1 p0.2) rfl
  refine ⟨z, M', e, ?_⟩
  have ha : alt ∈ [(some (0, -1, -1, 0, 0, 0), [], [(60, 16, (0, 1, 1, 0, 0, 0)), (60, 17, (0, 0, 0, 0, 0, 0))]), (some (0, 0, 10, 0, 0, 0), [(4, 0, 0, 0, 0, 0), (0, 0, 9, 0, 0, 0)], [(60, 16, (0, 1, 1, 0, 0, 0)), (60, 17, (0, 0, 0, 0, 0, 0)), (69, 0, (0, -2147483648, 2147483647, 0, 0, 0))])] := ha
  simp only [List.mem_cons, List.not_mem_nil, or_false] at ha
  rcases ha with rfl | rfl
  · obtain ⟨z2, e2, r⟩ := gW_int (show gW _ _ from q) (Nat.le_of_ble_eq_true rfl)
    cases e2
    have := gR0 r
    have w := gR0 (show gR (0, 1, 1, 0, 0, 0) (M' 60 16) from (p _ List.mem_cons_self).1)
    exact Or.inl ⟨this.1, this.2, w.1, w.2⟩
  · obtain ⟨z2, e2, r⟩ := gW_int (show gW _ _ from q) (Nat.le_of_ble_eq_true rfl)
    cases e2
    have := gR0 r
    have w := gR0 (show gR (0, 1, 1, 0, 0, 0) (M' 60 16) from (p _ List.mem_cons_self).1)
    exact Or.inr ⟨this.1, this.2, w.1, w.2⟩
theorem nu_M_without_2 {d : Nat} (hd : 3 ≤ d) {M : pM} {a1 : Int} (hM : gM gAll M) (h1 : -2147483648 ≤ a1 ∧ a1 ≤ 2147483647) (p0 : 2 ≤ M 60 16 ∧ M 60 16 ≤ 2) : ∃ z M', xF d 225 [.inr 62, .inl a1] M = rI z M' ∧ ((-1 ≤ z ∧ z ≤ -1 ∧ 2 ≤ M' 60 16 ∧ M' 60 16 ≤ 2) ∨ (0 ≤ z ∧ z ≤ 10 ∧ 1 ≤ M' 60 16 ∧ M' 60 16 ≤ 1)) := by
  have c0 : cOK gAll (xF d) 225 K_842 := (ct_of (d := d) ct_ok (show K_842 ∈ CT.getD 225 [] from (show CT.getD 225 [] = [K_840, K_841, K_842, K_843, K_844, K_845, K_846, K_847, K_848, K_849, K_850, K_851, K_526] from rfl) ▸ by simp) hd)
  obtain ⟨z, M', e, -, -, alt, ha, q, p⟩ := cOK_I c0 (A := [.inr 62, .inl a1]) (show aF2 gW [aRef 62, (0, -2147483648, 2147483647, 0, 0, 0)] [.inr 62, .inl a1] from ⟨gW_o, gW_i h1.1 h1.2, trivial⟩) hM (show gP0 [(60, 16, (0, 2, 2, 0, 0, 0))] M from fun e he => by
    simp only [List.mem_cons, List.not_mem_nil, or_false] at he
    rcases he with rfl
    · exact gR_i p0.1 p0.2) rfl
  refine ⟨z, M', e, ?_⟩
  have ha : alt ∈ [(some (0, -1, -1, 0, 0, 0), [], [(60, 16, (0, 2, 2, 0, 0, 0)), (60, 17, (0, 0, 0, 0, 0, 0))]), (some (0, 0, 10, 0, 0, 0), [(4, 0, 0, 0, 0, 0), (0, 0, 9, 0, 0, 0)], [(60, 16, (0, 1, 1, 0, 0, 0)), (60, 17, (0, 0, 0, 0, 0, 0)), (69, 0, (0, -2147483648, 2147483647, 0, 0, 0))])] := ha
  simp only [List.mem_cons, List.not_mem_nil, or_false] at ha
  rcases ha with rfl | rfl
  · obtain ⟨z2, e2, r⟩ := gW_int (show gW _ _ from q) (Nat.le_of_ble_eq_true rfl)
    cases e2
    have := gR0 r
    have w := gR0 (show gR (0, 2, 2, 0, 0, 0) (M' 60 16) from (p _ List.mem_cons_self).1)
    exact Or.inl ⟨this.1, this.2, w.1, w.2⟩
  · obtain ⟨z2, e2, r⟩ := gW_int (show gW _ _ from q) (Nat.le_of_ble_eq_true rfl)
    cases e2
    have := gR0 r
    have w := gR0 (show gR (0, 1, 1, 0, 0, 0) (M' 60 16) from (p _ List.mem_cons_self).1)
    exact Or.inr ⟨this.1, this.2, w.1, w.2⟩
theorem nu_M_without_3 {d : Nat} (hd : 3 ≤ d) {M : pM} {a1 : Int} (hM : gM gAll M) (h1 : -2147483648 ≤ a1 ∧ a1 ≤ 2147483647) (p0 : 3 ≤ M 60 16 ∧ M 60 16 ≤ 3) : ∃ z M', xF d 225 [.inr 62, .inl a1] M = rI z M' ∧ ((-1 ≤ z ∧ z ≤ -1 ∧ 3 ≤ M' 60 16 ∧ M' 60 16 ≤ 3) ∨ (0 ≤ z ∧ z ≤ 10 ∧ 1 ≤ M' 60 16 ∧ M' 60 16 ≤ 1)) := by
  have c0 : cOK gAll (xF d) 225 K_843 := (ct_of (d := d) ct_ok (show K_843 ∈ CT.getD 225 [] from (show CT.getD 225 [] = [K_840, K_841, K_842, K_843, K_844, K_845, K_846, K_847, K_848, K_849, K_850, K_851, K_526] from rfl) ▸ by simp) hd)
  obtain ⟨z, M', e, -, -, alt, ha, q, p⟩ := cOK_I c0 (A := [.inr 62, .inl a1]) (show aF2 gW [aRef 62, (0, -2147483648, 2147483647, 0, 0, 0)] [.inr 62, .inl a1] from ⟨gW_o, gW_i h1.1 h1.2, trivial⟩) hM (show gP0 [(60, 16, (0, 3, 3, 0, 0, 0))] M from fun e he => by
    simp only [List.mem_cons, List.not_mem_nil, or_false] at he
    rcases he with rfl
    · exact gR_i p0.1 p0.2) rfl
  refine ⟨z, M', e, ?_⟩
  have ha : alt ∈ [(some (0, -1, -1, 0, 0, 0), [], [(60, 16, (0, 3, 3, 0, 0, 0)), (60, 17, (0, 0, 0, 0, 0, 0))]), (some (0, 0, 10, 0, 0, 0), [(4, 0, 0, 0, 0, 0), (0, 0, 9, 0, 0, 0)], [(60, 16, (0, 1, 1, 0, 0, 0)), (60, 17, (0, 0, 0, 0, 0, 0)), (69, 0, (0, -2147483648, 2147483647, 0, 0, 0))])] := ha
  simp only [List.mem_cons, List.not_mem_nil, or_false] at ha
  rcases ha with rfl | rfl
  · obtain ⟨z2, e2, r⟩ := gW_int (show gW _ _ from q) (Nat.le_of_ble_eq_true rfl)
    cases e2
    have := gR0 r
    have w := gR0 (show gR (0, 3, 3, 0, 0, 0) (M' 60 16) from (p _ List.mem_cons_self).1)
    exact Or.inl ⟨this.1, this.2, w.1, w.2⟩
  · obtain ⟨z2, e2, r⟩ := gW_int (show gW _ _ from q) (Nat.le_of_ble_eq_true rfl)
    cases e2
    have := gR0 r
    have w := gR0 (show gR (0, 1, 1, 0, 0, 0) (M' 60 16) from (p _ List.mem_cons_self).1)
    exact Or.inr ⟨this.1, this.2, w.1, w.2⟩
theorem nu_M_without_4 {d : Nat} (hd : 3 ≤ d) {M : pM} {a1 : Int} (hM : gM gAll M) (h1 : -2147483648 ≤ a1 ∧ a1 ≤ 2147483647) (p0 : 4 ≤ M 60 16 ∧ M 60 16 ≤ 4) : ∃ z M', xF d 225 [.inr 62, .inl a1] M = rI z M' ∧ ((-1 ≤ z ∧ z ≤ -1 ∧ 4 ≤ M' 60 16 ∧ M' 60 16 ≤ 4) ∨ (0 ≤ z ∧ z ≤ 10 ∧ 1 ≤ M' 60 16 ∧ M' 60 16 ≤ 1)) := by
  have c0 : cOK gAll (xF d) 225 K_844 := (ct_of (d := d) ct_ok (show K_844 ∈ CT.getD 225 [] from (show CT.getD 225 [] = [K_840, K_841, K_842, K_843, K_844, K_845, K_846, K_847, K_848, K_849, K_850, K_851, K_526] from rfl) ▸ by simp) hd)
  obtain ⟨z, M', e, -, -, alt, ha, q, p⟩ := cOK_I c0 (A := [.inr 62, .inl a1]) (show aF2 gW [aRef 62, (0, -2147483648, 2147483647, 0, 0, 0)] [.inr 62, .inl a1] from ⟨gW_o, gW_i h1.1 h1.2, trivial⟩) hM (show gP0 [(60, 16, (0, 4, 4, 0, 0, 0))] M from fun e he => by
    simp only [List.mem_cons, List.not_mem_nil, or_false] at he
    rcases he with rfl
    · exact gR_i p0.1 p0.2) rfl
  refine ⟨z, M', e, ?_⟩
  have ha : alt ∈ [(some (0, -1, -1, 0, 0, 0), [], [(60, 16, (0, 4, 4, 0, 0, 0)), (60, 17, (0, 0, 0, 0, 0, 0))]), (some (0, 0, 10, 0, 0, 0), [(4, 0, 0, 0, 0, 0), (0, 0, 9, 0, 0, 0)], [(60, 16, (0, 1, 1, 0, 0, 0)), (60, 17, (0, 0, 0, 0, 0, 0)), (69, 0, (0, -2147483648, 2147483647, 0, 0, 0))])] := ha
  simp only [List.mem_cons, List.not_mem_nil, or_false] at ha
  rcases ha with rfl | rfl
  · obtain ⟨z2, e2, r⟩ := gW_int (show gW _ _ from q) (Nat.le_of_ble_eq_true rfl)
    cases e2
    have := gR0 r
    have w := gR0 (show gR (0, 4, 4, 0, 0, 0) (M' 60 16) from (p _ List.mem_cons_self).1)
    exact Or.inl ⟨this.1, this.2, w.1, w.2⟩
  · obtain ⟨z2, e2, r⟩ := gW_int (show gW _ _ from q) (Nat.le_of_ble_eq_true rfl)
    cases e2
    have := gR0 r
    have w := gR0 (show gR (0, 1, 1, 0, 0, 0) (M' 60 16) from (p _ List.mem_cons_self).1)
    exact Or.inr ⟨this.1, this.2, w.1, w.2⟩
theorem nu_M_without_5 {d : Nat} (hd : 3 ≤ d) {M : pM} {a1 : Int} (hM : gM gAll M) (h1 : -2147483648 ≤ a1 ∧ a1 ≤ 2147483647) (p0 : 5 ≤ M 60 16 ∧ M 60 16 ≤ 5) : ∃ z M', xF d 225 [.inr 62, .inl a1] M = rI z M' ∧ ((-1 ≤ z ∧ z ≤ -1 ∧ 5 ≤ M' 60 16 ∧ M' 60 16 ≤ 5) ∨ (0 ≤ z ∧ z ≤ 10 ∧ 1 ≤ M' 60 16 ∧ M' 60 16 ≤ 1)) := by
  have c0 : cOK gAll (xF d) 225 K_845 := (ct_of (d := d) ct_ok (show K_845 ∈ CT.getD 225 [] from (show CT.getD 225 [] = [K_840, K_841, K_842, K_843, K_844, K_845, K_846, K_847, K_848, K_849, K_850, K_851, K_526] from rfl) ▸ by simp) hd)
  obtain ⟨z, M', e, -, -, alt, ha, q, p⟩ := cOK_I c0 (A := [.inr 62, .inl a1]) (show aF2 gW [aRef 62, (0, -2147483648, 2147483647, 0, 0, 0)] [.inr 62, .inl a1] from ⟨gW_o, gW_i h1.1 h1.2, trivial⟩) hM (show gP0 [(60, 16, (0, 5, 5, 0, 0, 0))] M from fun e he => by
    simp only [List.mem_cons, List.not_mem_nil, or_false] at he
    rcases he with rfl
    · exact gR_i p0.1 p0.2) rfl
  refine ⟨z, M', e, ?_⟩
  have ha : alt ∈ [(some (0, -1, -1, 0, 0, 0), [], [(60, 16, (0, 5, 5, 0, 0, 0)), (60, 17, (0, 0, 0, 0, 0, 0))]), (some (0, 0, 10, 0, 0, 0), [(4, 0, 0, 0, 0, 0), (0, 0, 9, 0, 0, 0)], [(60, 16, (0, 1, 1, 0, 0, 0)), (60, 17, (0, 0, 0, 0, 0, 0)), (69, 0, (0, -2147483648, 2147483647, 0, 0, 0))])] := ha
  simp only [List.mem_cons, List.not_mem_nil, or_false] at ha
  rcases ha with rfl | rfl
  · obtain ⟨z2, e2, r⟩ := gW_int (show gW _ _ from q) (Nat.le_of_ble_eq_true rfl)
    cases e2
    have := gR0 r
    have w := gR0 (show gR (0, 5, 5, 0, 0, 0) (M' 60 16) from (p _ List.mem_cons_self).1)
    exact Or.inl ⟨this.1, this.2, w.1, w.2⟩
  · obtain ⟨z2, e2, r⟩ := gW_int (show gW _ _ from q) (Nat.le_of_ble_eq_true rfl)
    cases e2
    have := gR0 r
    have w := gR0 (show gR (0, 1, 1, 0, 0, 0) (M' 60 16) from (p _ List.mem_cons_self).1)
    exact Or.inr ⟨this.1, this.2, w.1, w.2⟩
theorem nu_M_without_6 {d : Nat} (hd : 3 ≤ d) {M : pM} {a1 : Int} (hM : gM gAll M) (h1 : -2147483648 ≤ a1 ∧ a1 ≤ 2147483647) (p0 : 6 ≤ M 60 16 ∧ M 60 16 ≤ 6) : ∃ z M', xF d 225 [.inr 62, .inl a1] M = rI z M' ∧ ((-1 ≤ z ∧ z ≤ -1 ∧ 6 ≤ M' 60 16 ∧ M' 60 16 ≤ 6) ∨ (0 ≤ z ∧ z ≤ 10 ∧ 1 ≤ M' 60 16 ∧ M' 60 16 ≤ 1)) := by
  have c0 : cOK gAll (xF d) 225 K_846 := (ct_of (d := d) ct_ok (show K_846 ∈ CT.getD 225 [] from (show CT.getD 225 [] = [K_840, K_841, K_842, K_843, K_844, K_845, K_846, K_847, K_848, K_849, K_850, K_851, K_526] from rfl) ▸ by simp) hd)
  obtain ⟨z, M', e, -, -, alt, ha, q, p⟩ := cOK_I c0 (A := [.inr 62, .inl a1]) (show aF2 gW [aRef 62, (0, -2147483648, 2147483647, 0, 0, 0)] [.inr 62, .inl a1] from ⟨gW_o, gW_i h1.1 h1.2, trivial⟩) hM (show gP0 [(60, 16, (0, 6, 6, 0, 0, 0))] M from fun e he => by
    simp only [List.mem_cons, List.not_mem_nil, or_false] at he
    rcases he with rfl
    · exact gR_i p0.1 p0.2) rfl
  refine ⟨z, M', e, ?_⟩
  have ha : alt ∈ [(some (0, -1, -1, 0, 0, 0), [], [(60, 16, (0, 6, 6, 0, 0, 0)), (60, 17, (0, 0, 0, 0, 0, 0))]), (some (0, 0, 10, 0, 0, 0), [(4, 0, 0, 0, 0, 0), (0, 0, 9, 0, 0, 0)], [(60, 16, (0, 1, 1, 0, 0, 0)), (60, 17, (0, 0, 0, 0, 0, 0)), (69, 0, (0, -2147483648, 2147483647, 0, 0, 0))])] := ha
  simp only [List.mem_cons, List.not_mem_nil, or_false] at ha
  rcases ha with rfl | rfl
  · obtain ⟨z2, e2, r⟩ := gW_int (show gW _ _ from q) (Nat.le_of_ble_eq_true rfl)
    cases e2
    have := gR0 r
    have w := gR0 (show gR (0, 6, 6, 0, 0, 0) (M' 60 16) from (p _ List.mem_cons_self).1)
    exact Or.inl ⟨this.1, this.2, w.1, w.2⟩
  · obtain ⟨z2, e2, r⟩ := gW_int (show gW _ _ from q) (Nat.le_of_ble_eq_true rfl)
    cases e2
    have := gR0 r
    have w := gR0 (show gR (0, 1, 1, 0, 0, 0) (M' 60 16) from (p _ List.mem_cons_self).1)
    exact Or.inr ⟨this.1, this.2, w.1, w.2⟩
theorem nu_M_without_7 {d : Nat} (hd : 3 ≤ d) {M : pM} {a1 : Int} (hM : gM gAll M) (h1 : -2147483648 ≤ a1 ∧ a1 ≤ 2147483647) (p0 : 7 ≤ M 60 16 ∧ M 60 16 ≤ 7) : ∃ z M', xF d 225 [.inr 62, .inl a1] M = rI z M' ∧ ((-1 ≤ z ∧ z ≤ -1 ∧ 7 ≤ M' 60 16 ∧ M' 60 16 ≤ 7) ∨ (0 ≤ z ∧ z ≤ 10 ∧ 1 ≤ M' 60 16 ∧ M' 60 16 ≤ 1)) := by
  have c0 : cOK gAll (xF d) 225 K_847 := (ct_of (d := d) ct_ok (show K_847 ∈ CT.getD 225 [] from (show CT.getD 225 [] = [K_840, K_841, K_842, K_843, K_844, K_845, K_846, K_847, K_848, K_849, K_850, K_851, K_526] from rfl) ▸ by simp) hd)
  obtain ⟨z, M', e, -, -, alt, ha, q, p⟩ := cOK_I c0 (A := [.inr 62, .inl a1]) (show aF2 gW [aRef 62, (0, -2147483648, 2147483647, 0, 0, 0)] [.inr 62, .inl a1] from ⟨gW_o, gW_i h1.1 h1.2, trivial⟩) hM (show gP0 [(60, 16, (0, 7, 7, 0, 0, 0))] M from fun e he => by
    simp only [List.mem_cons, List.not_mem_nil, or_false] at he
    rcases he with rfl
    · exact gR_i p0.1 p0.2) rfl
  refine ⟨z, M', e, ?_⟩
  have ha : alt ∈ [(some (0, -1, -1, 0, 0, 0), [], [(60, 16, (0, 7, 7, 0, 0, 0)), (60, 17, (0, 0, 0, 0, 0, 0))]), (some (0, 0, 10, 0, 0, 0), [(4, 0, 0, 0, 0, 0), (0, 0, 9, 0, 0, 0)], [(60, 16, (0, 1, 1, 0, 0, 0)), (60, 17, (0, 0, 0, 0, 0, 0)), (69, 0, (0, -2147483648, 2147483647, 0, 0, 0))])] := ha
  simp only [List.mem_cons, List.not_mem_nil, or_false] at ha
  rcases ha with rfl | rfl
  · obtain ⟨z2, e2, r⟩ := gW_int (show gW _ _ from q) (Nat.le_of_ble_eq_true rfl)
    cases e2
    have := gR0 r
    have w := gR0 (show gR (0, 7, 7, 0, 0, 0) (M' 60 16) from (p _ List.mem_cons_self).1)
    exact Or.inl ⟨this.1, this.2, w.1, w.2⟩
  · obtain ⟨z2, e2, r⟩ := gW_int (show gW _ _ from q) (Nat.le_of_ble_eq_true rfl)
    cases e2
    have := gR0 r
    have w := gR0 (show gR (0, 1, 1, 0, 0, 0) (M' 60 16) from (p _ List.mem_cons_self).1)
    exact Or.inr ⟨this.1, this.2, w.1, w.2⟩
theorem nu_M_without_8 {d : Nat} (hd : 3 ≤ d) {M : pM} {a1 : Int} (hM : gM gAll M) (h1 : -2147483648 ≤ a1 ∧ a1 ≤ 2147483647) (p0 : 8 ≤ M 60 16 ∧ M 60 16 ≤ 8) : ∃ z M', xF d 225 [.inr 62, .inl a1] M = rI z M' ∧ ((-1 ≤ z ∧ z ≤ -1 ∧ 8 ≤ M' 60 16 ∧ M' 60 16 ≤ 8) ∨ (0 ≤ z ∧ z ≤ 10 ∧ 1 ≤ M' 60 16 ∧ M' 60 16 ≤ 1)) := by
  have c0 : cOK gAll (xF d) 225 K_848 := (ct_of (d := d) ct_ok (show K_848 ∈ CT.getD 225 [] from (show CT.getD 225 [] = [K_840, K_841, K_842, K_843, K_844, K_845, K_846, K_847, K_848, K_849, K_850, K_851, K_526] from rfl) ▸ by simp) hd)
  obtain ⟨z, M', e, -, -, alt, ha, q, p⟩ := cOK_I c0 (A := [.inr 62, .inl a1]) (show aF2 gW [aRef 62, (0, -2147483648, 2147483647, 0, 0, 0)] [.inr 62, .inl a1] from ⟨gW_o, gW_i h1.1 h1.2, trivial⟩) hM (show gP0 [(60, 16, (0, 8, 8, 0, 0, 0))] M from fun e he => by
    simp only [List.mem_cons, List.not_mem_nil, or_false] at he
    rcases he with rfl
    · exact gR_i p0.1 p0.2) rfl
  refine ⟨z, M', e, ?_⟩
  have ha : alt ∈ [(some (0, -1, -1, 0, 0, 0), [], [(60, 16, (0, 8, 8, 0, 0, 0)), (60, 17, (0, 0, 0, 0, 0, 0))]), (some (0, 0, 10, 0, 0, 0), [(4, 0, 0, 0, 0, 0), (0, 0, 9, 0, 0, 0)], [(60, 16, (0, 1, 1, 0, 0, 0)), (60, 17, (0, 0, 0, 0, 0, 0)), (69, 0, (0, -2147483648, 2147483647, 0, 0, 0))])] := ha
  simp only [List.mem_cons, List.not_mem_nil, or_false] at ha
  rcases ha with rfl | rfl
  · obtain ⟨z2, e2, r⟩ := gW_int (show gW _ _ from q) (Nat.le_of_ble_eq_true rfl)
    cases e2
    have := gR0 r
    have w := gR0 (show gR (0, 8, 8, 0, 0, 0) (M' 60 16) from (p _ List.mem_cons_self).1)
    exact Or.inl ⟨this.1, this.2, w.1, w.2⟩
  · obtain ⟨z2, e2, r⟩ := gW_int (show gW _ _ from q) (Nat.le_of_ble_eq_true rfl)
    cases e2
    have := gR0 r
    have w := gR0 (show gR (0, 1, 1, 0, 0, 0) (M' 60 16) from (p _ List.mem_cons_self).1)
    exact Or.inr ⟨this.1, this.2, w.1, w.2⟩
theorem nu_M_without_9 {d : Nat} (hd : 3 ≤ d) {M : pM} {a1 : Int} (hM : gM gAll M) (h1 : -2147483648 ≤ a1 ∧ a1 ≤ 2147483647) (p0 : 9 ≤ M 60 16 ∧ M 60 16 ≤ 9) : ∃ z M', xF d 225 [.inr 62, .inl a1] M = rI z M' ∧ ((-1 ≤ z ∧ z ≤ -1 ∧ 9 ≤ M' 60 16 ∧ M' 60 16 ≤ 9) ∨ (0 ≤ z ∧ z ≤ 10 ∧ 1 ≤ M' 60 16 ∧ M' 60 16 ≤ 1)) := by
  have c0 : cOK gAll (xF d) 225 K_849 := (ct_of (d := d) ct_ok (show K_849 ∈ CT.getD 225 [] from (show CT.getD 225 [] = [K_840, K_841, K_842, K_843, K_844, K_845, K_846, K_847, K_848, K_849, K_850, K_851, K_526] from rfl) ▸ by simp) hd)
  obtain ⟨z, M', e, -, -, alt, ha, q, p⟩ := cOK_I c0 (A := [.inr 62, .inl a1]) (show aF2 gW [aRef 62, (0, -2147483648, 2147483647, 0, 0, 0)] [.inr 62, .inl a1] from ⟨gW_o, gW_i h1.1 h1.2, trivial⟩) hM (show gP0 [(60, 16, (0, 9, 9, 0, 0, 0))] M from fun e he => by
    simp only [List.mem_cons, List.not_mem_nil, or_false] at he
    rcases he with rfl
    · exact gR_i p0.1 p0.2) rfl
  refine ⟨z, M', e, ?_⟩
  have ha : alt ∈ [(some (0, -1, -1, 0, 0, 0), [], [(60, 16, (0, 9, 9, 0, 0, 0)), (60, 17, (0, 0, 0, 0, 0, 0))]), (some (0, 0, 10, 0, 0, 0), [(4, 0, 0, 0, 0, 0), (0, 0, 9, 0, 0, 0)], [(60, 16, (0, 1, 1, 0, 0, 0)), (60, 17, (0, 0, 0, 0, 0, 0)), (69, 0, (0, -2147483648, 2147483647, 0, 0, 0))])] := ha
  simp only [List.mem_cons, List.not_mem_nil, or_false] at ha
  rcases ha with rfl | rfl
  · obtain ⟨z2, e2, r⟩ := gW_int (show gW _ _ from q) (Nat.le_of_ble_eq_true rfl)
    cases e2
    have := gR0 r
    have w := gR0 (show gR (0, 9, 9, 0, 0, 0) (M' 60 16) from (p _ List.mem_cons_self).1)
    exact Or.inl ⟨this.1, this.2, w.1, w.2⟩
  · obtain ⟨z2, e2, r⟩ := gW_int (show gW _ _ from q) (Nat.le_of_ble_eq_true rfl)
    cases e2
    have := gR0 r
    have w := gR0 (show gR (0, 1, 1, 0, 0, 0) (M' 60 16) from (p _ List.mem_cons_self).1)
    exact Or.inr ⟨this.1, this.2, w.1, w.2⟩
theorem nu_M_without_10 {d : Nat} (hd : 3 ≤ d) {M : pM} {a1 : Int} (hM : gM gAll M) (h1 : -2147483648 ≤ a1 ∧ a1 ≤ 2147483647) (p0 : 10 ≤ M 60 16 ∧ M 60 16 ≤ 10) : ∃ z M', xF d 225 [.inr 62, .inl a1] M = rI z M' ∧ ((-1 ≤ z ∧ z ≤ -1 ∧ 10 ≤ M' 60 16 ∧ M' 60 16 ≤ 10) ∨ (0 ≤ z ∧ z ≤ 10 ∧ 1 ≤ M' 60 16 ∧ M' 60 16 ≤ 1)) := by
  have c0 : cOK gAll (xF d) 225 K_850 := (ct_of (d := d) ct_ok (show K_850 ∈ CT.getD 225 [] from (show CT.getD 225 [] = [K_840, K_841, K_842, K_843, K_844, K_845, K_846, K_847, K_848, K_849, K_850, K_851, K_526] from rfl) ▸ by simp) hd)
  obtain ⟨z, M', e, -, -, alt, ha, q, p⟩ := cOK_I c0 (A := [.inr 62, .inl a1]) (show aF2 gW [aRef 62, (0, -2147483648, 2147483647, 0, 0, 0)] [.inr 62, .inl a1] from ⟨gW_o, gW_i h1.1 h1.2, trivial⟩) hM (show gP0 [(60, 16, (0, 10, 10, 0, 0, 0))] M from fun e he => by
    simp only [List.mem_cons, List.not_mem_nil, or_false] at he
    rcases he with rfl
    · exact gR_i p0.1 p0.2) rfl
  refine ⟨z, M', e, ?_⟩
  have ha : alt ∈ [(some (0, -1, -1, 0, 0, 0), [], [(60, 16, (0, 10, 10, 0, 0, 0)), (60, 17, (0, 0, 0, 0, 0, 0))]), (some (0, 0, 10, 0, 0, 0), [(4, 0, 0, 0, 0, 0), (0, 0, 9, 0, 0, 0)], [(60, 16, (0, 1, 1, 0, 0, 0)), (60, 17, (0, 0, 0, 0, 0, 0)), (69, 0, (0, -2147483648, 2147483647, 0, 0, 0))])] := ha
  simp only [List.mem_cons, List.not_mem_nil, or_false] at ha
  rcases ha with rfl | rfl
  · obtain ⟨z2, e2, r⟩ := gW_int (show gW _ _ from q) (Nat.le_of_ble_eq_true rfl)
    cases e2
    have := gR0 r
    have w := gR0 (show gR (0, 10, 10, 0, 0, 0) (M' 60 16) from (p _ List.mem_cons_self).1)
    exact Or.inl ⟨this.1, this.2, w.1, w.2⟩
  · obtain ⟨z2, e2, r⟩ := gW_int (show gW _ _ from q) (Nat.le_of_ble_eq_true rfl)
    cases e2
    have := gR0 r
    have w := gR0 (show gR (0, 1, 1, 0, 0, 0) (M' 60 16) from (p _ List.mem_cons_self).1)
    exact Or.inr ⟨this.1, this.2, w.1, w.2⟩
theorem nu_M_without_11 {d : Nat} (hd : 3 ≤ d) {M : pM} {a1 : Int} (hM : gM gAll M) (h1 : -2147483648 ≤ a1 ∧ a1 ≤ 2147483647) (p0 : 11 ≤ M 60 16 ∧ M 60 16 ≤ 11) : ∃ z M', xF d 225 [.inr 62, .inl a1] M = rI z M' ∧ ((-1 ≤ z ∧ z ≤ -1 ∧ 11 ≤ M' 60 16 ∧ M' 60 16 ≤ 11) ∨ (0 ≤ z ∧ z ≤ 10 ∧ 1 ≤ M' 60 16 ∧ M' 60 16 ≤ 1)) := by
  have c0 : cOK gAll (xF d) 225 K_851 := (ct_of (d := d) ct_ok (show K_851 ∈ CT.getD 225 [] from (show CT.getD 225 [] = [K_840, K_841, K_842, K_843, K_844, K_845, K_846, K_847, K_848, K_849, K_850, K_851, K_526] from rfl) ▸ by simp) hd)
  obtain ⟨z, M', e, -, -, alt, ha, q, p⟩ := cOK_I c0 (A := [.inr 62, .inl a1]) (show aF2 gW [aRef 62, (0, -2147483648, 2147483647, 0, 0, 0)] [.inr 62, .inl a1] from ⟨gW_o, gW_i h1.1 h1.2, trivial⟩) hM (show gP0 [(60, 16, (0, 11, 11, 0, 0, 0))] M from fun e he => by
    simp only [List.mem_cons, List.not_mem_nil, or_false] at he
    rcases he with rfl
    · exact gR_i p0.1 p0.2) rfl
  refine ⟨z, M', e, ?_⟩
  have ha : alt ∈ [(some (0, -1, -1, 0, 0, 0), [], [(60, 16, (0, 11, 11, 0, 0, 0)), (60, 17, (0, 0, 0, 0, 0, 0))]), (some (0, 0, 10, 0, 0, 0), [(4, 0, 0, 0, 0, 0), (0, 0, 9, 0, 0, 0)], [(60, 16, (0, 1, 1, 0, 0, 0)), (60, 17, (0, 0, 0, 0, 0, 0)), (69, 0, (0, -2147483648, 2147483647, 0, 0, 0))])] := ha
  simp only [List.mem_cons, List.not_mem_nil, or_false] at ha
  rcases ha with rfl | rfl
  · obtain ⟨z2, e2, r⟩ := gW_int (show gW _ _ from q) (Nat.le_of_ble_eq_true rfl)
    cases e2
    have := gR0 r
    have w := gR0 (show gR (0, 11, 11, 0, 0, 0) (M' 60 16) from (p _ List.mem_cons_self).1)
    exact Or.inl ⟨this.1, this.2, w.1, w.2⟩
  · obtain ⟨z2, e2, r⟩ := gW_int (show gW _ _ from q) (Nat.le_of_ble_eq_true rfl)
    cases e2
    have := gR0 r
    have w := gR0 (show gR (0, 1, 1, 0, 0, 0) (M' 60 16) from (p _ List.mem_cons_self).1)
    exact Or.inr ⟨this.1, this.2, w.1, w.2⟩
theorem nu_M_without {d : Nat} (hd : 3 ≤ d) {M M' : pM} {a1 : Int} {v : Int} (hM : gM gAll M) (h1 : -2147483648 ≤ a1 ∧ a1 ≤ 2147483647) {n : Nat} (hn : n ≤ 11) (hc : M 60 16 = (n : Int)) (e : xF d 225 [.inr 62, .inl a1] M = rI v M') : (-1 ≤ v ∧ v ≤ -1 ∧ M' 60 16 = (n : Int)) ∨ (0 ≤ v ∧ v ≤ 10 ∧ M' 60 16 = 1) := by
  rcases (show n = 0 ∨ n = 1 ∨ n = 2 ∨ n = 3 ∨ n = 4 ∨ n = 5 ∨ n = 6 ∨ n = 7 ∨ n = 8 ∨ n = 9 ∨ n = 10 ∨ n = 11 by omega) with rfl | rfl | rfl | rfl | rfl | rfl | rfl | rfl | rfl | rfl | rfl | rfl
  · obtain ⟨z, M2, e2, r⟩ := nu_M_without_0 (d := d) (by omega) hM h1 (by omega)
    obtain ⟨y1, y2⟩ := rI_inj (e.symm.trans e2)
    rw [y1, y2]
    rcases r with r | r
    · exact Or.inl (by omega)
    · exact Or.inr ((by omega))
  · obtain ⟨z, M2, e2, r⟩ := nu_M_without_1 (d := d) (by omega) hM h1 (by omega)
    obtain ⟨y1, y2⟩ := rI_inj (e.symm.trans e2)
    rw [y1, y2]
    rcases r with r | r
    · exact Or.inl (by omega)
    · exact Or.inr ((by omega))
  · obtain ⟨z, M2, e2, r⟩ := nu_M_without_2 (d := d) (by omega) hM h1 (by omega)
    obtain ⟨y1, y2⟩ := rI_inj (e.symm.trans e2)
    rw [y1, y2]
    rcases r with r | r
    · exact Or.inl (by omega)
    · exact Or.inr ((by omega))
  · obtain ⟨z, M2, e2, r⟩ := nu_M_without_3 (d := d) (by omega) hM h1 (by omega)
    obtain ⟨y1, y2⟩ := rI_inj (e.symm.trans e2)
    rw [y1, y2]
    rcases r with r | r
    · exact Or.inl (by omega)
    · exact Or.inr ((by omega))
  · obtain ⟨z, M2, e2, r⟩ := nu_M_without_4 (d := d) (by omega) hM h1 (by omega)
    obtain ⟨y1, y2⟩ := rI_inj (e.symm.trans e2)
    rw [y1, y2]
    rcases r with r | r
    · exact Or.inl (by omega)
    · exact Or.inr ((by omega))
  · obtain ⟨z, M2, e2, r⟩ := nu_M_without_5 (d := d) (by omega) hM h1 (by omega)
    obtain ⟨y1, y2⟩ := rI_inj (e.symm.trans e2)
    rw [y1, y2]
    rcases r with r | r
    · exact Or.inl (by omega)
    · exact Or.inr ((by omega))
  · obtain ⟨z, M2, e2, r⟩ := nu_M_without_6 (d := d) (by omega) hM h1 (by omega)
    obtain ⟨y1, y2⟩ := rI_inj (e.symm.trans e2)
    rw [y1, y2]
    rcases r with r | r
    · exact Or.inl (by omega)
    · exact Or.inr ((by omega))
  · obtain ⟨z, M2, e2, r⟩ := nu_M_without_7 (d := d) (by omega) hM h1 (by omega)
    obtain ⟨y1, y2⟩ := rI_inj (e.symm.trans e2)
    rw [y1, y2]
    rcases r with r | r
    · exact Or.inl (by omega)
    · exact Or.inr ((by omega))
  · obtain ⟨z, M2, e2, r⟩ := nu_M_without_8 (d := d) (by omega) hM h1 (by omega)
    obtain ⟨y1, y2⟩ := rI_inj (e.symm.trans e2)
    rw [y1, y2]
    rcases r with r | r
    · exact Or.inl (by omega)
    · exact Or.inr ((by omega))
  · obtain ⟨z, M2, e2, r⟩ := nu_M_without_9 (d := d) (by omega) hM h1 (by omega)
    obtain ⟨y1, y2⟩ := rI_inj (e.symm.trans e2)
    rw [y1, y2]
    rcases r with r | r
    · exact Or.inl (by omega)
    · exact Or.inr ((by omega))
  · obtain ⟨z, M2, e2, r⟩ := nu_M_without_10 (d := d) (by omega) hM h1 (by omega)
    obtain ⟨y1, y2⟩ := rI_inj (e.symm.trans e2)
    rw [y1, y2]
    rcases r with r | r
    · exact Or.inl (by omega)
    · exact Or.inr ((by omega))
  · obtain ⟨z, M2, e2, r⟩ := nu_M_without_11 (d := d) (by omega) hM h1 (by omega)
    obtain ⟨y1, y2⟩ := rI_inj (e.symm.trans e2)
    rw [y1, y2]
    rcases r with r | r
    · exact Or.inl (by omega)
    · exact Or.inr ((by omega))
theorem nu_M_swap_0 {d : Nat} (hd : 4 ≤ d) {M : pM} {a1 : Int} {a2 : Int} (hM : gM gAll M) (h1 : -2147483648 ≤ a1 ∧ a1 ≤ 2147483647) (h2 : -2147483648 ≤ a2 ∧ a2 ≤ 2147483647) (p0 : 0 ≤ M 60 16 ∧ M 60 16 ≤ 0) : ∃ z M', xF d 245 [.inr 62, .inl a1, .inl a2] M = rI z M' ∧ ((-1 ≤ z ∧ z ≤ -1 ∧ 0 ≤ M' 60 16 ∧ M' 60 16 ≤ 0) ∨ (0 ≤ z ∧ z ≤ 0 ∧ 1 ≤ M' 60 16 ∧ M' 60 16 ≤ 1) ∨ (1 ≤ z ∧ z ≤ 1 ∧ 1 ≤ M' 60 16 ∧ M' 60 16 ≤ 1)) := by
  have c0 : cOK gAll (xF d) 245 K_852 := (ct_of (d := d) ct_ok (show K_852 ∈ CT.getD 245 [] from (show CT.getD 245 [] = [K_852, K_853, K_854, K_855, K_856, K_857, K_858, K_859, K_860, K_861, K_862, K_863, K_571] from rfl) ▸ by simp) hd)
  obtain ⟨z, M', e, -, -, alt, ha, q, p⟩ := cOK_I c0 (A := [.inr 62, .inl a1, .inl a2]) (show aF2 gW [aRef 62, (0, -2147483648, 2147483647, 0, 0, 0), (0, -2147483648, 2147483647, 0, 0, 0)] [.inr 62, .inl a1, .inl a2] from ⟨gW_o, gW_i h1.1 h1.2, gW_i h2.1 h2.2, trivial⟩) hM (show gP0 [(60, 16, (0, 0, 0, 0, 0, 0))] M from fun e he => by
    simp only [List.mem_cons, List.not_mem_nil, or_false] at he
    rcases he with rfl
    · exact gR_i p0.1 p0.2) rfl
  refine ⟨z, M', e, ?_⟩
  have ha : alt ∈ [(some (0, -1, -1, 0, 0, 0), [], [(60, 16, (0, 0, 0, 0, 0, 0)), (60, 17, (0, 0, 0, 0, 0, 0))]), (some (0, 0, 0, 0, 0, 0), [(4, 0, 0, 0, 0, 0), (0, 0, 5, 0, 0, 0), (0, 0, 5, 0, 0, 0)], [(60, 16, (0, 1, 1, 0, 0, 0)), (60, 17, (0, 0, 0, 0, 0, 0)), (69, 0, (0, -2147483648, 2147483647, 0, 0, 0))]), (some (0, 1, 1, 0, 0, 0), [(4, 0, 0, 0, 0, 0), (0, 0, 5, 0, 0, 0), (0, 0, 5, 0, 0, 0)], [(60, 16, (0, 1, 1, 0, 0, 0)), (60, 17, (0, 0, 0, 0, 0, 0)), (69, 0, (0, -2147483648, 2147483647, 0, 0, 0))])] := ha
  simp only [List.mem_cons, List.not_mem_nil, or_false] at ha
  rcases ha with rfl | rfl | rfl
  · obtain ⟨z2, e2, r⟩ := gW_int (show gW _ _ from q) (Nat.le_of_ble_eq_true rfl)
    cases e2
    have := gR0 r
    have w := gR0 (show gR (0, 0, 0, 0, 0, 0) (M' 60 16) from (p _ List.mem_cons_self).1)
    exact Or.inl ⟨this.1, this.2, w.1, w.2⟩
  · obtain ⟨z2, e2, r⟩ := gW_int (show gW _ _ from q) (Nat.le_of_ble_eq_true rfl)
    cases e2
    have := gR0 r
    have w := gR0 (show gR (0, 1, 1, 0, 0, 0) (M' 60 16) from (p _ List.mem_cons_self).1)
    exact Or.inr (Or.inl ⟨this.1, this.2, w.1, w.2⟩)
  · obtain ⟨z2, e2, r⟩ := gW_int (show gW _ _ from q) (Nat.le_of_ble_eq_true rfl)
    cases e2
    have := gR0 r
    have w := gR0 (show gR (0, 1, 1, 0, 0, 0) (M' 60 16) from (p _ List.mem_cons_self).1)
    exact Or.inr (Or.inr ⟨this.1, this.2, w.1, w.2⟩)
theorem nu_M_swap_1 {d : Nat} (hd : 4 ≤ d) {M : pM} {a1 : Int} {a2 : Int} (hM : gM gAll M) (h1 : -2147483648 ≤ a1 ∧ a1 ≤ 2147483647) (h2 : -2147483648 ≤ a2 ∧ a2 ≤ 2147483647) (p0 : 1 ≤ M 60 16 ∧ M 60 16 ≤ 1) : ∃ z M', xF d 245 [.inr 62, .inl a1, .inl a2] M = rI z M' ∧ ((-1 ≤ z ∧ z ≤ -1 ∧ 1 ≤ M' 60 16 ∧ M' 60 16 ≤ 1) ∨ (0 ≤ z ∧ z ≤ 0 ∧ 1 ≤ M' 60 16 ∧ M' 60 16 ≤ 1) ∨ (1 ≤ z ∧ z ≤ 1 ∧ 1 ≤ M' 60 16 ∧ M' 60 16 ≤ 1)) := by
  have c0 : cOK gAll (xF d) 245 K_853 := (ct_of (d := d) ct_ok (show K_853 ∈ CT.getD 245 [] from (show CT.getD 245 [] = [K_852, K_853, K_854, K_855, K_856, K_857, K_858, K_859, K_860, K_861, K_862, K_863, K_571] from rfl) ▸ by simp) hd)
  obtain ⟨z, M', e, -, -, alt, ha, q, p⟩ := cOK_I c0 (A := [.inr 62, .inl a1, .inl a2]) (show aF2 gW [aRef 62, (0, -2147483648, 2147483647, 0, 0, 0), (0, -2147483648, 2147483647, 0, 0, 0)] [.inr 62, .inl a1, .inl a2] from ⟨gW_o, gW_i h1.1 h1.2, gW_i h2.1 h2.2, trivial⟩) hM (show gP0 [(60, 16, (0, 1, 1, 0, 0, 0))] M from fun e he => by
    simp only [List.mem_cons, List.not_mem_nil, or_false] at he
    rcases he with rfl
    · exact gR_i p0.1 p0.2) rfl
  refine ⟨z, M', e, ?_⟩
  have ha : alt ∈ [(some (0, -1, -1, 0, 0, 0), [], [(60, 16, (0, 1, 1, 0, 0, 0)), (60, 17, (0, 0, 0, 0, 0, 0))]), (some (0, 0, 0, 0, 0, 0), [(4, 0, 0, 0, 0, 0), (0, 0, 5, 0, 0, 0), (0, 0, 5, 0, 0, 0)], [(60, 16, (0, 1, 1, 0, 0, 0)), (60, 17, (0, 0, 0, 0, 0, 0)), (69, 0, (0, -2147483648, 2147483647, 0, 0, 0))]), (some (0, 1, 1, 0, 0, 0), [(4, 0, 0, 0, 0, 0), (0, 0, 5, 0, 0, 0), (0, 0, 5, 0, 0, 0)], [(60, 16, (0, 1, 1, 0, 0, 0)), (60, 17, (0, 0, 0, 0, 0, 0)), (69, 0, (0, -2147483648, 2147483647, 0, 0, 0))])] := ha
  simp only [List.mem_cons, List.not_mem_nil, or_false] at ha
  rcases ha with rfl | rfl | rfl
  · obtain ⟨z2, e2, r⟩ := gW_int (show gW _ _ from q) (Nat.le_of_ble_eq_true rfl)
    cases e2
    have := gR0 r
    have w := gR0 (show gR (0, 1, 1, 0, 0, 0) (M' 60 16) from (p _ List.mem_cons_self).1)
    exact Or.inl ⟨this.1, this.2, w.1, w.2⟩
  · obtain ⟨z2, e2, r⟩ := gW_int (show gW _ _ from q) (Nat.le_of_ble_eq_true rfl)
    cases e2
    have := gR0 r
    have w := gR0 (show gR (0, 1, 1, 0, 0, 0) (M' 60 16) from (p _ List.mem_cons_self).1)
    exact Or.inr (Or.inl ⟨this.1, this.2, w.1, w.2⟩)
  · obtain ⟨z2, e2, r⟩ := gW_int (show gW _ _ from q) (Nat.le_of_ble_eq_true rfl)
    cases e2
    have := gR0 r
    have w := gR0 (show gR (0, 1, 1, 0, 0, 0) (M' 60 16) from (p _ List.mem_cons_self).1)
    exact Or.inr (Or.inr ⟨this.1, this.2, w.1, w.2⟩)
theorem nu_M_swap_2 {d : Nat} (hd : 4 ≤ d) {M : pM} {a1 : Int} {a2 : Int} (hM : gM gAll M) (h1 : -2147483648 ≤ a1 ∧ a1 ≤ 2147483647) (h2 : -2147483648 ≤ a2 ∧ a2 ≤ 2147483647) (p0 : 2 ≤ M 60 16 ∧ M 60 16 ≤ 2) : ∃ z M', xF d 245 [.inr 62, .inl a1, .inl a2] M = rI z M' ∧ ((-1 ≤ z ∧ z ≤ -1 ∧ 2 ≤ M' 60 16 ∧ M' 60 16 ≤ 2) ∨ (0 ≤ z ∧ z ≤ 0 ∧ 1 ≤ M' 60 16 ∧ M' 60 16 ≤ 1) ∨ (1 ≤ z ∧ z ≤ 1 ∧ 1 ≤ M' 60 16 ∧ M' 60 16 ≤ 1)) := by
  have c0 : cOK gAll (xF d) 245 K_854 := (ct_of (d := d) ct_ok (show K_854 ∈ CT.getD 245 [] from (show CT.getD 245 [] = [K_852, K_853, K_854, K_855, K_856, K_857, K_858, K_859, K_860, K_861, K_862, K_863, K_571] from rfl) ▸ by simp) hd)
  obtain ⟨z, M', e, -, -, alt, ha, q, p⟩ := cOK_I c0 (A := [.inr 62, .inl a1, .inl a2]) (show aF2 gW [aRef 62, (0, -2147483648, 2147483647, 0, 0, 0), (0, -2147483648, 2147483647, 0, 0, 0)] [.inr 62, .inl a1, .inl a2] from ⟨gW_o, gW_i h1.1 h1.2, gW_i h2.1 h2.2, trivial⟩) hM (show gP0 [(60, 16, (0, 2, 2, 0, 0, 0))] M from fun e he => by
    simp only [List.mem_cons, List.not_mem_nil, or_false] at he
    rcases he with rfl
    · exact gR_i p0.1 p0.2) rfl
  refine ⟨z, M', e, ?_⟩
  have ha : alt ∈ [(some (0, -1, -1, 0, 0, 0), [], [(60, 16, (0, 2, 2, 0, 0, 0)), (60, 17, (0, 0, 0, 0, 0, 0))]), (some (0, 0, 0, 0, 0, 0), [(4, 0, 0, 0, 0, 0), (0, 0, 5, 0, 0, 0), (0, 0, 5, 0, 0, 0)], [(60, 16, (0, 1, 1, 0, 0, 0)), (60, 17, (0, 0, 0, 0, 0, 0)), (69, 0, (0, -2147483648, 2147483647, 0, 0, 0))]), (some (0, 1, 1, 0, 0, 0), [(4, 0, 0, 0, 0, 0), (0, 0, 5, 0, 0, 0), (0, 0, 5, 0, 0, 0)], [(60, 16, (0, 1, 1, 0, 0, 0)), (60, 17, (0, 0, 0, 0, 0, 0)), (69, 0, (0, -2147483648, 2147483647, 0, 0, 0))])] := ha
  simp only [List.mem_cons, List.not_mem_nil, or_false] at ha
  rcases ha with rfl | rfl | rfl
  · obtain ⟨z2, e2, r⟩ := gW_int (show gW _ _ from q) (Nat.le_of_ble_eq_true rfl)
    cases e2
    have := gR0 r
    have w := gR0 (show gR (0, 2, 2, 0, 0, 0) (M' 60 16) from (p _ List.mem_cons_self).1)
    exact Or.inl ⟨this.1, this.2, w.1, w.2⟩
  · obtain ⟨z2, e2, r⟩ := gW_int (show gW _ _ from q) (Nat.le_of_ble_eq_true rfl)
    cases e2
    have := gR0 r
    have w := gR0 (show gR (0, 1, 1, 0, 0, 0) (M' 60 16) from (p _ List.mem_cons_self).1)
    exact Or.inr (Or.inl ⟨this.1, this.2, w.1, w.2⟩)
  · obtain ⟨z2, e2, r⟩ := gW_int (show gW _ _ from q) (Nat.le_of_ble_eq_true rfl)
    cases e2
    have := gR0 r
    have w := gR0 (show gR (0, 1, 1, 0, 0, 0) (M' 60 16) from (p _ List.mem_cons_self).1)
    exact Or.inr (Or.inr ⟨this.1, this.2, w.1, w.2⟩)
theorem nu_M_swap_3 {d : Nat} (hd : 4 ≤ d) {M : pM} {a1 : Int} {a2 : Int} (hM : gM gAll M) (h1 : -2147483648 ≤ a1 ∧ a1 ≤ 2147483647) (h2 : -2147483648 ≤ a2 ∧ a2 ≤ 2147483647) (p0 : 3 ≤ M 60 16 ∧ M 60 16 ≤ 3) : ∃ z M', xF d 245 [.inr 62, .inl a1, .inl a2] M = rI z M' ∧ ((-1 ≤ z ∧ z ≤ -1 ∧ 3 ≤ M' 60 16 ∧ M' 60 16 ≤ 3) ∨ (0 ≤ z ∧ z ≤ 0 ∧ 1 ≤ M' 60 16 ∧ M' 60 16 ≤ 1) ∨ (1 ≤ z ∧ z ≤ 1 ∧ 1 ≤ M' 60 16 ∧ M' 60 16 ≤ 1)) := by
  have c0 : cOK gAll (xF d) 245 K_855 := (ct_of (d := d) ct_ok (show K_855 ∈ CT.getD 245 [] from (show CT.getD 245 [] = [K_852, K_853, K_854, K_855, K_856, K_857, K_858, K_859, K_860, K_861, K_862, K_863, K_571] from rfl) ▸ by simp) hd)
  obtain ⟨z, M', e, -, -, alt, ha, q, p⟩ := cOK_I c0 (A := [.inr 62, .inl a1, .inl a2]) (show aF2 gW [aRef 62, (0, -2147483648, 2147483647, 0, 0, 0), (0, -2147483648, 2147483647, 0, 0, 0)] [.inr 62, .inl a1, .inl a2] from ⟨gW_o, gW_i h1.1 h1.2, gW_i h2.1 h2.2, trivial⟩) hM (show gP0 [(60, 16, (0, 3, 3, 0, 0, 0))] M from fun e he => by
    simp only [List.mem_cons, List.not_mem_nil, or_false] at he
    rcases he with rfl
    · exact gR_i p0.1 p0.2) rfl
  refine ⟨z, M', e, ?_⟩
  have ha : alt ∈ [(some (0, -1, -1, 0, 0, 0), [], [(60, 16, (0, 3, 3, 0, 0, 0)), (60, 17, (0, 0, 0, 0, 0, 0))]), (some (0, 0, 0, 0, 0, 0), [(4, 0, 0, 0, 0, 0), (0, 0, 5, 0, 0, 0), (0, 0, 5, 0, 0, 0)], [(60, 16, (0, 1, 1, 0, 0, 0)), (60, 17, (0, 0, 0, 0, 0, 0)), (69, 0, (0, -2147483648, 2147483647, 0, 0, 0))]), (some (0, 1, 1, 0, 0, 0), [(4, 0, 0, 0, 0, 0), (0, 0, 5, 0, 0, 0), (0, 0, 5, 0, 0, 0)], [(60, 16, (0, 1, 1, 0, 0, 0)), (60, 17, (0, 0, 0, 0, 0, 0)), (69, 0, (0, -2147483648, 2147483647, 0, 0, 0))])] := ha
  simp only [List.mem_cons, List.not_mem_nil, or_false] at ha
  rcases ha with rfl | rfl | rfl
  · obtain ⟨z2, e2, r⟩ := gW_int (show gW _ _ from q) (Nat.le_of_ble_eq_true rfl)
    cases e2
    have := gR0 r
    have w := gR0 (show gR (0, 3, 3, 0, 0, 0) (M' 60 16) from (p _ List.mem_cons_self).1)
    exact Or.inl ⟨this.1, this.2, w.1, w.2⟩
  · obtain ⟨z2, e2, r⟩ := gW_int (show gW _ _ from q) (Nat.le_of_ble_eq_true rfl)
    cases e2
    have := gR0 r
    have w := gR0 (show gR (0, 1, 1, 0, 0, 0) (M' 60 16) from (p _ List.mem_cons_self).1)
    exact Or.inr (Or.inl ⟨this.1, this.2, w.1, w.2⟩)
  · obtain ⟨z2, e2, r⟩ := gW_int (show gW _ _ from q) (Nat.le_of_ble_eq_true rfl)
    cases e2
    have := gR0 r
    have w := gR0 (show gR (0, 1, 1, 0, 0, 0) (M' 60 16) from (p _ List.mem_cons_self).1)
    exact Or.inr (Or.inr ⟨this.1, this.2, w.1, w.2⟩)
theorem nu_M_swap_4 {d : Nat} (hd : 4 ≤ d) {M : pM} {a1 : Int} {a2 : Int} (hM : gM gAll M) (h1 : -2147483648 ≤ a1 ∧ a1 ≤ 2147483647) (h2 : -2147483648 ≤ a2 ∧ a2 ≤ 2147483647) (p0 : 4 ≤ M 60 16 ∧ M 60 16 ≤ 4) : ∃ z M', xF d 245 [.inr 62, .inl a1, .inl a2] M = rI z M' ∧ ((-1 ≤ z ∧ z ≤ -1 ∧ 4 ≤ M' 60 16 ∧ M' 60 16 ≤ 4) ∨ (0 ≤ z ∧ z ≤ 0 ∧ 1 ≤ M' 60 16 ∧ M' 60 16 ≤ 1) ∨ (1 ≤ z ∧ z ≤ 1 ∧ 1 ≤ M' 60 16 ∧ M' 60 16 ≤ 1)) := by
  have c0 : cOK gAll (xF d) 245 K_856 := (ct_of (d := d) ct_ok (show K_856 ∈ CT.getD 245 [] from (show CT.getD 245 [] = [K_852, K_853, K_854, K_855, K_856, K_857, K_858, K_859, K_860, K_861, K_862, K_863, K_571] from rfl) ▸ by simp) hd)
  obtain ⟨z, M', e, -, -, alt, ha, q, p⟩ := cOK_I c0 (A := [.inr 62, .inl a1, .inl a2]) (show aF2 gW [aRef 62, (0, -2147483648, 2147483647, 0, 0, 0), (0, -2147483648, 2147483647, 0, 0, 0)] [.inr 62, .inl a1, .inl a2] from ⟨gW_o, gW_i h1.1 h1.2, gW_i h2.1 h2.2, trivial⟩) hM (show gP0 [(60, 16, (0, 4, 4, 0, 0, 0))] M from fun e he => by
    simp only [List.mem_cons, List.not_mem_nil, or_false] at he
    rcases he with rfl
    · exact gR_i p0.1 p0.2) rfl
  refine ⟨z, M', e, ?_⟩
  have ha : alt ∈ [(some (0, -1, -1, 0, 0, 0), [], [(60, 16, (0, 4, 4, 0, 0, 0)), (60, 17, (0, 0, 0, 0, 0, 0))]), (some (0, 0, 0, 0, 0, 0), [(4, 0, 0, 0, 0, 0), (0, 0, 5, 0, 0, 0), (0, 0, 5, 0, 0, 0)], [(60, 16, (0, 1, 1, 0, 0, 0)), (60, 17, (0, 0, 0, 0, 0, 0)), (69, 0, (0, -2147483648, 2147483647, 0, 0, 0))]), (some (0, 1, 1, 0, 0, 0), [(4, 0, 0, 0, 0, 0), (0, 0, 5, 0, 0, 0), (0, 0, 5, 0, 0, 0)], [(60, 16, (0, 1, 1, 0, 0, 0)), (60, 17, (0, 0, 0, 0, 0, 0)), (69, 0, (0, -2147483648, 2147483647, 0, 0, 0))])] := ha
  simp only [List.mem_cons, List.not_mem_nil, or_false] at ha
  rcases ha with rfl | rfl | rfl
  · obtain ⟨z2, e2, r⟩ := gW_int (show gW _ _ from q) (Nat.le_of_ble_eq_true rfl)
    cases e2
    have := gR0 r
    have w := gR0 (show gR (0, 4, 4, 0, 0, 0) (M' 60 16) from (p _ List.mem_cons_self).1)
    exact Or.inl ⟨this.1, this.2, w.1, w.2⟩
  · obtain ⟨z2, e2, r⟩ := gW_int (show gW _ _ from q) (Nat.le_of_ble_eq_true rfl)
    cases e2
    have := gR0 r
    have w := gR0 (show gR (0, 1, 1, 0, 0, 0) (M' 60 16) from (p _ List.mem_cons_self).1)
    exact Or.inr (Or.inl ⟨this.1, this.2, w.1, w.2⟩)
  · obtain ⟨z2, e2, r⟩ := gW_int (show gW _ _ from q) (Nat.le_of_ble_eq_true rfl)
    cases e2
    have := gR0 r
    have w := gR0 (show gR (0, 1, 1, 0, 0, 0) (M' 60 16) from (p _ List.mem_cons_self).1)
    exact Or.inr (Or.inr ⟨this.1, this.2, w.1, w.2⟩)
theorem nu_M_swap_5 {d : Nat} (hd : 4 ≤ d) {M : pM} {a1 : Int} {a2 : Int} (hM : gM gAll M) (h1 : -2147483648 ≤ a1 ∧ a1 ≤ 2147483647) (h2 : -2147483648 ≤ a2 ∧ a2 ≤ 2147483647) (p0 : 5 ≤ M 60 16 ∧ M 60 16 ≤ 5) : ∃ z M', xF d 245 [.inr 62, .inl a1, .inl a2] M = rI z M' ∧ ((-1 ≤ z ∧ z ≤ -1 ∧ 5 ≤ M' 60 16 ∧ M' 60 16 ≤ 5) ∨ (0 ≤ z ∧ z ≤ 0 ∧ 1 ≤ M' 60 16 ∧ M' 60 16 ≤ 1) ∨ (1 ≤ z ∧ z ≤ 1 ∧ 1 ≤ M' 60 16 ∧ M' 60 16 ≤ 1)) := by
  have c0 : cOK gAll (xF d) 245 K_857 := (ct_of (d := d) ct_ok (show K_857 ∈ CT.getD 245 [] from (show CT.getD 245 [] = [K_852, K_853, K_854, K_855, K_856, K_857, K_858, K_859, K_860, K_861, K_862, K_863, K_571] from rfl) ▸ by simp) hd)
  obtain ⟨z, M', e, -, -, alt, ha, q, p⟩ := cOK_I c0 (A := [.inr 62, .inl a1, .inl a2]) (show aF2 gW [aRef 62, (0, -2147483648, 2147483647, 0, 0, 0), (0, -2147483648, 2147483647, 0, 0, 0)] [.inr 62, .inl a1, .inl a2] from ⟨gW_o, gW_i h1.1 h1.2, gW_i h2.1 h2.2, trivial⟩) hM (show gP0 [(60, 16, (0, 5, 5, 0, 0, 0))] M from fun e he => by
    simp only [List.mem_cons, List.not_mem_nil, or_false] at he
    rcases he with rfl
    · exact gR_i p0.1 p0.2) rfl
  refine ⟨z, M', e, ?_⟩
  have ha : alt ∈ [(some (0, -1, -1, 0, 0, 0), [], [(60, 16, (0, 5, 5, 0, 0, 0)), (60, 17, (0, 0, 0, 0, 0, 0))]), (some (0, 0, 0, 0, 0, 0), [(4, 0, 0, 0, 0, 0), (0, 0, 5, 0, 0, 0), (0, 0, 5, 0, 0, 0)], [(60, 16, (0, 1, 1, 0, 0, 0)), (60, 17, (0, 0, 0, 0, 0, 0)), (69, 0, (0, -2147483648, 2147483647, 0, 0, 0))]), (some (0, 1, 1, 0, 0, 0), [(4, 0, 0, 0, 0, 0), (0, 0, 5, 0, 0, 0), (0, 0, 5, 0, 0, 0)], [(60, 16, (0, 1, 1, 0, 0, 0)), (60, 17, (0, 0, 0, 0, 0, 0)), (69, 0, (0, -2147483648, 2147483647, 0, 0, 0))])] := ha
  simp only [List.mem_cons, List.not_mem_nil, or_false] at ha
  rcases ha with rfl | rfl | rfl
  · obtain ⟨z2, e2, r⟩ := gW_int (show gW _ _ from q) (Nat.le_of_ble_eq_true rfl)
    cases e2
    have := gR0 r
    have w := gR0 (show gR (0, 5, 5, 0, 0, 0) (M' 60 16) from (p _ List.mem_cons_self).1)
    exact Or.inl ⟨this.1, this.2, w.1, w.2⟩
  · obtain ⟨z2, e2, r⟩ := gW_int (show gW _ _ from q) (Nat.le_of_ble_eq_true rfl)
    cases e2
    have := gR0 r
    have w := gR0 (show gR (0, 1, 1, 0, 0, 0) (M' 60 16) from (p _ List.mem_cons_self).1)
    exact Or.inr (Or.inl ⟨this.1, this.2, w.1, w.2⟩)
  · obtain ⟨z2, e2, r⟩ := gW_int (show gW _ _ from q) (Nat.le_of_ble_eq_true rfl)
    cases e2
    have := gR0 r
    have w := gR0 (show gR (0, 1, 1, 0, 0, 0) (M' 60 16) from (p _ List.mem_cons_self).1)
    exact Or.inr (Or.inr ⟨this.1, this.2, w.1, w.2⟩)
theorem nu_M_swap_6 {d : Nat} (hd : 4 ≤ d) {M : pM} {a1 : Int} {a2 : Int} (hM : gM gAll M) (h1 : -2147483648 ≤ a1 ∧ a1 ≤ 2147483647) (h2 : -2147483648 ≤ a2 ∧ a2 ≤ 2147483647) (p0 : 6 ≤ M 60 16 ∧ M 60 16 ≤ 6) : ∃ z M', xF d 245 [.inr 62, .inl a1, .inl a2] M = rI z M' ∧ ((-1 ≤ z ∧ z ≤ -1 ∧ 6 ≤ M' 60 16 ∧ M' 60 16 ≤ 6) ∨ (0 ≤ z ∧ z ≤ 0 ∧ 1 ≤ M' 60 16 ∧ M' 60 16 ≤ 1) ∨ (1 ≤ z ∧ z ≤ 1 ∧ 1 ≤ M' 60 16 ∧ M' 60 16 ≤ 1)) := by
  have c0 : cOK gAll (xF d) 245 K_858 := (ct_of (d := d) ct_ok (show K_858 ∈ CT.getD 245 [] from (show CT.getD 245 [] = [K_852, K_853, K_854, K_855, K_856, K_857, K_858, K_859, K_860, K_861, K_862, K_863, K_571] from rfl) ▸ by simp) hd)
  obtain ⟨z, M', e, -, -, alt, ha, q, p⟩ := cOK_I c0 (A := [.inr 62, .inl a1, .inl a2]) (show aF2 gW [aRef 62, (0, -2147483648, 2147483647, 0, 0, 0), (0, -2147483648, 2147483647, 0, 0, 0)] [.inr 62, .inl a1, .inl a2] from ⟨gW_o, gW_i h1.1 h1.2, gW_i h2.1 h2.2, trivial⟩) hM (show gP0 [(60, 16, (0, 6, 6, 0, 0, 0))] M from fun e he => by
    simp only [List.mem_cons, List.not_mem_nil, or_false] at he
    rcases he with rfl
    · exact gR_i p0.1 p0.2) rfl
  refine ⟨z, M', e, ?_⟩
  have ha : alt ∈ [(some (0, -1, -1, 0, 0, 0), [], [(60, 16, (0, 6, 6, 0, 0, 0)), (60, 17, (0, 0, 0, 0, 0, 0))]), (some (0, 0, 0, 0, 0, 0), [(4, 0, 0, 0, 0, 0), (0, 0, 5, 0, 0, 0), (0, 0, 5, 0, 0, 0)], [(60, 16, (0, 1, 1, 0, 0, 0)), (60, 17, (0, 0, 0, 0, 0, 0)), (69, 0, (0, -2147483648, 2147483647, 0, 0, 0))]), (some (0, 1, 1, 0, 0, 0), [(4, 0, 0, 0, 0, 0), (0, 0, 5, 0, 0, 0), (0, 0, 5, 0, 0, 0)], [(60, 16, (0, 1, 1, 0, 0, 0)), (60, 17, (0, 0, 0, 0, 0, 0)), (69, 0, (0, -2147483648, 2147483647, 0, 0, 0))])] := ha
  simp only [List.mem_cons, List.not_mem_nil, or_false] at ha
  rcases ha with rfl | rfl | rfl
  · obtain ⟨z2, e2, r⟩ := gW_int (show gW _ _ from q) (Nat.le_of_ble_eq_true rfl)
    cases e2
    have := gR0 r
    have w := gR0 (show gR (0, 6, 6, 0, 0, 0) (M' 60 16) from (p _ List.mem_cons_self).1)
    exact Or.inl ⟨this.1, this.2, w.1, w.2⟩
  · obtain ⟨z2, e2, r⟩ := gW_int (show gW _ _ from q) (Nat.le_of_ble_eq_true rfl)
    cases e2
    have := gR0 r
    have w := gR0 (show gR (0, 1, 1, 0, 0, 0) (M' 60 16) from (p _ List.mem_cons_self).1)
    exact Or.inr (Or.inl ⟨this.1, this.2, w.1, w.2⟩)
  · obtain ⟨z2, e2, r⟩ := gW_int (show gW _ _ from q) (Nat.le_of_ble_eq_true rfl)
    cases e2
    have := gR0 r
    have w := gR0 (show gR (0, 1, 1, 0, 0, 0) (M' 60 16) from (p _ List.mem_cons_self).1)
    exact Or.inr (Or.inr ⟨this.1, this.2, w.1, w.2⟩)
theorem nu_M_swap_7 {d : Nat} (hd : 4 ≤ d) {M : pM} {a1 : Int} {a2 : Int} (hM : gM gAll M) (h1 : -2147483648 ≤ a1 ∧ a1 ≤ 2147483647) (h2 : -2147483648 ≤ a2 ∧ a2 ≤ 2147483647) (p0 : 7 ≤ M 60 16 ∧ M 60 16 ≤ 7) : ∃ z M', xF d 245 [.inr 62, .inl a1, .inl a2] M = rI z M' ∧ ((-1 ≤ z ∧ z ≤ -1 ∧ 7 ≤ M' 60 16 ∧ M' 60 16 ≤ 7) ∨ (0 ≤ z ∧ z ≤ 0 ∧ 1 ≤ M' 60 16 ∧ M' 60 16 ≤ 1) ∨ (1 ≤ z ∧ z ≤ 1 ∧ 1 ≤ M' 60 16 ∧ M' 60 16 ≤ 1)) := by
  have c0 : cOK gAll (xF d) 245 K_859 := (ct_of (d := d) ct_ok (show K_859 ∈ CT.getD 245 [] from (show CT.getD 245 [] = [K_852, K_853, K_854, K_855, K_856, K_857, K_858, K_859, K_860, K_861, K_862, K_863, K_571] from rfl) ▸ by simp) hd)
  obtain ⟨z, M', e, -, -, alt, ha, q, p⟩ := cOK_I c0 (A := [.inr 62, .inl a1, .inl a2]) (show aF2 gW [aRef 62, (0, -2147483648, 2147483647, 0, 0, 0), (0, -2147483648, 2147483647, 0, 0, 0)] [.inr 62, .inl a1, .inl a2] from ⟨gW_o, gW_i h1.1 h1.2, gW_i h2.1 h2.2, trivial⟩) hM (show gP0 [(60, 16, (0, 7, 7, 0, 0, 0))] M from fun e he => by
    simp only [List.mem_cons, List.not_mem_nil, or_false] at he
    rcases he with rfl
    · exact gR_i p0.1 p0.2) rfl
  refine ⟨z, M', e, ?_⟩
  have ha : alt ∈ [(some (0, -1, -1, 0, 0, 0), [], [(60, 16, (0, 7, 7, 0, 0, 0)), (60, 17, (0, 0, 0, 0, 0, 0))]), (some (0, 0, 0, 0, 0, 0), [(4, 0, 0, 0, 0, 0), (0, 0, 5, 0, 0, 0), (0, 0, 5, 0, 0, 0)], [(60, 16, (0, 1, 1, 0, 0, 0)), (60, 17, (0, 0, 0, 0, 0, 0)), (69, 0, (0, -2147483648, 2147483647, 0, 0, 0))]), (some (0, 1, 1, 0, 0, 0), [(4, 0, 0, 0, 0, 0), (0, 0, 5, 0, 0, 0), (0, 0, 5, 0, 0, 0)], [(60, 16, (0, 1, 1, 0, 0, 0)), (60, 17, (0, 0, 0, 0, 0, 0)), (69, 0, (0, -2147483648, 2147483647, 0, 0, 0))])] := ha
  simp only [List.mem_cons, List.not_mem_nil, or_false] at ha
  rcases ha with rfl | rfl | rfl
  · obtain ⟨z2, e2, r⟩ := gW_int (show gW _ _ from q) (Nat.le_of_ble_eq_true rfl)
    cases e2
    have := gR0 r
    have w := gR0 (show gR (0, 7, 7, 0, 0, 0) (M' 60 16) from (p _ List.mem_cons_self).1)
    exact Or.inl ⟨this.1, this.2, w.1, w.2⟩
  · obtain ⟨z2, e2, r⟩ := gW_int (show gW _ _ from q) (Nat.le_of_ble_eq_true rfl)
    cases e2
    have := gR0 r
    have w := gR0 (show gR (0, 1, 1, 0, 0, 0) (M' 60 16) from (p _ List.mem_cons_self).1)
    exact Or.inr (Or.inl ⟨this.1, this.2, w.1, w.2⟩)
  · obtain ⟨z2, e2, r⟩ := gW_int (show gW _ _ from q) (Nat.le_of_ble_eq_true rfl)
    cases e2
    have := gR0 r
    have w := gR0 (show gR (0, 1, 1, 0, 0, 0) (M' 60 16) from (p _ List.mem_cons_self).1)
    exact Or.inr (Or.inr ⟨this.1, this.2, w.1, w.2⟩)
theorem nu_M_swap_8 {d : Nat} (hd : 4 ≤ d) {M : pM} {a1 : Int} {a2 : Int} (hM : gM gAll M) (h1 : -2147483648 ≤ a1 ∧ a1 ≤ 2147483647) (h2 : -2147483648 ≤ a2 ∧ a2 ≤ 2147483647) (p0 : 8 ≤ M 60 16 ∧ M 60 16 ≤ 8) : ∃ z M', xF d 245 [.inr 62, .inl a1, .inl a2] M = rI z M' ∧ ((-1 ≤ z ∧ z ≤ -1 ∧ 8 ≤ M' 60 16 ∧ M' 60 16 ≤ 8) ∨ (0 ≤ z ∧ z ≤ 0 ∧ 1 ≤ M' 60 16 ∧ M' 60 16 ≤ 1) ∨ (1 ≤ z ∧ z ≤ 1 ∧ 1 ≤ M' 60 16 ∧ M' 60 16 ≤ 1)) := by
  have c0 : cOK gAll (xF d) 245 K_860 := (ct_of (d := d) ct_ok (show K_860 ∈ CT.getD 245 [] from (show CT.getD 245 [] = [K_852, K_853, K_854, K_855, K_856, K_857, K_858, K_859, K_860, K_861, K_862, K_863, K_571] from rfl) ▸ by simp) hd)
  obtain ⟨z, M', e, -, -, alt, ha, q, p⟩ := cOK_I c0 (A := [.inr 62, .inl a1, .inl a2]) (show aF2 gW [aRef 62, (0, -2147483648, 2147483647, 0, 0, 0), (0, -2147483648, 2147483647, 0, 0, 0)] [.inr 62, .inl a1, .inl a2] from ⟨gW_o, gW_i h1.1 h1.2, gW_i h2.1 h2.2, trivial⟩) hM (show gP0 [(60, 16, (0, 8, 8, 0, 0, 0))] M from fun e he => by
    simp only [List.mem_cons, List.not_mem_nil, or_false] at he
    rcases he with rfl
    · exact gR_i p0.1 p0.2) rfl
  refine ⟨z, M', e, ?_⟩
  have ha : alt ∈ [(some (0, -1, -1, 0, 0, 0), [], [(60, 16, (0, 8, 8, 0, 0, 0)), (60, 17, (0, 0, 0, 0, 0, 0))]), (some (0, 0, 0, 0, 0, 0), [(4, 0, 0, 0, 0, 0), (0, 0, 5, 0, 0, 0), (0, 0, 5, 0, 0, 0)], [(60, 16, (0, 1, 1, 0, 0, 0)), (60, 17, (0, 0, 0, 0, 0, 0)), (69, 0, (0, -2147483648, 2147483647, 0, 0, 0))]), (some (0, 1, 1, 0, 0, 0), [(4, 0, 0, 0, 0, 0), (0, 0, 5, 0, 0, 0), (0, 0, 5, 0, 0, 0)], [(60, 16, (0, 1, 1, 0, 0, 0)), (60, 17, (0, 0, 0, 0, 0, 0)), (69, 0, (0, -2147483648, 2147483647, 0, 0, 0))])] := ha
  simp only [List.mem_cons, List.not_mem_nil, or_false] at ha
  rcases ha with rfl | rfl | rfl
  · obtain ⟨z2, e2, r⟩ := gW_int (show gW _ _ from q) (Nat.le_of_ble_eq_true rfl)
    cases e2
    have := gR0 r
    have w := gR0 (show gR (0, 8, 8, 0, 0, 0) (M' 60 16) from (p _ List.mem_cons_self).1)
    exact Or.inl ⟨this.1, this.2, w.1, w.2⟩
  · obtain ⟨z2, e2, r⟩ := gW_int (show gW _ _ from q) (Nat.le_of_ble_eq_true rfl)
    cases e2
    have := gR0 r
    have w := gR0 (show gR (0, 1, 1, 0, 0, 0) (M' 60 16) from (p _ List.mem_cons_self).1)
    exact Or.inr (Or.inl ⟨this.1, this.2, w.1, w.2⟩)
  · obtain ⟨z2, e2, r⟩ := gW_int (show gW _ _ from q) (Nat.le_of_ble_eq_true rfl)
    cases e2
    have := gR0 r
    have w := gR0 (show gR (0, 1, 1, 0, 0, 0) (M' 60 16) from (p _ List.mem_cons_self).1)
    exact Or.inr (Or.inr ⟨this.1, this.2, w.1, w.2⟩)
theorem nu_M_swap_9 {d : Nat} (hd : 4 ≤ d) {M : pM} {a1 : Int} {a2 : Int} (hM : gM gAll M) (h1 : -2147483648 ≤ a1 ∧ a1 ≤ 2147483647) (h2 : -2147483648 ≤ a2 ∧ a2 ≤ 2147483647) (p0 : 9 ≤ M 60 16 ∧ M 60 16 ≤ 9) : ∃ z M', xF d 245 [.inr 62, .inl a1, .inl a2] M = rI z M' ∧ ((-1 ≤ z ∧ z ≤ -1 ∧ 9 ≤ M' 60 16 ∧ M' 60 16 ≤ 9) ∨ (0 ≤ z ∧ z ≤ 0 ∧ 1 ≤ M' 60 16 ∧ M' 60 16 ≤ 1) ∨ (1 ≤ z ∧ z ≤ 1 ∧ 1 ≤ M' 60 16 ∧ M' 60 16 ≤ 1)) := by
  have c0 : cOK gAll (xF d) 245 K_861 := (ct_of (d := d) ct_ok (show K_861 ∈ CT.getD 245 [] from (show CT.getD 245 [] = [K_852, K_853, K_854, K_855, K_856, K_857, K_858, K_859, K_860, K_861, K_862, K_863, K_571] from rfl) ▸ by simp) hd)
  obtain ⟨z, M', e, -, -, alt, ha, q, p⟩ := cOK_I c0 (A := [.inr 62, .inl a1, .inl a2]) (show aF2 gW [aRef 62, (0, -2147483648, 2147483647, 0, 0, 0), (0, -2147483648, 2147483647, 0, 0, 0)] [.inr 62, .inl a1, .inl a2] from ⟨gW_o, gW_i h1.1 h1.2, gW_i h2.1 h2.2, trivial⟩) hM (show gP0 [(60, 16, (0, 9, 9, 0, 0, 0))] M from fun e he => by
    simp only [List.mem_cons, List.not_mem_nil, or_false] at he
    rcases he with rfl
    · exact gR_i p0.1 p0.2) rfl
  refine ⟨z, M', e, ?_⟩
  have ha : alt ∈ [(some (0, -1, -1, 0, 0, 0), [], [(60, 16, (0, 9, 9, 0, 0, 0)), (60, 17, (0, 0, 0, 0, 0, 0))]), (some (0, 0, 0, 0, 0, 0), [(4, 0, 0, 0, 0, 0), (0, 0, 5, 0, 0, 0), (0, 0, 5, 0, 0, 0)], [(60, 16, (0, 1, 1, 0, 0, 0)), (60, 17, (0, 0, 0, 0, 0, 0)), (69, 0, (0, -2147483648, 2147483647, 0, 0, 0))]), (some (0, 1, 1, 0, 0, 0), [(4, 0, 0, 0, 0, 0), (0, 0, 5, 0, 0, 0), (0, 0, 5, 0, 0, 0)], [(60, 16, (0, 1, 1, 0, 0, 0)), (60, 17, (0, 0, 0, 0, 0, 0)), (69, 0, (0, -2147483648, 2147483647, 0, 0, 0))])] := ha
  simp only [List.mem_cons, List.not_mem_nil, or_false] at ha
  rcases ha with rfl | rfl | rfl
  · obtain ⟨z2, e2, r⟩ := gW_int (show gW _ _ from q) (Nat.le_of_ble_eq_true rfl)
    cases e2
    have := gR0 r
    have w := gR0 (show gR (0, 9, 9, 0, 0, 0) (M' 60 16) from (p _ List.mem_cons_self).1)
    exact Or.inl ⟨this.1, this.2, w.1, w.2⟩
  · obtain ⟨z2, e2, r⟩ := gW_int (show gW _ _ from q) (Nat.le_of_ble_eq_true rfl)
    cases e2
    have := gR0 r
    have w := gR0 (show gR (0, 1, 1, 0, 0, 0) (M' 60 16) from (p _ List.mem_cons_self).1)
    exact Or.inr (Or.inl ⟨this.1, this.2, w.1, w.2⟩)
  · obtain ⟨z2, e2, r⟩ := gW_int (show gW _ _ from q) (Nat.le_of_ble_eq_true rfl)
    cases e2
    have := gR0 r
    have w := gR0 (show gR (0, 1, 1, 0, 0, 0) (M' 60 16) from (p _ List.mem_cons_self).1)
    exact Or.inr (Or.inr ⟨this.1, this.2, w.1, w.2⟩)
theorem nu_M_swap_10 {d : Nat} (hd : 4 ≤ d) {M : pM} {a1 : Int} {a2 : Int} (hM : gM gAll M) (h1 : -2147483648 ≤ a1 ∧ a1 ≤ 2147483647) (h2 : -2147483648 ≤ a2 ∧ a2 ≤ 2147483647) (p0 : 10 ≤ M 60 16 ∧ M 60 16 ≤ 10) : ∃ z M', xF d 245 [.inr 62, .inl a1, .inl a2] M = rI z M' ∧ ((-1 ≤ z ∧ z ≤ -1 ∧ 10 ≤ M' 60 16 ∧ M' 60 16 ≤ 10) ∨ (0 ≤ z ∧ z ≤ 0 ∧ 1 ≤ M' 60 16 ∧ M' 60 16 ≤ 1) ∨ (1 ≤ z ∧ z ≤ 1 ∧ 1 ≤ M' 60 16 ∧ M' 60 16 ≤ 1)) := by
  have c0 : cOK gAll (xF d) 245 K_862 := (ct_of (d := d) ct_ok (show K_862 ∈ CT.getD 245 [] from (show CT.getD 245 [] = [K_852, K_853, K_854, K_855, K_856, K_857, K_858, K_859, K_860, K_861, K_862, K_863, K_571] from rfl) ▸ by simp) hd)
  obtain ⟨z, M', e, -, -, alt, ha, q, p⟩ := cOK_I c0 (A := [.inr 62, .inl a1, .inl a2]) (show aF2 gW [aRef 62, (0, -2147483648, 2147483647, 0, 0, 0), (0, -2147483648, 2147483647, 0, 0, 0)] [.inr 62, .inl a1, .inl a2] from ⟨gW_o, gW_i h1.1 h1.2, gW_i h2.1 h2.2, trivial⟩) hM (show gP0 [(60, 16, (0, 10, 10, 0, 0, 0))] M from fun e he => by
    simp only [List.mem_cons, List.not_mem_nil, or_false] at he
    rcases he with rfl
    · exact gR_i p0.1 p0.2) rfl
  refine ⟨z, M', e, ?_⟩
  have ha : alt ∈ [(some (0, -1, -1, 0, 0, 0), [], [(60, 16, (0, 10, 10, 0, 0, 0)), (60, 17, (0, 0, 0, 0, 0, 0))]), (some (0, 0, 0, 0, 0, 0), [(4, 0, 0, 0, 0, 0), (0, 0, 5, 0, 0, 0), (0, 0, 5, 0, 0, 0)], [(60, 16, (0, 1, 1, 0, 0, 0)), (60, 17, (0, 0, 0, 0, 0, 0)), (69, 0, (0, -2147483648, 2147483647, 0, 0, 0))]), (some (0, 1, 1, 0, 0, 0), [(4, 0, 0, 0, 0, 0), (0, 0, 5, 0, 0, 0), (0, 0, 5, 0, 0, 0)], [(60, 16, (0, 1, 1, 0, 0, 0)), (60, 17, (0, 0, 0, 0, 0, 0)), (69, 0, (0, -2147483648, 2147483647, 0, 0, 0))])] := ha
  simp only [List.mem_cons, List.not_mem_nil, or_false] at ha
  rcases ha with rfl | rfl | rfl
  · obtain ⟨z2, e2, r⟩ := gW_int (show gW _ _ from q) (Nat.le_of_ble_eq_true rfl)
    cases e2
    have := gR0 r
    have w := gR0 (show gR (0, 10, 10, 0, 0, 0) (M' 60 16) from (p _ List.mem_cons_self).1)
    exact Or.inl ⟨this.1, this.2, w.1, w.2⟩
  · obtain ⟨z2, e2, r⟩ := gW_int (show gW _ _ from q) (Nat.le_of_ble_eq_true rfl)
    cases e2
    have := gR0 r
    have w := gR0 (show gR (0, 1, 1, 0, 0, 0) (M' 60 16) from (p _ List.mem_cons_self).1)
    exact Or.inr (Or.inl ⟨this.1, this.2, w.1, w.2⟩)
  · obtain ⟨z2, e2, r⟩ := gW_int (show gW _ _ from q) (Nat.le_of_ble_eq_true rfl)
    cases e2
    have := gR0 r
    have w := gR0 (show gR (0, 1, 1, 0, 0, 0) (M' 60 16) from (p _ List.mem_cons_self).1)
    exact Or.inr (Or.inr ⟨this.1, this.2, w.1, w.2⟩)
theorem nu_M_swap_11 {d : Nat} (hd : 4 ≤ d) {M : pM} {a1 : Int} {a2 : Int} (hM : gM gAll M) (h1 : -2147483648 ≤ a1 ∧ a1 ≤ 2147483647) (h2 : -2147483648 ≤ a2 ∧ a2 ≤ 2147483647) (p0 : 11 ≤ M 60 16 ∧ M 60 16 ≤ 11) : ∃ z M', xF d 245 [.inr 62, .inl a1, .inl a2] M = rI z M' ∧ ((-1 ≤ z ∧ z ≤ -1 ∧ 11 ≤ M' 60 16 ∧ M' 60 16 ≤ 11) ∨ (0 ≤ z ∧ z ≤ 0 ∧ 1 ≤ M' 60 16 ∧ M' 60 16 ≤ 1) ∨ (1 ≤ z ∧ z ≤ 1 ∧ 1 ≤ M' 60 16 ∧ M' 60 16 ≤ 1)) := by
  have c0 : cOK gAll (xF d) 245 K_863 := (ct_of (d := d) ct_ok (show K_863 ∈ CT.getD 245 [] from (show CT.getD 245 [] = [K_852, K_853, K_854, K_855, K_856, K_857, K_858, K_859, K_860, K_861, K_862, K_863, K_571] from rfl) ▸ by simp) hd)
  obtain ⟨z, M', e, -, -, alt, ha, q, p⟩ := cOK_I c0 (A := [.inr 62, .inl a1, .inl a2]) (show aF2 gW [aRef 62, (0, -2147483648, 2147483647, 0, 0, 0), (0, -2147483648, 2147483647, 0, 0, 0)] [.inr 62, .inl a1, .inl a2] from ⟨gW_o, gW_i h1.1 h1.2, gW_i h2.1 h2.2, trivial⟩) hM (show gP0 [(60, 16, (0, 11, 11, 0, 0, 0))] M from fun e he => by
    simp only [List.mem_cons, List.not_mem_nil, or_false] at he
    rcases he with rfl
    · exact gR_i p0.1 p0.2) rfl
  refine ⟨z, M', e, ?_⟩
  have ha : alt ∈ [(some (0, -1, -1, 0, 0, 0), [], [(60, 16, (0, 11, 11, 0, 0, 0)), (60, 17, (0, 0, 0, 0, 0, 0))]), (some (0, 0, 0, 0, 0, 0), [(4, 0, 0, 0, 0, 0), (0, 0, 5, 0, 0, 0), (0, 0, 5, 0, 0, 0)], [(60, 16, (0, 1, 1, 0, 0, 0)), (60, 17, (0, 0, 0, 0, 0, 0)), (69, 0, (0, -2147483648, 2147483647, 0, 0, 0))]), (some (0, 1, 1, 0, 0, 0), [(4, 0, 0, 0, 0, 0), (0, 0, 5, 0, 0, 0), (0, 0, 5, 0, 0, 0)], [(60, 16, (0, 1, 1, 0, 0, 0)), (60, 17, (0, 0, 0, 0, 0, 0)), (69, 0, (0, -2147483648, 2147483647, 0, 0, 0))])] := ha
  simp only [List.mem_cons, List.not_mem_nil, or_false] at ha
  rcases ha with rfl | rfl | rfl
  · obtain ⟨z2, e2, r⟩ := gW_int (show gW _ _ from q) (Nat.le_of_ble_eq_true rfl)
    cases e2
    have := gR0 r
    have w := gR0 (show gR (0, 11, 11, 0, 0, 0) (M' 60 16) from (p _ List.mem_cons_self).1)
    exact Or.inl ⟨this.1, this.2, w.1, w.2⟩
  · obtain ⟨z2, e2, r⟩ := gW_int (show gW _ _ from q) (Nat.le_of_ble_eq_true rfl)
    cases e2
    have := gR0 r
    have w := gR0 (show gR (0, 1, 1, 0, 0, 0) (M' 60 16) from (p _ List.mem_cons_self).1)
    exact Or.inr (Or.inl ⟨this.1, this.2, w.1, w.2⟩)
  · obtain ⟨z2, e2, r⟩ := gW_int (show gW _ _ from q) (Nat.le_of_ble_eq_true rfl)
    cases e2
    have := gR0 r
    have w := gR0 (show gR (0, 1, 1, 0, 0, 0) (M' 60 16) from (p _ List.mem_cons_self).1)
    exact Or.inr (Or.inr ⟨this.1, this.2, w.1, w.2⟩)
theorem nu_M_swap {d : Nat} (hd : 4 ≤ d) {M M' : pM} {a1 : Int} {a2 : Int} {v : Int} (hM : gM gAll M) (h1 : -2147483648 ≤ a1 ∧ a1 ≤ 2147483647) (h2 : -2147483648 ≤ a2 ∧ a2 ≤ 2147483647) {n : Nat} (hn : n ≤ 11) (hc : M 60 16 = (n : Int)) (e : xF d 245 [.inr 62, .inl a1, .inl a2] M = rI v M') : (-1 ≤ v ∧ v ≤ -1 ∧ M' 60 16 = (n : Int)) ∨ (0 ≤ v ∧ v ≤ 0 ∧ M' 60 16 = 1) ∨ (1 ≤ v ∧ v ≤ 1 ∧ M' 60 16 = 1) := by
  rcases (show n = 0 ∨ n = 1 ∨ n = 2 ∨ n = 3 ∨ n = 4 ∨ n = 5 ∨ n = 6 ∨ n = 7 ∨ n = 8 ∨ n = 9 ∨ n = 10 ∨ n = 11 by omega) with rfl | rfl | rfl | rfl | rfl | rfl | rfl | rfl | rfl | rfl | rfl | rfl
  · obtain ⟨z, M2, e2, r⟩ := nu_M_swap_0 (d := d) (by omega) hM h1 h2 (by omega)
    obtain ⟨y1, y2⟩ := rI_inj (e.symm.trans e2)
    rw [y1, y2]
    rcases r with r | r | r
    · exact Or.inl (by omega)
    · exact Or.inr (Or.inl (by omega))
    · exact Or.inr (Or.inr ((by omega)))
  · obtain ⟨z, M2, e2, r⟩ := nu_M_swap_1 (d := d) (by omega) hM h1 h2 (by omega)
    obtain ⟨y1, y2⟩ := rI_inj (e.symm.trans e2)
    rw [y1, y2]
    rcases r with r | r | r
    · exact Or.inl (by omega)
    · exact Or.inr (Or.inl (by omega))
    · exact Or.inr (Or.inr ((by omega)))
  · obtain ⟨z, M2, e2, r⟩ := nu_M_swap_2 (d := d) (by omega) hM h1 h2 (by omega)
    obtain ⟨y1, y2⟩ := rI_inj (e.symm.trans e2)
    rw [y1, y2]
    rcases r with r | r | r
    · exact Or.inl (by omega)
    · exact Or.inr (Or.inl (by omega))
    · exact Or.inr (Or.inr ((by omega)))
  · obtain ⟨z, M2, e2, r⟩ := nu_M_swap_3 (d := d) (by omega) hM h1 h2 (by omega)
    obtain ⟨y1, y2⟩ := rI_inj (e.symm.trans e2)
    rw [y1, y2]
    rcases r with r | r | r
    · exact Or.inl (by omega)
    · exact Or.inr (Or.inl (by omega))
    · exact Or.inr (Or.inr ((by omega)))
  · obtain ⟨z, M2, e2, r⟩ := nu_M_swap_4 (d := d) (by omega) hM h1 h2 (by omega)
    obtain ⟨y1, y2⟩ := rI_inj (e.symm.trans e2)
    rw [y1, y2]
    rcases r with r | r | r
    · exact Or.inl (by omega)
    · exact Or.inr (Or.inl (by omega))
    · exact Or.inr (Or.inr ((by omega)))
  · obtain ⟨z, M2, e2, r⟩ := nu_M_swap_5 (d := d) (by omega) hM h1 h2 (by omega)
    obtain ⟨y1, y2⟩ := rI_inj (e.symm.trans e2)
    rw [y1, y2]
    rcases r with r | r | r
    · exact Or.inl (by omega)
    · exact Or.inr (Or.inl (by omega))
    · exact Or.inr (Or.inr ((by omega)))
  · obtain ⟨z, M2, e2, r⟩ := nu_M_swap_6 (d := d) (by omega) hM h1 h2 (by omega)
    obtain ⟨y1, y2⟩ := rI_inj (e.symm.trans e2)
    rw [y1, y2]
    rcases r with r | r | r
    · exact Or.inl (by omega)
    · exact Or.inr (Or.inl (by omega))
    · exact Or.inr (Or.inr ((by omega)))
  · obtain ⟨z, M2, e2, r⟩ := nu_M_swap_7 (d := d) (by omega) hM h1 h2 (by omega)
    obtain ⟨y1, y2⟩ := rI_inj (e.symm.trans e2)
    rw [y1, y2]
    rcases r with r | r | r
    · exact Or.inl (by omega)
    · exact Or.inr (Or.inl (by omega))
    · exact Or.inr (Or.inr ((by omega)))
  · obtain ⟨z, M2, e2, r⟩ := nu_M_swap_8 (d := d) (by omega) hM h1 h2 (by omega)
    obtain ⟨y1, y2⟩ := rI_inj (e.symm.trans e2)
    rw [y1, y2]
    rcases r with r | r | r
    · exact Or.inl (by omega)
    · exact Or.inr (Or.inl (by omega))
    · exact Or.inr (Or.inr ((by omega)))
  · obtain ⟨z, M2, e2, r⟩ := nu_M_swap_9 (d := d) (by omega) hM h1 h2 (by omega)
    obtain ⟨y1, y2⟩ := rI_inj (e.symm.trans e2)
    rw [y1, y2]
    rcases r with r | r | r
    · exact Or.inl (by omega)
    · exact Or.inr (Or.inl (by omega))
    · exact Or.inr (Or.inr ((by omega)))
  · obtain ⟨z, M2, e2, r⟩ := nu_M_swap_10 (d := d) (by omega) hM h1 h2 (by omega)
    obtain ⟨y1, y2⟩ := rI_inj (e.symm.trans e2)
    rw [y1, y2]
    rcases r with r | r | r
    · exact Or.inl (by omega)
    · exact Or.inr (Or.inl (by omega))
    · exact Or.inr (Or.inr ((by omega)))
  · obtain ⟨z, M2, e2, r⟩ := nu_M_swap_11 (d := d) (by omega) hM h1 h2 (by omega)
    obtain ⟨y1, y2⟩ := rI_inj (e.symm.trans e2)
    rw [y1, y2]
    rcases r with r | r | r
    · exact Or.inl (by omega)
    · exact Or.inr (Or.inl (by omega))
    · exact Or.inr (Or.inr ((by omega)))
theorem nu_M_apart_0 {d : Nat} (hd : 4 ≤ d) {M : pM} (hM : gM gAll M) (p0 : 0 ≤ M 60 16 ∧ M 60 16 ≤ 0) : ∃ z M', xF d 257 [.inr 62] M = rI z M' ∧ ((-2 ≤ z ∧ z ≤ -2 ∧ 0 ≤ M' 60 16 ∧ M' 60 16 ≤ 0) ∨ (-4 ≤ z ∧ z ≤ -4 ∧ 0 ≤ M' 60 16 ∧ M' 60 16 ≤ 0) ∨ (0 ≤ z ∧ z ≤ 0 ∧ 1 ≤ M' 60 16 ∧ M' 60 16 ≤ 1) ∨ (0 ≤ z ∧ z ≤ 999999 ∧ 1 ≤ M' 60 16 ∧ M' 60 16 ≤ 1)) := by
  have c0 : cOK gAll (xF d) 257 K_864 := (ct_of (d := d) ct_ok (show K_864 ∈ CT.getD 257 [] from (show CT.getD 257 [] = [K_864, K_865, K_866, K_867, K_868, K_869, K_870, K_871, K_872, K_873, K_874, K_875, K_589] from rfl) ▸ by simp) hd)
  obtain ⟨z, M', e, -, -, alt, ha, q, p⟩ := cOK_I c0 (A := [.inr 62]) (show aF2 gW [aRef 62] [.inr 62] from ⟨gW_o, trivial⟩) hM (show gP0 [(60, 16, (0, 0, 0, 0, 0, 0))] M from fun e he => by
    simp only [List.mem_cons, List.not_mem_nil, or_false] at he
    rcases he with rfl
    · exact gR_i p0.1 p0.2) rfl
  refine ⟨z, M', e, ?_⟩
  have ha : alt ∈ [(some (0, -2, -2, 0, 0, 0), [], [(60, 3, (0, 1, 10, 0, 0, 0)), (60, 16, (0, 0, 0, 0, 0, 0)), (60, 17, (0, 0, 0, 0, 0, 0)), (60, 44, (0, 1, 1, 0, 0, 0))]), (some (0, -4, -4, 0, 0, 0), [], [(60, 16, (0, 0, 0, 0, 0, 0)), (60, 17, (0, 0, 0, 0, 0, 0))]), (some (0, 0, 0, 0, 0, 0), [], [(60, 3, (0, 0, 0, 0, 0, 0)), (60, 16, (0, 1, 1, 0, 0, 0)), (60, 17, (0, 0, 0, 0, 0, 0)), (60, 44, (0, 1, 1, 0, 0, 0)), (69, 0, (0, -2147483648, 2147483647, 0, 0, 0))]), (some (0, 0, 999999, 0, 0, 0), [], [(60, 3, (0, 1, 10, 0, 0, 0)), (60, 16, (0, 1, 1, 0, 0, 0)), (60, 17, (0, 0, 0, 0, 0, 0)), (60, 44, (0, 1, 1, 0, 0, 0)), (69, 0, (0, -2147483648, 2147483647, 0, 0, 0))])] := ha
  simp only [List.mem_cons, List.not_mem_nil, or_false] at ha
  rcases ha with rfl | rfl | rfl | rfl
  · obtain ⟨z2, e2, r⟩ := gW_int (show gW _ _ from q) (Nat.le_of_ble_eq_true rfl)
    cases e2
    have := gR0 r
    have w := gR0 (show gR (0, 0, 0, 0, 0, 0) (M' 60 16) from (p _ (List.mem_cons_of_mem _ List.mem_cons_self)).1)
    exact Or.inl ⟨this.1, this.2, w.1, w.2⟩
  · obtain ⟨z2, e2, r⟩ := gW_int (show gW _ _ from q) (Nat.le_of_ble_eq_true rfl)
    cases e2
    have := gR0 r
    have w := gR0 (show gR (0, 0, 0, 0, 0, 0) (M' 60 16) from (p _ List.mem_cons_self).1)
    exact Or.inr (Or.inl ⟨this.1, this.2, w.1, w.2⟩)
  · obtain ⟨z2, e2, r⟩ := gW_int (show gW _ _ from q) (Nat.le_of_ble_eq_true rfl)
    cases e2
    have := gR0 r
    have w := gR0 (show gR (0, 1, 1, 0, 0, 0) (M' 60 16) from (p _ (List.mem_cons_of_mem _ List.mem_cons_self)).1)
    exact Or.inr (Or.inr (Or.inl ⟨this.1, this.2, w.1, w.2⟩))
  · obtain ⟨z2, e2, r⟩ := gW_int (show gW _ _ from q) (Nat.le_of_ble_eq_true rfl)
    cases e2
    have := gR0 r
    have w := gR0 (show gR (0, 1, 1, 0, 0, 0) (M' 60 16) from (p _ (List.mem_cons_of_mem _ List.mem_cons_self)).1)
    exact Or.inr (Or.inr (Or.inr ⟨this.1, this.2, w.1, w.2⟩))
theorem nu_M_apart_1 {d : Nat} (hd : 4 ≤ d) {M : pM} (hM : gM gAll M) (p0 : 1 ≤ M 60 16 ∧ M 60 16 ≤ 1) : ∃ z M', xF d 257 [.inr 62] M = rI z M' ∧ ((-2 ≤ z ∧ z ≤ -2 ∧ 1 ≤ M' 60 16 ∧ M' 60 16 ≤ 1) ∨ (-4 ≤ z ∧ z ≤ -4 ∧ 1 ≤ M' 60 16 ∧ M' 60 16 ≤ 1) ∨ (0 ≤ z ∧ z ≤ 0 ∧ 1 ≤ M' 60 16 ∧ M' 60 16 ≤ 1) ∨ (0 ≤ z ∧ z ≤ 999999 ∧ 1 ≤ M' 60 16 ∧ M' 60 16 ≤ 1)) := by
  have c0 : cOK gAll (xF d) 257 K_865 := (ct_of (d := d) ct_ok (show K_865 ∈ CT.getD 257 [] from (show CT.getD 257 [] = [K_864, K_865, K_866, K_867, K_868, K_869, K_870, K_871, K_872, K_873, K_874, K_875, K_589] from rfl) ▸ by simp) hd)
  obtain ⟨z, M', e, -, -, alt, ha, q, p⟩ := cOK_I c0 (A := [.inr 62]) (show aF2 gW [aRef 62] [.inr 62] from ⟨gW_o, trivial⟩) hM (show gP0 [(60, 16, (0, 1, 1, 0, 0, 0))] M from fun e he => by
    simp only [List.mem_cons, List.not_mem_nil, or_false] at he
    rcases he with rfl
    · exact gR_i p0.1 p0.2) rfl
  refine ⟨z, M', e, ?_⟩
  have ha : alt ∈ [(some (0, -2, -2, 0, 0, 0), [], [(60, 3, (0, 1, 10, 0, 0, 0)), (60, 16, (0, 1, 1, 0, 0, 0)), (60, 17, (0, 0, 0, 0, 0, 0)), (60, 44, (0, 1, 1, 0, 0, 0))]), (some (0, -4, -4, 0, 0, 0), [], [(60, 16, (0, 1, 1, 0, 0, 0)), (60, 17, (0, 0, 0, 0, 0, 0))]), (some (0, 0, 0, 0, 0, 0), [], [(60, 3, (0, 0, 0, 0, 0, 0)), (60, 16, (0, 1, 1, 0, 0, 0)), (60, 17, (0, 0, 0, 0, 0, 0)), (60, 44, (0, 1, 1, 0, 0, 0)), (69, 0, (0, -2147483648, 2147483647, 0, 0, 0))]), (some (0, 0, 999999, 0, 0, 0), [], [(60, 3, (0, 1, 10, 0, 0, 0)), (60, 16, (0, 1, 1, 0, 0, 0)), (60, 17, (0, 0, 0, 0, 0, 0)), (60, 44, (0, 1, 1, 0, 0, 0)), (69, 0, (0, -2147483648, 2147483647, 0, 0, 0))])] := ha
  simp only [List.mem_cons, List.not_mem_nil, or_false] at ha
  rcases ha with rfl | rfl | rfl | rfl
  · obtain ⟨z2, e2, r⟩ := gW_int (show gW _ _ from q) (Nat.le_of_ble_eq_true rfl)
    cases e2
    have := gR0 r
    have w := gR0 (show gR (0, 1, 1, 0, 0, 0) (M' 60 16) from (p _ (List.mem_cons_of_mem _ List.mem_cons_self)).1)
    exact Or.inl ⟨this.1, this.2, w.1, w.2⟩
  · obtain ⟨z2, e2, r⟩ := gW_int (show gW _ _ from q) (Nat.le_of_ble_eq_true rfl)
    cases e2
    have := gR0 r
    have w := gR0 (show gR (0, 1, 1, 0, 0, 0) (M' 60 16) from (p _ List.mem_cons_self).1)
    exact Or.inr (Or.inl ⟨this.1, this.2, w.1, w.2⟩)
  · obtain ⟨z2, e2, r⟩ := gW_int (show gW _ _ from q) (Nat.le_of_ble_eq_true rfl)
    cases e2
    have := gR0 r
    have w := gR0 (show gR (0, 1, 1, 0, 0, 0) (M' 60 16) from (p _ (List.mem_cons_of_mem _ List.mem_cons_self)).1)
    exact Or.inr (Or.inr (Or.inl ⟨this.1, this.2, w.1, w.2⟩))
  · obtain ⟨z2, e2, r⟩ := gW_int (show gW _ _ from q) (Nat.le_of_ble_eq_true rfl)
    cases e2
    have := gR0 r
    have w := gR0 (show gR (0, 1, 1, 0, 0, 0) (M' 60 16) from (p _ (List.mem_cons_of_mem _ List.mem_cons_self)).1)
    exact Or.inr (Or.inr (Or.inr ⟨this.1, this.2, w.1, w.2⟩))
theorem nu_M_apart_2 {d : Nat} (hd : 4 ≤ d) {M : pM} (hM : gM gAll M) (p0 : 2 ≤ M 60 16 ∧ M 60 16 ≤ 2) : ∃ z M', xF d 257 [.inr 62] M = rI z M' ∧ ((-2 ≤ z ∧ z ≤ -2 ∧ 2 ≤ M' 60 16 ∧ M' 60 16 ≤ 2) ∨ (-4 ≤ z ∧ z ≤ -4 ∧ 2 ≤ M' 60 16 ∧ M' 60 16 ≤ 2) ∨ (0 ≤ z ∧ z ≤ 0 ∧ 1 ≤ M' 60 16 ∧ M' 60 16 ≤ 1) ∨ (0 ≤ z ∧ z ≤ 999999 ∧ 1 ≤ M' 60 16 ∧ M' 60 16 ≤ 1)) := by
  have c0 : cOK gAll (xF d) 257 K_866 := (ct_of (d := d) ct_ok (show K_866 ∈ CT.getD 257 [] from (show CT.getD 257 [] = [K_864, K_865, K_866, K_867, K_868, K_869, K_870, K_871, K_872, K_873, K_874, K_875, K_589] from rfl) ▸ by simp) hd)
  obtain ⟨z, M', e, -, -, alt, ha, q, p⟩ := cOK_I c0 (A := [.inr 62]) (show aF2 gW [aRef 62] [.inr 62] from ⟨gW_o, trivial⟩) hM (show gP0 [(60, 16, (0, 2, 2, 0, 0, 0))] M from fun e he => by
    simp only [List.mem_cons, List.not_mem_nil, or_false] at he
    rcases he with rfl
    · exact gR_i p0.1 p0.2) rfl
  refine ⟨z, M', e, ?_⟩
  have ha : alt ∈ [(some (0, -2, -2, 0, 0, 0), [], [(60, 3, (0, 1, 10, 0, 0, 0)), (60, 16, (0, 2, 2, 0, 0, 0)), (60, 17, (0, 0, 0, 0, 0, 0)), (60, 44, (0, 1, 1, 0, 0, 0))]), (some (0, -4, -4, 0, 0, 0), [], [(60, 16, (0, 2, 2, 0, 0, 0)), (60, 17, (0, 0, 0, 0, 0, 0))]), (some (0, 0, 0, 0, 0, 0), [], [(60, 3, (0, 0, 0, 0, 0, 0)), (60, 16, (0, 1, 1, 0, 0, 0)), (60, 17, (0, 0, 0, 0, 0, 0)), (60, 44, (0, 1, 1, 0, 0, 0)), (69, 0, (0, -2147483648, 2147483647, 0, 0, 0))]), (some (0, 0, 999999, 0, 0, 0), [], [(60, 3, (0, 1, 10, 0, 0, 0)), (60, 16, (0, 1, 1, 0, 0, 0)), (60, 17, (0, 0, 0, 0, 0, 0)), (60, 44, (0, 1, 1, 0, 0, 0)), (69, 0, (0, -2147483648, 2147483647, 0, 0, 0))])] := ha
  simp only [List.mem_cons, List.not_mem_nil, or_false] at ha
  rcases ha with rfl | rfl | rfl | rfl
  · obtain ⟨z2, e2, r⟩ := gW_int (show gW _ _ from q) (Nat.le_of_ble_eq_true rfl)
    cases e2
    have := gR0 r
    have w := gR0 (show gR (0, 2, 2, 0, 0, 0) (M' 60 16) from (p _ (List.mem_cons_of_mem _ List.mem_cons_self)).1)
    exact Or.inl ⟨this.1, this.2, w.1, w.2⟩
  · obtain ⟨z2, e2, r⟩ := gW_int (show gW _ _ from q) (Nat.le_of_ble_eq_true rfl)
    cases e2
    have := gR0 r
    have w := gR0 (show gR (0, 2, 2, 0, 0, 0) (M' 60 16) from (p _ List.mem_cons_self).1)
    exact Or.inr (Or.inl ⟨this.1, this.2, w.1, w.2⟩)
  · obtain ⟨z2, e2, r⟩ := gW_int (show gW _ _ from q) (Nat.le_of_ble_eq_true rfl)
    cases e2
    have := gR0 r
    have w := gR0 (show gR (0, 1, 1, 0, 0, 0) (M' 60 16) from (p _ (List.mem_cons_of_mem _ List.mem_cons_self)).1)
    exact Or.inr (Or.inr (Or.inl ⟨this.1, this.2, w.1, w.2⟩))
  · obtain ⟨z2, e2, r⟩ := gW_int (show gW _ _ from q) (Nat.le_of_ble_eq_true rfl)
    cases e2
    have := gR0 r
    have w := gR0 (show gR (0, 1, 1, 0, 0, 0) (M' 60 16) from (p _ (List.mem_cons_of_mem _ List.mem_cons_self)).1)
    exact Or.inr (Or.inr (Or.inr ⟨this.1, this.2, w.1, w.2⟩))
theorem nu_M_apart_3 {d : Nat} (hd : 4 ≤ d) {M : pM} (hM : gM gAll M) (p0 : 3 ≤ M 60 16 ∧ M 60 16 ≤ 3) : ∃ z M', xF d 257 [.inr 62] M = rI z M' ∧ ((-2 ≤ z ∧ z ≤ -2 ∧ 3 ≤ M' 60 16 ∧ M' 60 16 ≤ 3) ∨ (-4 ≤ z ∧ z ≤ -4 ∧ 3 ≤ M' 60 16 ∧ M' 60 16 ≤ 3) ∨ (0 ≤ z ∧ z ≤ 0 ∧ 1 ≤ M' 60 16 ∧ M' 60 16 ≤ 1) ∨ (0 ≤ z ∧ z ≤ 999999 ∧ 1 ≤ M' 60 16 ∧ M' 60 16 ≤ 1)) := by
  have c0 : cOK gAll (xF d) 257 K_867 := (ct_of (d := d) ct_ok (show K_867 ∈ CT.getD 257 [] from (show CT.getD 257 [] = [K_864, K_865, K_866, K_867, K_868, K_869, K_870, K_871, K_872, K_873, K_874, K_875, K_589] from rfl) ▸ by simp) hd)
  obtain ⟨z, M', e, -, -, alt, ha, q, p⟩ := cOK_I c0 (A := [.inr 62]) (show aF2 gW [aRef 62] [.inr 62] from ⟨gW_o, trivial⟩) hM (show gP0 [(60, 16, (0, 3, 3, 0, 0, 0))] M from fun e he => by
    simp only [List.mem_cons, List.not_mem_nil, or_false] at he
    rcases he with rfl
    · exact gR_i p0.1 p0.2) rfl
  refine ⟨z, M', e, ?_⟩
  have ha : alt ∈ [(some (0, -2, -2, 0, 0, 0), [], [(60, 3, (0, 1, 10, 0, 0, 0)), (60, 16, (0, 3, 3, 0, 0, 0)), (60, 17, (0, 0, 0, 0, 0, 0)), (60, 44, (0, 1, 1, 0, 0, 0))]), (some (0, -4, -4, 0, 0, 0), [], [(60, 16, (0, 3, 3, 0, 0, 0)), (60, 17, (0, 0, 0, 0, 0, 0))]), (some (0, 0, 0, 0, 0, 0), [], [(60, 3, (0, 0, 0, 0, 0, 0)), (60, 16, (0, 1, 1, 0, 0, 0)), (60, 17, (0, 0, 0, 0, 0, 0)), (60, 44, (0, 1, 1, 0, 0, 0)), (69, 0, (0, -2147483648, 2147483647, 0, 0, 0))]), (some (0, 0, 999999, 0, 0, 0), [], [(60, 3, (0, 1, 10, 0, 0, 0)), (60, 16, (0, 1, 1, 0, 0, 0)), (60, 17, (0, 0, 0, 0, 0, 0)), (60, 44, (0, 1, 1, 0, 0, 0)), (69, 0, (0, -2147483648, 2147483647, 0, 0, 0))])] := ha
  simp only [List.mem_cons, List.not_mem_nil, or_false] at ha
  rcases ha with rfl | rfl | rfl | rfl
  · obtain ⟨z2, e2, r⟩ := gW_int (show gW _ _ from q) (Nat.le_of_ble_eq_true rfl)
    cases e2
    have := gR0 r
    have w := gR0 (show gR (0, 3, 3, 0, 0, 0) (M' 60 16) from (p _ (List.mem_cons_of_mem _ List.mem_cons_self)).1)
    exact Or.inl ⟨this.1, this.2, w.1, w.2⟩
  · obtain ⟨z2, e2, r⟩ := gW_int (show gW _ _ from q) (Nat.le_of_ble_eq_true rfl)
    cases e2
    have := gR0 r
    have w := gR0 (show gR (0, 3, 3, 0, 0, 0) (M' 60 16) from (p _ List.mem_cons_self).1)
    exact Or.inr (Or.inl ⟨this.1, this.2, w.1, w.2⟩)
  · obtain ⟨z2, e2, r⟩ := gW_int (show gW _ _ from q) (Nat.le_of_ble_eq_true rfl)
    cases e2
    have := gR0 r
    have w := gR0 (show gR (0, 1, 1, 0, 0, 0) (M' 60 16) from (p _ (List.mem_cons_of_mem _ List.mem_cons_self)).1)
    exact Or.inr (Or.inr (Or.inl ⟨this.1, this.2, w.1, w.2⟩))
  · obtain ⟨z2, e2, r⟩ := gW_int (show gW _ _ from q) (Nat.le_of_ble_eq_true rfl)
    cases e2
    have := gR0 r
    have w := gR0 (show gR (0, 1, 1, 0, 0, 0) (M' 60 16) from (p _ (List.mem_cons_of_mem _ List.mem_cons_self)).1)
    exact Or.inr (Or.inr (Or.inr ⟨this.1, this.2, w.1, w.2⟩))
theorem nu_M_apart_4 {d : Nat} (hd : 4 ≤ d) {M : pM} (hM : gM gAll M) (p0 : 4 ≤ M 60 16 ∧ M 60 16 ≤ 4) : ∃ z M', xF d 257 [.inr 62] M = rI z M' ∧ ((-2 ≤ z ∧ z ≤ -2 ∧ 4 ≤ M' 60 16 ∧ M' 60 16 ≤ 4) ∨ (-4 ≤ z ∧ z ≤ -4 ∧ 4 ≤ M' 60 16 ∧ M' 60 16 ≤ 4) ∨ (0 ≤ z ∧ z ≤ 0 ∧ 1 ≤ M' 60 16 ∧ M' 60 16 ≤ 1) ∨ (0 ≤ z ∧ z ≤ 999999 ∧ 1 ≤ M' 60 16 ∧ M' 60 16 ≤ 1)) := by
  have c0 : cOK gAll (xF d) 257 K_868 := (ct_of (d := d) ct_ok (show K_868 ∈ CT.getD 257 [] from (show CT.getD 257 [] = [K_864, K_865, K_866, K_867, K_868, K_869, K_870, K_871, K_872, K_873, K_874, K_875, K_589] from rfl) ▸ by simp) hd)
  obtain ⟨z, M', e, -, -, alt, ha, q, p⟩ := cOK_I c0 (A := [.inr 62]) (show aF2 gW [aRef 62] [.inr 62] from ⟨gW_o, trivial⟩) hM (show gP0 [(60, 16, (0, 4, 4, 0, 0, 0))] M from fun e he => by
    simp only [List.mem_cons, List.not_mem_nil, or_false] at he
    rcases he with rfl
    · exact gR_i p0.1 p0.2) rfl
  refine ⟨z, M', e, ?_⟩
  have ha : alt ∈ [(some (0, -2, -2, 0, 0, 0), [], [(60, 3, (0, 1, 10, 0, 0, 0)), (60, 16, (0, 4, 4, 0, 0, 0)), (60, 17, (0, 0, 0, 0, 0, 0)), (60, 44, (0, 1, 1, 0, 0, 0))]), (some (0, -4, -4, 0, 0, 0), [], [(60, 16, (0, 4, 4, 0, 0, 0)), (60, 17, (0, 0, 0, 0, 0, 0))]), (some (0, 0, 0, 0, 0, 0), [], [(60, 3, (0, 0, 0, 0, 0, 0)), (60, 16, (0, 1, 1, 0, 0, 0)), (60, 17, (0, 0, 0, 0, 0, 0)), (60, 44, (0, 1, 1, 0, 0, 0)), (69, 0, (0, -2147483648, 2147483647, 0, 0, 0))]), (some (0, 0, 999999, 0, 0, 0), [], [(60, 3, (0, 1, 10, 0, 0, 0)), (60, 16, (0, 1, 1, 0, 0, 0)), (60, 17, (0, 0, 0, 0, 0, 0)), (60, 44, (0, 1, 1, 0, 0, 0)), (69, 0, (0, -2147483648, 2147483647, 0, 0, 0))])] := ha
  simp only [List.mem_cons, List.not_mem_nil, or_false] at ha
  rcases ha with rfl | rfl | rfl | rfl
  · obtain ⟨z2, e2, r⟩ := gW_int (show gW _ _ from q) (Nat.le_of_ble_eq_true rfl)
    cases e2
    have := gR0 r
    have w := gR0 (show gR (0, 4, 4, 0, 0, 0) (M' 60 16) from (p _ (List.mem_cons_of_mem _ List.mem_cons_self)).1)
    exact Or.inl ⟨this.1, this.2, w.1, w.2⟩
  · obtain ⟨z2, e2, r⟩ := gW_int (show gW _ _ from q) (Nat.le_of_ble_eq_true rfl)
    cases e2
    have := gR0 r
    have w := gR0 (show gR (0, 4, 4, 0, 0, 0) (M' 60 16) from (p _ List.mem_cons_self).1)
    exact Or.inr (Or.inl ⟨this.1, this.2, w.1, w.2⟩)
  · obtain ⟨z2, e2, r⟩ := gW_int (show gW _ _ from q) (Nat.le_of_ble_eq_true rfl)
    cases e2
    have := gR0 r
    have w := gR0 (show gR (0, 1, 1, 0, 0, 0) (M' 60 16) from (p _ (List.mem_cons_of_mem _ List.mem_cons_self)).1)
    exact Or.inr (Or.inr (Or.inl ⟨this.1, this.2, w.1, w.2⟩))
  · obtain ⟨z2, e2, r⟩ := gW_int (show gW _ _ from q) (Nat.le_of_ble_eq_true rfl)
    cases e2
    have := gR0 r
    have w := gR0 (show gR (0, 1, 1, 0, 0, 0) (M' 60 16) from (p _ (List.mem_cons_of_mem _ List.mem_cons_self)).1)
    exact Or.inr (Or.inr (Or.inr ⟨this.1, this.2, w.1, w.2⟩))
theorem nu_M_apart_5 {d : Nat} (hd : 4 ≤ d) {M : pM} (hM : gM gAll M) (p0 : 5 ≤ M 60 16 ∧ M 60 16 ≤ 5) : ∃ z M', xF d 257 [.inr 62] M = rI z M' ∧ ((-2 ≤ z ∧ z ≤ -2 ∧ 5 ≤ M' 60 16 ∧ M' 60 16 ≤ 5) ∨ (-4 ≤ z ∧ z ≤ -4 ∧ 5 ≤ M' 60 16 ∧ M' 60 16 ≤ 5) ∨ (0 ≤ z ∧ z ≤ 0 ∧ 1 ≤ M' 60 16 ∧ M' 60 16 ≤ 1) ∨ (0 ≤ z ∧ z ≤ 999999 ∧ 1 ≤ M' 60 16 ∧ M' 60 16 ≤ 1)) := by
  have c0 : cOK gAll (xF d) 257 K_869 := (ct_of (d := d) ct_ok (show K_869 ∈ CT.getD 257 [] from (show CT.getD 257 [] = [K_864, K_865, K_866, K_867, K_868, K_869, K_870, K_871, K_872, K_873, K_874, K_875, K_589] from rfl) ▸ by simp) hd)
  obtain ⟨z, M', e, -, -, alt, ha, q, p⟩ := cOK_I c0 (A := [.inr 62]) (show aF2 gW [aRef 62] [.inr 62] from ⟨gW_o, trivial⟩) hM (show gP0 [(60, 16, (0, 5, 5, 0, 0, 0))] M from fun e he => by
    simp only [List.mem_cons, List.not_mem_nil, or_false] at he
    rcases he with rfl
    · exact gR_i p0.1 p0.2) rfl
  refine ⟨z, M', e, ?_⟩
  have ha : alt ∈ [(some (0, -2, -2, 0, 0, 0), [], [(60, 3, (0, 1, 10, 0, 0, 0)), (60, 16, (0, 5, 5, 0, 0, 0)), (60, 17, (0, 0, 0, 0, 0, 0)), (60, 44, (0, 1, 1, 0, 0, 0))]), (some (0, -4, -4, 0, 0, 0), [], [(60, 16, (0, 5, 5, 0, 0, 0)), (60, 17, (0, 0, 0, 0, 0, 0))]), (some (0, 0, 0, 0, 0, 0), [], [(60, 3, (0, 0, 0, 0, 0, 0)), (60, 16, (0, 1, 1, 0, 0, 0)), (60, 17, (0, 0, 0, 0, 0, 0)), (60, 44, (0, 1, 1, 0, 0, 0)), (69, 0, (0, -2147483648, 2147483647, 0, 0, 0))]), (some (0, 0, 999999, 0, 0, 0), [], [(60, 3, (0, 1, 10, 0, 0, 0)), (60, 16, (0, 1, 1, 0, 0, 0)), (60, 17, (0, 0, 0, 0, 0, 0)), (60, 44, (0, 1, 1, 0, 0, 0)), (69, 0, (0, -2147483648, 2147483647, 0, 0, 0))])] := ha
  simp only [List.mem_cons, List.not_mem_nil, or_false] at ha
  rcases ha with rfl | rfl | rfl | rfl
  · obtain ⟨z2, e2, r⟩ := gW_int (show gW _ _ from q) (Nat.le_of_ble_eq_true rfl)
    cases e2
    have := gR0 r
    have w := gR0 (show gR (0, 5, 5, 0, 0, 0) (M' 60 16) from (p _ (List.mem_cons_of_mem _ List.mem_cons_self)).1)
    exact Or.inl ⟨this.1, this.2, w.1, w.2⟩
  · obtain ⟨z2, e2, r⟩ := gW_int (show gW _ _ from q) (Nat.le_of_ble_eq_true rfl)
    cases e2
    have := gR0 r
    have w := gR0 (show gR (0, 5, 5, 0, 0, 0) (M' 60 16) from (p _ List.mem_cons_self).1)
    exact Or.inr (Or.inl ⟨this.1, this.2, w.1, w.2⟩)
  · obtain ⟨z2, e2, r⟩ := gW_int (show gW _ _ from q) (Nat.le_of_ble_eq_true rfl)
    cases e2
    have := gR0 r
    have w := gR0 (show gR (0, 1, 1, 0, 0, 0) (M' 60 16) from (p _ (List.mem_cons_of_mem _ List.mem_cons_self)).1)
    exact Or.inr (Or.inr (Or.inl ⟨this.1, this.2, w.1, w.2⟩))
  · obtain ⟨z2, e2, r⟩ := gW_int (show gW _ _ from q) (Nat.le_of_ble_eq_true rfl)
    cases e2
    have := gR0 r
    have w := gR0 (show gR (0, 1, 1, 0, 0, 0) (M' 60 16) from (p _ (List.mem_cons_of_mem _ List.mem_cons_self)).1)
    exact Or.inr (Or.inr (Or.inr ⟨this.1, this.2, w.1, w.2⟩))
theorem nu_M_apart_6 {d : Nat} (hd : 4 ≤ d) {M : pM} (hM : gM gAll M) (p0 : 6 ≤ M 60 16 ∧ M 60 16 ≤ 6) : ∃ z M', xF d 257 [.inr 62] M = rI z M' ∧ ((-2 ≤ z ∧ z ≤ -2 ∧ 6 ≤ M' 60 16 ∧ M' 60 16 ≤ 6) ∨ (-4 ≤ z ∧ z ≤ -4 ∧ 6 ≤ M' 60 16 ∧ M' 60 16 ≤ 6) ∨ (0 ≤ z ∧ z ≤ 0 ∧ 1 ≤ M' 60 16 ∧ M' 60 16 ≤ 1) ∨ (0 ≤ z ∧ z ≤ 999999 ∧ 1 ≤ M' 60 16 ∧ M' 60 16 ≤ 1)) := by
  have c0 : cOK gAll (xF d) 257 K_870 := (ct_of (d := d) ct_ok (show K_870 ∈ CT.getD 257 [] from (show CT.getD 257 [] = [K_864, K_865, K_866, K_867, K_868, K_869, K_870, K_871, K_872, K_873, K_874, K_875, K_589] from rfl) ▸ by simp) hd)
  obtain ⟨z, M', e, -, -, alt, ha, q, p⟩ := cOK_I c0 (A := [.inr 62]) (show aF2 gW [aRef 62] [.inr 62] from ⟨gW_o, trivial⟩) hM (show gP0 [(60, 16, (0, 6, 6, 0, 0, 0))] M from fun e he => by
    simp only [List.mem_cons, List.not_mem_nil, or_false] at he
    rcases he with rfl
    · exact gR_i p0.1 p0.2) rfl
  refine ⟨z, M', e, ?_⟩
  have ha : alt ∈ [(some (0, -2, -2, 0, 0, 0), [], [(60, 3, (0, 1, 10, 0, 0, 0)), (60, 16, (0, 6, 6, 0, 0, 0)), (60, 17, (0, 0, 0, 0, 0, 0)), (60, 44, (0, 1, 1, 0, 0, 0))]), (some (0, -4, -4, 0, 0, 0), [], [(60, 16, (0, 6, 6, 0, 0, 0)), (60, 17, (0, 0, 0, 0, 0, 0))]), (some (0, 0, 0, 0, 0, 0), [], [(60, 3, (0, 0, 0, 0, 0, 0)), (60, 16, (0, 1, 1, 0, 0, 0)), (60, 17, (0, 0, 0, 0, 0, 0)), (60, 44, (0, 1, 1, 0, 0, 0)), (69, 0, (0, -2147483648, 2147483647, 0, 0, 0))]), (some (0, 0, 999999, 0, 0, 0), [], [(60, 3, (0, 1, 10, 0, 0, 0)), (60, 16, (0, 1, 1, 0, 0, 0)), (60, 17, (0, 0, 0, 0, 0, 0)), (60, 44, (0, 1, 1, 0, 0, 0)), (69, 0, (0, -2147483648, 2147483647, 0, 0, 0))])] := ha
  simp only [List.mem_cons, List.not_mem_nil, or_false] at ha
  rcases ha with rfl | rfl | rfl | rfl
  · obtain ⟨z2, e2, r⟩ := gW_int (show gW _ _ from q) (Nat.le_of_ble_eq_true rfl)
    cases e2
    have := gR0 r
    have w := gR0 (show gR (0, 6, 6, 0, 0, 0) (M' 60 16) from (p _ (List.mem_cons_of_mem _ List.mem_cons_self)).1)
    exact Or.inl ⟨this.1, this.2, w.1, w.2⟩
  · obtain ⟨z2, e2, r⟩ := gW_int (show gW _ _ from q) (Nat.le_of_ble_eq_true rfl)
    cases e2
    have := gR0 r
    have w := gR0 (show gR (0, 6, 6, 0, 0, 0) (M' 60 16) from (p _ List.mem_cons_self).1)
    exact Or.inr (Or.inl ⟨this.1, this.2, w.1, w.2⟩)
  · obtain ⟨z2, e2, r⟩ := gW_int (show gW _ _ from q) (Nat.le_of_ble_eq_true rfl)
    cases e2
    have := gR0 r
    have w := gR0 (show gR (0, 1, 1, 0, 0, 0) (M' 60 16) from (p _ (List.mem_cons_of_mem _ List.mem_cons_self)).1)
    exact Or.inr (Or.inr (Or.inl ⟨this.1, this.2, w.1, w.2⟩))
  · obtain ⟨z2, e2, r⟩ := gW_int (show gW _ _ from q) (Nat.le_of_ble_eq_true rfl)
    cases e2
    have := gR0 r
    have w := gR0 (show gR (0, 1, 1, 0, 0, 0) (M' 60 16) from (p _ (List.mem_cons_of_mem _ List.mem_cons_self)).1)
    exact Or.inr (Or.inr (Or.inr ⟨this.1, this.2, w.1, w.2⟩))
theorem nu_M_apart_7 {d : Nat} (hd : 4 ≤ d) {M : pM} (hM : gM gAll M) (p0 : 7 ≤ M 60 16 ∧ M 60 16 ≤ 7) : ∃ z M', xF d 257 [.inr 62] M = rI z M' ∧ ((-2 ≤ z ∧ z ≤ -2 ∧ 7 ≤ M' 60 16 ∧ M' 60 16 ≤ 7) ∨ (-4 ≤ z ∧ z ≤ -4 ∧ 7 ≤ M' 60 16 ∧ M' 60 16 ≤ 7) ∨ (0 ≤ z ∧ z ≤ 0 ∧ 1 ≤ M' 60 16 ∧ M' 60 16 ≤ 1) ∨ (0 ≤ z ∧ z ≤ 999999 ∧ 1 ≤ M' 60 16 ∧ M' 60 16 ≤ 1)) := by
  have c0 : cOK gAll (xF d) 257 K_871 := (ct_of (d := d) ct_ok (show K_871 ∈ CT.getD 257 [] from (show CT.getD 257 [] = [K_864, K_865, K_866, K_867, K_868, K_869, K_870, K_871, K_872, K_873, K_874, K_875, K_589] from rfl) ▸ by simp) hd)
  obtain ⟨z, M', e, -, -, alt, ha, q, p⟩ := cOK_I c0 (A := [.inr 62]) (show aF2 gW [aRef 62] [.inr 62] from ⟨gW_o, trivial⟩) hM (show gP0 [(60, 16, (0, 7, 7, 0, 0, 0))] M from fun e he => by
    simp only [List.mem_cons, List.not_mem_nil, or_false] at he
    rcases he with rfl
    · exact gR_i p0.1 p0.2) rfl
  refine ⟨z, M', e, ?_⟩
  have ha : alt ∈ [(some (0, -2, -2, 0, 0, 0), [], [(60, 3, (0, 1, 10, 0, 0, 0)), (60, 16, (0, 7, 7, 0, 0, 0)), (60, 17, (0, 0, 0, 0, 0, 0)), (60, 44, (0, 1, 1, 0, 0, 0))]), (some (0, -4, -4, 0, 0, 0), [], [(60, 16, (0, 7, 7, 0, 0, 0)), (60, 17, (0, 0, 0, 0, 0, 0))]), (some (0, 0, 0, 0, 0, 0), [], [(60, 3, (0, 0, 0, 0, 0, 0)), (60, 16, (0, 1, 1, 0, 0, 0)), (60, 17, (0, 0, 0, 0, 0, 0)), (60, 44, (0, 1, 1, 0, 0, 0)), (69, 0, (0, -2147483648, 2147483647, 0, 0, 0))]), (some (0, 0, 999999, 0, 0, 0), [], [(60, 3, (0, 1, 10, 0, 0, 0)), (60, 16, (0, 1, 1, 0, 0, 0)), (60, 17, (0, 0, 0, 0, 0, 0)), (60, 44, (0, 1, 1, 0, 0, 0)), (69, 0, (0, -2147483648, 2147483647, 0, 0, 0))])] := ha
  simp only [List.mem_cons, List.not_mem_nil, or_false] at ha
  rcases ha with rfl | rfl | rfl | rfl
  · obtain ⟨z2, e2, r⟩ := gW_int (show gW _ _ from q) (Nat.le_of_ble_eq_true rfl)
    cases e2
    have := gR0 r
    have w := gR0 (show gR (0, 7, 7, 0, 0, 0) (M' 60 16) from (p _ (List.mem_cons_of_mem _ List.mem_cons_self)).1)
    exact Or.inl ⟨this.1, this.2, w.1, w.2⟩
  · obtain ⟨z2, e2, r⟩ := gW_int (show gW _ _ from q) (Nat.le_of_ble_eq_true rfl)
    cases e2
    have := gR0 r
    have w := gR0 (show gR (0, 7, 7, 0, 0, 0) (M' 60 16) from (p _ List.mem_cons_self).1)
    exact Or.inr (Or.inl ⟨this.1, this.2, w.1, w.2⟩)
  · obtain ⟨z2, e2, r⟩ := gW_int (show gW _ _ from q) (Nat.le_of_ble_eq_true rfl)
    cases e2
    have := gR0 r
    have w := gR0 (show gR (0, 1, 1, 0, 0, 0) (M' 60 16) from (p _ (List.mem_cons_of_mem _ List.mem_cons_self)).1)
    exact Or.inr (Or.inr (Or.inl ⟨this.1, this.2, w.1, w.2⟩))
  · obtain ⟨z2, e2, r⟩ := gW_int (show gW _ _ from q) (Nat.le_of_ble_eq_true rfl)
    cases e2
    have := gR0 r
    have w := gR0 (show gR (0, 1, 1, 0, 0, 0) (M' 60 16) from (p _ (List.mem_cons_of_mem _ List.mem_cons_self)).1)
    exact Or.inr (Or.inr (Or.inr ⟨this.1, this.2, w.1, w.2⟩))
theorem nu_M_apart_8 {d : Nat} (hd : 4 ≤ d) {M : pM} (hM : gM gAll M) (p0 : 8 ≤ M 60 16 ∧ M 60 16 ≤ 8) : ∃ z M', xF d 257 [.inr 62] M = rI z M' ∧ ((-2 ≤ z ∧ z ≤ -2 ∧ 8 ≤ M' 60 16 ∧ M' 60 16 ≤ 8) ∨ (-4 ≤ z ∧ z ≤ -4 ∧ 8 ≤ M' 60 16 ∧ M' 60 16 ≤ 8) ∨ (0 ≤ z ∧ z ≤ 0 ∧ 1 ≤ M' 60 16 ∧ M' 60 16 ≤ 1) ∨ (0 ≤ z ∧ z ≤ 999999 ∧ 1 ≤ M' 60 16 ∧ M' 60 16 ≤ 1)) := by
  have c0 : cOK gAll (xF d) 257 K_872 := (ct_of (d := d) ct_ok (show K_872 ∈ CT.getD 257 [] from (show CT.getD 257 [] = [K_864, K_865, K_866, K_867, K_868, K_869, K_870, K_871, K_872, K_873, K_874, K_875, K_589] from rfl) ▸ by simp) hd)
  obtain ⟨z, M', e, -, -, alt, ha, q, p⟩ := cOK_I c0 (A := [.inr 62]) (show aF2 gW [aRef 62] [.inr 62] from ⟨gW_o, trivial⟩) hM (show gP0 [(60, 16, (0, 8, 8, 0, 0, 0))] M from fun e he => by
    simp only [List.mem_cons, List.not_mem_nil, or_false] at he
    rcases he with rfl
    · exact gR_i p0.1 p0.2) rfl
  refine ⟨z, M', e, ?_⟩
  have ha : alt ∈ [(some (0, -2, -2, 0, 0, 0), [], [(60, 3, (0, 1, 10, 0, 0, 0)), (60, 16, (0, 8, 8, 0, 0, 0)), (60, 17, (0, 0, 0, 0, 0, 0)), (60, 44, (0, 1, 1, 0, 0, 0))]), (some (0, -4, -4, 0, 0, 0), [], [(60, 16, (0, 8, 8, 0, 0, 0)), (60, 17, (0, 0, 0, 0, 0, 0))]), (some (0, 0, 0, 0, 0, 0), [], [(60, 3, (0, 0, 0, 0, 0, 0)), (60, 16, (0, 1, 1, 0, 0, 0)), (60, 17, (0, 0, 0, 0, 0, 0)), (60, 44, (0, 1, 1, 0, 0, 0)), (69, 0, (0, -2147483648, 2147483647, 0, 0, 0))]), (some (0, 0, 999999, 0, 0, 0), [], [(60, 3, (0, 1, 10, 0, 0, 0)), (60, 16, (0, 1, 1, 0, 0, 0)), (60, 17, (0, 0, 0, 0, 0, 0)), (60, 44, (0, 1, 1, 0, 0, 0)), (69, 0, (0, -2147483648, 2147483647, 0, 0, 0))])] := ha
  simp only [List.mem_cons, List.not_mem_nil, or_false] at ha
  rcases ha with rfl | rfl | rfl | rfl
  · obtain ⟨z2, e2, r⟩ := gW_int (show gW _ _ from q) (Nat.le_of_ble_eq_true rfl)
    cases e2
    have := gR0 r
    have w := gR0 (show gR (0, 8, 8, 0, 0, 0) (M' 60 16) from (p _ (List.mem_cons_of_mem _ List.mem_cons_self)).1)
    exact Or.inl ⟨this.1, this.2, w.1, w.2⟩
  · obtain ⟨z2, e2, r⟩ := gW_int (show gW _ _ from q) (Nat.le_of_ble_eq_true rfl)
    cases e2
    have := gR0 r
    have w := gR0 (show gR (0, 8, 8, 0, 0, 0) (M' 60 16) from (p _ List.mem_cons_self).1)
    exact Or.inr (Or.inl ⟨this.1, this.2, w.1, w.2⟩)
  · obtain ⟨z2, e2, r⟩ := gW_int (show gW _ _ from q) (Nat.le_of_ble_eq_true rfl)
    cases e2
    have := gR0 r
    have w := gR0 (show gR (0, 1, 1, 0, 0, 0) (M' 60 16) from (p _ (List.mem_cons_of_mem _ List.mem_cons_self)).1)
    exact Or.inr (Or.inr (Or.inl ⟨this.1, this.2, w.1, w.2⟩))
  · obtain ⟨z2, e2, r⟩ := gW_int (show gW _ _ from q) (Nat.le_of_ble_eq_true rfl)
    cases e2
    have := gR0 r
    have w := gR0 (show gR (0, 1, 1, 0, 0, 0) (M' 60 16) from (p _ (List.mem_cons_of_mem _ List.mem_cons_self)).1)
    exact Or.inr (Or.inr (Or.inr ⟨this.1, this.2, w.1, w.2⟩))
theorem nu_M_apart_9 {d : Nat} (hd : 4 ≤ d) {M : pM} (hM : gM gAll M) (p0 : 9 ≤ M 60 16 ∧ M 60 16 ≤ 9) : ∃ z M', xF d 257 [.inr 62] M = rI z M' ∧ ((-2 ≤ z ∧ z ≤ -2 ∧ 9 ≤ M' 60 16 ∧ M' 60 16 ≤ 9) ∨ (-4 ≤ z ∧ z ≤ -4 ∧ 9 ≤ M' 60 16 ∧ M' 60 16 ≤ 9) ∨ (0 ≤ z ∧ z ≤ 0 ∧ 1 ≤ M' 60 16 ∧ M' 60 16 ≤ 1) ∨ (0 ≤ z ∧ z ≤ 999999 ∧ 1 ≤ M' 60 16 ∧ M' 60 16 ≤ 1)) := by
  have c0 : cOK gAll (xF d) 257 K_873 := (ct_of (d := d) ct_ok (show K_873 ∈ CT.getD 257 [] from (show CT.getD 257 [] = [K_864, K_865, K_866, K_867, K_868, K_869, K_870, K_871, K_872, K_873, K_874, K_875, K_589] from rfl) ▸ by simp) hd)
  obtain ⟨z, M', e, -, -, alt, ha, q, p⟩ := cOK_I c0 (A := [.inr 62]) (show aF2 gW [aRef 62] [.inr 62] from ⟨gW_o, trivial⟩) hM (show gP0 [(60, 16, (0, 9, 9, 0, 0, 0))] M from fun e he => by
    simp only [List.mem_cons, List.not_mem_nil, or_false] at he
    rcases he with rfl
    · exact gR_i p0.1 p0.2) rfl
  refine ⟨z, M', e, ?_⟩
  have ha : alt ∈ [(some (0, -2, -2, 0, 0, 0), [], [(60, 3, (0, 1, 10, 0, 0, 0)), (60, 16, (0, 9, 9, 0, 0, 0)), (60, 17, (0, 0, 0, 0, 0, 0)), (60, 44, (0, 1, 1, 0, 0, 0))]), (some (0, -4, -4, 0, 0, 0), [], [(60, 16, (0, 9, 9, 0, 0, 0)), (60, 17, (0, 0, 0, 0, 0, 0))]), (some (0, 0, 0, 0, 0, 0), [], [(60, 3, (0, 0, 0, 0, 0, 0)), (60, 16, (0, 1, 1, 0, 0, 0)), (60, 17, (0, 0, 0, 0, 0, 0)), (60, 44, (0, 1, 1, 0, 0, 0)), (69, 0, (0, -2147483648, 2147483647, 0, 0, 0))]), (some (0, 0, 999999, 0, 0, 0), [], [(60, 3, (0, 1, 10, 0, 0, 0)), (60, 16, (0, 1, 1, 0, 0, 0)), (60, 17, (0, 0, 0, 0, 0, 0)), (60, 44, (0, 1, 1, 0, 0, 0)), (69, 0, (0, -2147483648, 2147483647, 0, 0, 0))])] := ha
  simp only [List.mem_cons, List.not_mem_nil, or_false] at ha
  rcases ha with rfl | rfl | rfl | rfl
  · obtain ⟨z2, e2, r⟩ := gW_int (show gW _ _ from q) (Nat.le_of_ble_eq_true rfl)
    cases e2
    have := gR0 r
    have w := gR0 (show gR (0, 9, 9, 0, 0, 0) (M' 60 16) from (p _ (List.mem_cons_of_mem _ List.mem_cons_self)).1)
    exact Or.inl ⟨this.1, this.2, w.1, w.2⟩
  · obtain ⟨z2, e2, r⟩ := gW_int (show gW _ _ from q) (Nat.le_of_ble_eq_true rfl)
    cases e2
    have := gR0 r
    have w := gR0 (show gR (0, 9, 9, 0, 0, 0) (M' 60 16) from (p _ List.mem_cons_self).1)
    exact Or.inr (Or.inl ⟨this.1, this.2, w.1, w.2⟩)
  · obtain ⟨z2, e2, r⟩ := gW_int (show gW _ _ from q) (Nat.le_of_ble_eq_true rfl)
    cases e2
    have := gR0 r
    have w := gR0 (show gR (0, 1, 1, 0, 0, 0) (M' 60 16) from (p _ (List.mem_cons_of_mem _ List.mem_cons_self)).1)
    exact Or.inr (Or.inr (Or.inl ⟨this.1, this.2, w.1, w.2⟩))
  · obtain ⟨z2, e2, r⟩ := gW_int (show gW _ _ from q) (Nat.le_of_ble_eq_true rfl)
    cases e2
    have := gR0 r
    have w := gR0 (show gR (0, 1, 1, 0, 0, 0) (M' 60 16) from (p _ (List.mem_cons_of_mem _ List.mem_cons_self)).1)
    exact Or.inr (Or.inr (Or.inr ⟨this.1, this.2, w.1, w.2⟩))
theorem nu_M_apart_10 {d : Nat} (hd : 4 ≤ d) {M : pM} (hM : gM gAll M) (p0 : 10 ≤ M 60 16 ∧ M 60 16 ≤ 10) : ∃ z M', xF d 257 [.inr 62] M = rI z M' ∧ ((-2 ≤ z ∧ z ≤ -2 ∧ 10 ≤ M' 60 16 ∧ M' 60 16 ≤ 10) ∨ (-4 ≤ z ∧ z ≤ -4 ∧ 10 ≤ M' 60 16 ∧ M' 60 16 ≤ 10) ∨ (0 ≤ z ∧ z ≤ 0 ∧ 1 ≤ M' 60 16 ∧ M' 60 16 ≤ 1) ∨ (0 ≤ z ∧ z ≤ 999999 ∧ 1 ≤ M' 60 16 ∧ M' 60 16 ≤ 1)) := by
  have c0 : cOK gAll (xF d) 257 K_874 := (ct_of (d := d) ct_ok (show K_874 ∈ CT.getD 257 [] from (show CT.getD 257 [] = [K_864, K_865, K_866, K_867, K_868, K_869, K_870, K_871, K_872, K_873, K_874, K_875, K_589] from rfl) ▸ by simp) hd)
  obtain ⟨z, M', e, -, -, alt, ha, q, p⟩ := cOK_I c0 (A := [.inr 62]) (show aF2 gW [aRef 62] [.inr 62] from ⟨gW_o, trivial⟩) hM (show gP0 [(60, 16, (0, 10, 10, 0, 0, 0))] M from fun e he => by
    simp only [List.mem_cons, List.not_mem_nil, or_false] at he
    rcases he with rfl
    · exact gR_i p0.1 p0.2) rfl
  refine ⟨z, M', e, ?_⟩
  have ha : alt ∈ [(some (0, -2, -2, 0, 0, 0), [], [(60, 3, (0, 1, 10, 0, 0, 0)), (60, 16, (0, 10, 10, 0, 0, 0)), (60, 17, (0, 0, 0, 0, 0, 0)), (60, 44, (0, 1, 1, 0, 0, 0))]), (some (0, -4, -4, 0, 0, 0), [], [(60, 16, (0, 10, 10, 0, 0, 0)), (60, 17, (0, 0, 0, 0, 0, 0))]), (some (0, 0, 0, 0, 0, 0), [], [(60, 3, (0, 0, 0, 0, 0, 0)), (60, 16, (0, 1, 1, 0, 0, 0)), (60, 17, (0, 0, 0, 0, 0, 0)), (60, 44, (0, 1, 1, 0, 0, 0)), (69, 0, (0, -2147483648, 2147483647, 0, 0, 0))]), (some (0, 0, 999999, 0, 0, 0), [], [(60, 3, (0, 1, 10, 0, 0, 0)), (60, 16, (0, 1, 1, 0, 0, 0)), (60, 17, (0, 0, 0, 0, 0, 0)), (60, 44, (0, 1, 1, 0, 0, 0)), (69, 0, (0, -2147483648, 2147483647, 0, 0, 0))])] := ha
  simp only [List.mem_cons, List.not_mem_nil, or_false] at ha
  rcases ha with rfl | rfl | rfl | rfl
  · obtain ⟨z2, e2, r⟩ := gW_int (show gW _ _ from q) (Nat.le_of_ble_eq_true rfl)
    cases e2
    have := gR0 r
    have w := gR0 (show gR (0, 10, 10, 0, 0, 0) (M' 60 16) from (p _ (List.mem_cons_of_mem _ List.mem_cons_self)).1)
    exact Or.inl ⟨this.1, this.2, w.1, w.2⟩
  · obtain ⟨z2, e2, r⟩ := gW_int (show gW _ _ from q) (Nat.le_of_ble_eq_true rfl)
    cases e2
    have := gR0 r
    have w := gR0 (show gR (0, 10, 10, 0, 0, 0) (M' 60 16) from (p _ List.mem_cons_self).1)
    exact Or.inr (Or.inl ⟨this.1, this.2, w.1, w.2⟩)
  · obtain ⟨z2, e2, r⟩ := gW_int (show gW _ _ from q) (Nat.le_of_ble_eq_true rfl)
    cases e2
    have := gR0 r
    have w := gR0 (show gR (0, 1, 1, 0, 0, 0) (M' 60 16) from (p _ (List.mem_cons_of_mem _ List.mem_cons_self)).1)
    exact Or.inr (Or.inr (Or.inl ⟨this.1, this.2, w.1, w.2⟩))
  · obtain ⟨z2, e2, r⟩ := gW_int (show gW _ _ from q) (Nat.le_of_ble_eq_true rfl)
    cases e2
    have := gR0 r
    have w := gR0 (show gR (0, 1, 1, 0, 0, 0) (M' 60 16) from (p _ (List.mem_cons_of_mem _ List.mem_cons_self)).1)
    exact Or.inr (Or.inr (Or.inr ⟨this.1, this.2, w.1, w.2⟩))
theorem nu_M_apart_11 {d : Nat} (hd : 4 ≤ d) {M : pM} (hM : gM gAll M) (p0 : 11 ≤ M 60 16 ∧ M 60 16 ≤ 11) : ∃ z M', xF d 257 [.inr 62] M = rI z M' ∧ ((-2 ≤ z ∧ z ≤ -2 ∧ 11 ≤ M' 60 16 ∧ M' 60 16 ≤ 11) ∨ (-4 ≤ z ∧ z ≤ -4 ∧ 11 ≤ M' 60 16 ∧ M' 60 16 ≤ 11) ∨ (0 ≤ z ∧ z ≤ 0 ∧ 1 ≤ M' 60 16 ∧ M' 60 16 ≤ 1) ∨ (0 ≤ z ∧ z ≤ 999999 ∧ 1 ≤ M' 60 16 ∧ M' 60 16 ≤ 1)) := by
  have c0 : cOK gAll (xF d) 257 K_875 := (ct_of (d := d) ct_ok (show K_875 ∈ CT.getD 257 [] from (show CT.getD 257 [] = [K_864, K_865, K_866, K_867, K_868, K_869, K_870, K_871, K_872, K_873, K_874, K_875, K_589] from rfl) ▸ by simp) hd)
  obtain ⟨z, M', e, -, -, alt, ha, q, p⟩ := cOK_I c0 (A := [.inr 62]) (show aF2 gW [aRef 62] [.inr 62] from ⟨gW_o, trivial⟩) hM (show gP0 [(60, 16, (0, 11, 11, 0, 0, 0))] M from fun e he => by
    simp only [List.mem_cons, List.not_mem_nil, or_false] at he
    rcases he with rfl
    · exact gR_i p0.1 p0.2) rfl
  refine ⟨z, M', e, ?_⟩
  have ha : alt ∈ [(some (0, -2, -2, 0, 0, 0), [], [(60, 3, (0, 1, 10, 0, 0, 0)), (60, 16, (0, 11, 11, 0, 0, 0)), (60, 17, (0, 0, 0, 0, 0, 0)), (60, 44, (0, 1, 1, 0, 0, 0))]), (some (0, -4, -4, 0, 0, 0), [], [(60, 16, (0, 11, 11, 0, 0, 0)), (60, 17, (0, 0, 0, 0, 0, 0))]), (some (0, 0, 0, 0, 0, 0), [], [(60, 3, (0, 0, 0, 0, 0, 0)), (60, 16, (0, 1, 1, 0, 0, 0)), (60, 17, (0, 0, 0, 0, 0, 0)), (60, 44, (0, 1, 1, 0, 0, 0)), (69, 0, (0, -2147483648, 2147483647, 0, 0, 0))]), (some (0, 0, 999999, 0, 0, 0), [], [(60, 3, (0, 1, 10, 0, 0, 0)), (60, 16, (0, 1, 1, 0, 0, 0)), (60, 17, (0, 0, 0, 0, 0, 0)), (60, 44, (0, 1, 1, 0, 0, 0)), (69, 0, (0, -2147483648, 2147483647, 0, 0, 0))])] := ha
  simp only [List.mem_cons, List.not_mem_nil, or_false] at ha
  rcases ha with rfl | rfl | rfl | rfl
  · obtain ⟨z2, e2, r⟩ := gW_int (show gW _ _ from q) (Nat.le_of_ble_eq_true rfl)
    cases e2
    have := gR0 r
    have w := gR0 (show gR (0, 11, 11, 0, 0, 0) (M' 60 16) from (p _ (List.mem_cons_of_mem _ List.mem_cons_self)).1)
    exact Or.inl ⟨this.1, this.2, w.1, w.2⟩
  · obtain ⟨z2, e2, r⟩ := gW_int (show gW _ _ from q) (Nat.le_of_ble_eq_true rfl)
    cases e2
    have := gR0 r
    have w := gR0 (show gR (0, 11, 11, 0, 0, 0) (M' 60 16) from (p _ List.mem_cons_self).1)
    exact Or.inr (Or.inl ⟨this.1, this.2, w.1, w.2⟩)
  · obtain ⟨z2, e2, r⟩ := gW_int (show gW _ _ from q) (Nat.le_of_ble_eq_true rfl)
    cases e2
    have := gR0 r
    have w := gR0 (show gR (0, 1, 1, 0, 0, 0) (M' 60 16) from (p _ (List.mem_cons_of_mem _ List.mem_cons_self)).1)
    exact Or.inr (Or.inr (Or.inl ⟨this.1, this.2, w.1, w.2⟩))
  · obtain ⟨z2, e2, r⟩ := gW_int (show gW _ _ from q) (Nat.le_of_ble_eq_true rfl)
    cases e2
    have := gR0 r
    have w := gR0 (show gR (0, 1, 1, 0, 0, 0) (M' 60 16) from (p _ (List.mem_cons_of_mem _ List.mem_cons_self)).1)
    exact Or.inr (Or.inr (Or.inr ⟨this.1, this.2, w.1, w.2⟩))
theorem nu_M_apart {d : Nat} (hd : 4 ≤ d) {M M' : pM} {v : Int} (hM : gM gAll M) {n : Nat} (hn : n ≤ 11) (hc : M 60 16 = (n : Int)) (e : xF d 257 [.inr 62] M = rI v M') : (-2 ≤ v ∧ v ≤ -2 ∧ M' 60 16 = (n : Int)) ∨ (-4 ≤ v ∧ v ≤ -4 ∧ M' 60 16 = (n : Int)) ∨ (0 ≤ v ∧ v ≤ 0 ∧ M' 60 16 = 1) ∨ (0 ≤ v ∧ v ≤ 999999 ∧ M' 60 16 = 1) := by
  rcases (show n = 0 ∨ n = 1 ∨ n = 2 ∨ n = 3 ∨ n = 4 ∨ n = 5 ∨ n = 6 ∨ n = 7 ∨ n = 8 ∨ n = 9 ∨ n = 10 ∨ n = 11 by omega) with rfl | rfl | rfl | rfl | rfl | rfl | rfl | rfl | rfl | rfl | rfl | rfl
  · obtain ⟨z, M2, e2, r⟩ := nu_M_apart_0 (d := d) (by omega) hM (by omega)
    obtain ⟨y1, y2⟩ := rI_inj (e.symm.trans e2)
    rw [y1, y2]
    rcases r with r | r | r | r
    · exact Or.inl (by omega)
    · exact Or.inr (Or.inl (by omega))
    · exact Or.inr (Or.inr (Or.inl (by omega)))
    · exact Or.inr (Or.inr (Or.inr ((by omega))))
  · obtain ⟨z, M2, e2, r⟩ := nu_M_apart_1 (d := d) (by omega) hM (by omega)
    obtain ⟨y1, y2⟩ := rI_inj (e.symm.trans e2)
    rw [y1, y2]
    rcases r with r | r | r | r
    · exact Or.inl (by omega)
    · exact Or.inr (Or.inl (by omega))
    · exact Or.inr (Or.inr (Or.inl (by omega)))
    · exact Or.inr (Or.inr (Or.inr ((by omega))))
  · obtain ⟨z, M2, e2, r⟩ := nu_M_apart_2 (d := d) (by omega) hM (by omega)
    obtain ⟨y1, y2⟩ := rI_inj (e.symm.trans e2)
    rw [y1, y2]
    rcases r with r | r | r | r
    · exact Or.inl (by omega)
    · exact Or.inr (Or.inl (by omega))
    · exact Or.inr (Or.inr (Or.inl (by omega)))
    · exact Or.inr (Or.inr (Or.inr ((by omega))))
  · obtain ⟨z, M2, e2, r⟩ := nu_M_apart_3 (d := d) (by omega) hM (by omega)
    obtain ⟨y1, y2⟩ := rI_inj (e.symm.trans e2)
    rw [y1, y2]
    rcases r with r | r | r | r
    · exact Or.inl (by omega)
    · exact Or.inr (Or.inl (by omega))
    · exact Or.inr (Or.inr (Or.inl (by omega)))
    · exact Or.inr (Or.inr (Or.inr ((by omega))))
  · obtain ⟨z, M2, e2, r⟩ := nu_M_apart_4 (d := d) (by omega) hM (by omega)
    obtain ⟨y1, y2⟩ := rI_inj (e.symm.trans e2)
    rw [y1, y2]
    rcases r with r | r | r | r
    · exact Or.inl (by omega)
    · exact Or.inr (Or.inl (by omega))
    · exact Or.inr (Or.inr (Or.inl (by omega)))
    · exact Or.inr (Or.inr (Or.inr ((by omega))))
  · obtain ⟨z, M2, e2, r⟩ := nu_M_apart_5 (d := d) (by omega) hM (by omega)
    obtain ⟨y1, y2⟩ := rI_inj (e.symm.trans e2)
    rw [y1, y2]
    rcases r with r | r | r | r
    · exact Or.inl (by omega)
    · exact Or.inr (Or.inl (by omega))
    · exact Or.inr (Or.inr (Or.inl (by omega)))
    · exact Or.inr (Or.inr (Or.inr ((by omega))))
  · obtain ⟨z, M2, e2, r⟩ := nu_M_apart_6 (d := d) (by omega) hM (by omega)
    obtain ⟨y1, y2⟩ := rI_inj (e.symm.trans e2)
    rw [y1, y2]
    rcases r with r | r | r | r
    · exact Or.inl (by omega)
    · exact Or.inr (Or.inl (by omega))
    · exact Or.inr (Or.inr (Or.inl (by omega)))
    · exact Or.inr (Or.inr (Or.inr ((by omega))))
  · obtain ⟨z, M2, e2, r⟩ := nu_M_apart_7 (d := d) (by omega) hM (by omega)
    obtain ⟨y1, y2⟩ := rI_inj (e.symm.trans e2)
    rw [y1, y2]
    rcases r with r | r | r | r
    · exact Or.inl (by omega)
    · exact Or.inr (Or.inl (by omega))
    · exact Or.inr (Or.inr (Or.inl (by omega)))
    · exact Or.inr (Or.inr (Or.inr ((by omega))))
  · obtain ⟨z, M2, e2, r⟩ := nu_M_apart_8 (d := d) (by omega) hM (by omega)
    obtain ⟨y1, y2⟩ := rI_inj (e.symm.trans e2)
    rw [y1, y2]
    rcases r with r | r | r | r
    · exact Or.inl (by omega)
    · exact Or.inr (Or.inl (by omega))
    · exact Or.inr (Or.inr (Or.inl (by omega)))
    · exact Or.inr (Or.inr (Or.inr ((by omega))))
  · obtain ⟨z, M2, e2, r⟩ := nu_M_apart_9 (d := d) (by omega) hM (by omega)
    obtain ⟨y1, y2⟩ := rI_inj (e.symm.trans e2)
    rw [y1, y2]
    rcases r with r | r | r | r
    · exact Or.inl (by omega)
    · exact Or.inr (Or.inl (by omega))
    · exact Or.inr (Or.inr (Or.inl (by omega)))
    · exact Or.inr (Or.inr (Or.inr ((by omega))))
  · obtain ⟨z, M2, e2, r⟩ := nu_M_apart_10 (d := d) (by omega) hM (by omega)
    obtain ⟨y1, y2⟩ := rI_inj (e.symm.trans e2)
    rw [y1, y2]
    rcases r with r | r | r | r
    · exact Or.inl (by omega)
    · exact Or.inr (Or.inl (by omega))
    · exact Or.inr (Or.inr (Or.inl (by omega)))
    · exact Or.inr (Or.inr (Or.inr ((by omega))))
  · obtain ⟨z, M2, e2, r⟩ := nu_M_apart_11 (d := d) (by omega) hM (by omega)
    obtain ⟨y1, y2⟩ := rI_inj (e.symm.trans e2)
    rw [y1, y2]
    rcases r with r | r | r | r
    · exact Or.inl (by omega)
    · exact Or.inr (Or.inl (by omega))
    · exact Or.inr (Or.inr (Or.inl (by omega)))
    · exact Or.inr (Or.inr (Or.inr ((by omega))))
theorem nu_M_hinge_0 {d : Nat} (hd : 4 ≤ d) {M : pM} {a1 : Int} (hM : gM gAll M) (h1 : -2147483648 ≤ a1 ∧ a1 ≤ 2147483647) (p0 : 0 ≤ M 60 16 ∧ M 60 16 ≤ 0) : ∃ z M', xF d 254 [.inr 62, .inl a1] M = rI z M' ∧ ((-1 ≤ z ∧ z ≤ -1 ∧ 0 ≤ M' 60 16 ∧ M' 60 16 ≤ 0) ∨ (-2 ≤ z ∧ z ≤ -2 ∧ 0 ≤ M' 60 16 ∧ M' 60 16 ≤ 0) ∨ (0 ≤ z ∧ z ≤ 5 ∧ 2 ≤ M' 60 16 ∧ M' 60 16 ≤ 2)) := by
  have c0 : cOK gAll (xF d) 254 K_882 := (ct_of (d := d) ct_ok (show K_882 ∈ CT.getD 254 [] from (show CT.getD 254 [] = [K_882, K_883, K_884, K_885, K_886, K_887, K_888, K_889, K_890, K_891, K_892, K_893] from rfl) ▸ by simp) hd)
  obtain ⟨z, M', e, -, -, alt, ha, q, p⟩ := cOK_I c0 (A := [.inr 62, .inl a1]) (show aF2 gW [aRef 62, (0, -2147483648, 2147483647, 0, 0, 0)] [.inr 62, .inl a1] from ⟨gW_o, gW_i h1.1 h1.2, trivial⟩) hM (show gP0 [(60, 16, (0, 0, 0, 0, 0, 0))] M from fun e he => by
    simp only [List.mem_cons, List.not_mem_nil, or_false] at he
    rcases he with rfl
    · exact gR_i p0.1 p0.2) rfl
  refine ⟨z, M', e, ?_⟩
  have ha : alt ∈ [(some (0, -1, -1, 0, 0, 0), [], [(60, 16, (0, 0, 0, 0, 0, 0)), (60, 17, (0, 0, 0, 0, 0, 0))]), (some (0, -2, -2, 0, 0, 0), [(4, 0, 0, 0, 0, 0), (0, 0, 5, 0, 0, 0)], [(60, 16, (0, 0, 0, 0, 0, 0)), (60, 17, (0, 0, 0, 0, 0, 0))]), (some (0, 0, 5, 0, 0, 0), [(4, 0, 0, 0, 0, 0), (0, 0, 5, 0, 0, 0)], [(60, 16, (0, 2, 2, 0, 0, 0)), (60, 17, (0, 0, 0, 0, 0, 0))])] := ha
  simp only [List.mem_cons, List.not_mem_nil, or_false] at ha
  rcases ha with rfl | rfl | rfl
  · obtain ⟨z2, e2, r⟩ := gW_int (show gW _ _ from q) (Nat.le_of_ble_eq_true rfl)
    cases e2
    have := gR0 r
    have w := gR0 (show gR (0, 0, 0, 0, 0, 0) (M' 60 16) from (p _ List.mem_cons_self).1)
    exact Or.inl ⟨this.1, this.2, w.1, w.2⟩
  · obtain ⟨z2, e2, r⟩ := gW_int (show gW _ _ from q) (Nat.le_of_ble_eq_true rfl)
    cases e2
    have := gR0 r
    have w := gR0 (show gR (0, 0, 0, 0, 0, 0) (M' 60 16) from (p _ List.mem_cons_self).1)
    exact Or.inr (Or.inl ⟨this.1, this.2, w.1, w.2⟩)
  · obtain ⟨z2, e2, r⟩ := gW_int (show gW _ _ from q) (Nat.le_of_ble_eq_true rfl)
    cases e2
    have := gR0 r
    have w := gR0 (show gR (0, 2, 2, 0, 0, 0) (M' 60 16) from (p _ List.mem_cons_self).1)
    exact Or.inr (Or.inr ⟨this.1, this.2, w.1, w.2⟩)
theorem nu_M_hinge_1 {d : Nat} (hd : 4 ≤ d) {M : pM} {a1 : Int} (hM : gM gAll M) (h1 : -2147483648 ≤ a1 ∧ a1 ≤ 2147483647) (p0 : 1 ≤ M 60 16 ∧ M 60 16 ≤ 1) : ∃ z M', xF d 254 [.inr 62, .inl a1] M = rI z M' ∧ ((-1 ≤ z ∧ z ≤ -1 ∧ 1 ≤ M' 60 16 ∧ M' 60 16 ≤ 1) ∨ (-2 ≤ z ∧ z ≤ -2 ∧ 1 ≤ M' 60 16 ∧ M' 60 16 ≤ 1) ∨ (0 ≤ z ∧ z ≤ 5 ∧ 2 ≤ M' 60 16 ∧ M' 60 16 ≤ 2)) := by
  have c0 : cOK gAll (xF d) 254 K_883 := (ct_of (d := d) ct_ok (show K_883 ∈ CT.getD 254 [] from (show CT.getD 254 [] = [K_882, K_883, K_884, K_885, K_886, K_887, K_888, K_889, K_890, K_891, K_892, K_893] from rfl) ▸ by simp) hd)
  obtain ⟨z, M', e, -, -, alt, ha, q, p⟩ := cOK_I c0 (A := [.inr 62, .inl a1]) (show aF2 gW [aRef 62, (0, -2147483648, 2147483647, 0, 0, 0)] [.inr 62, .inl a1] from ⟨gW_o, gW_i h1.1 h1.2, trivial⟩) hM (show gP0 [(60, 16, (0, 1, 1, 0, 0, 0))] M from fun e he => by
    simp only [List.mem_cons, List.not_mem_nil, or_false] at he
    rcases he with rfl
    · exact gR_i p0.1 p0.2) rfl
  refine ⟨z, M', e, ?_⟩
  have ha : alt ∈ [(some (0, -1, -1, 0, 0, 0), [], [(60, 16, (0, 1, 1, 0, 0, 0)), (60, 17, (0, 0, 0, 0, 0, 0))]), (some (0, -2, -2, 0, 0, 0), [(4, 0, 0, 0, 0, 0), (0, 0, 5, 0, 0, 0)], [(60, 16, (0, 1, 1, 0, 0, 0)), (60, 17, (0, 0, 0, 0, 0, 0))]), (some (0, 0, 5, 0, 0, 0), [(4, 0, 0, 0, 0, 0), (0, 0, 5, 0, 0, 0)], [(60, 16, (0, 2, 2, 0, 0, 0)), (60, 17, (0, 0, 0, 0, 0, 0))])] := ha
  simp only [List.mem_cons, List.not_mem_nil, or_false] at ha
  rcases ha with rfl | rfl | rfl
  · obtain ⟨z2, e2, r⟩ := gW_int (show gW _ _ from q) (Nat.le_of_ble_eq_true rfl)
    cases e2
    have := gR0 r
    have w := gR0 (show gR (0, 1, 1, 0, 0, 0) (M' 60 16) from (p _ List.mem_cons_self).1)
    exact Or.inl ⟨this.1, this.2, w.1, w.2⟩
  · obtain ⟨z2, e2, r⟩ := gW_int (show gW _ _ from q) (Nat.le_of_ble_eq_true rfl)
    cases e2
    have := gR0 r
    have w := gR0 (show gR (0, 1, 1, 0, 0, 0) (M' 60 16) from (p _ List.mem_cons_self).1)
    exact Or.inr (Or.inl ⟨this.1, this.2, w.1, w.2⟩)
  · obtain ⟨z2, e2, r⟩ := gW_int (show gW _ _ from q) (Nat.le_of_ble_eq_true rfl)
    cases e2
    have := gR0 r
    have w := gR0 (show gR (0, 2, 2, 0, 0, 0) (M' 60 16) from (p _ List.mem_cons_self).1)
    exact Or.inr (Or.inr ⟨this.1, this.2, w.1, w.2⟩)
theorem nu_M_hinge_2 {d : Nat} (hd : 4 ≤ d) {M : pM} {a1 : Int} (hM : gM gAll M) (h1 : -2147483648 ≤ a1 ∧ a1 ≤ 2147483647) (p0 : 2 ≤ M 60 16 ∧ M 60 16 ≤ 2) : ∃ z M', xF d 254 [.inr 62, .inl a1] M = rI z M' ∧ ((-1 ≤ z ∧ z ≤ -1 ∧ 2 ≤ M' 60 16 ∧ M' 60 16 ≤ 2) ∨ (-2 ≤ z ∧ z ≤ -2 ∧ 2 ≤ M' 60 16 ∧ M' 60 16 ≤ 2) ∨ (0 ≤ z ∧ z ≤ 5 ∧ 2 ≤ M' 60 16 ∧ M' 60 16 ≤ 2)) := by
  have c0 : cOK gAll (xF d) 254 K_884 := (ct_of (d := d) ct_ok (show K_884 ∈ CT.getD 254 [] from (show CT.getD 254 [] = [K_882, K_883, K_884, K_885, K_886, K_887, K_888, K_889, K_890, K_891, K_892, K_893] from rfl) ▸ by simp) hd)
  obtain ⟨z, M', e, -, -, alt, ha, q, p⟩ := cOK_I c0 (A := [.inr 62, .inl a1]) (show aF2 gW [aRef 62, (0, -2147483648, 2147483647, 0, 0, 0)] [.inr 62, .inl a1] from ⟨gW_o, gW_i h1.1 h1.2, trivial⟩) hM (show gP0 [(60, 16, (0, 2, 2, 0, 0, 0))] M from fun e he => by
    simp only [List.mem_cons, List.not_mem_nil, or_false] at he
    rcases he with rfl
    · exact gR_i p0.1 p0.2) rfl
  refine ⟨z, M', e, ?_⟩
  have ha : alt ∈ [(some (0, -1, -1, 0, 0, 0), [], [(60, 16, (0, 2, 2, 0, 0, 0)), (60, 17, (0, 0, 0, 0, 0, 0))]), (some (0, -2, -2, 0, 0, 0), [(4, 0, 0, 0, 0, 0), (0, 0, 5, 0, 0, 0)], [(60, 16, (0, 2, 2, 0, 0, 0)), (60, 17, (0, 0, 0, 0, 0, 0))]), (some (0, 0, 5, 0, 0, 0), [(4, 0, 0, 0, 0, 0), (0, 0, 5, 0, 0, 0)], [(60, 16, (0, 2, 2, 0, 0, 0)), (60, 17, (0, 0, 0, 0, 0, 0))])] := ha
  simp only [List.mem_cons, List.not_mem_nil, or_false] at ha
  rcases ha with rfl | rfl | rfl
  · obtain ⟨z2, e2, r⟩ := gW_int (show gW _ _ from q) (Nat.le_of_ble_eq_true rfl)
    cases e2
    have := gR0 r
    have w := gR0 (show gR (0, 2, 2, 0, 0, 0) (M' 60 16) from (p _ List.mem_cons_self).1)
    exact Or.inl ⟨this.1, this.2, w.1, w.2⟩
  · obtain ⟨z2, e2, r⟩ := gW_int (show gW _ _ from q) (Nat.le_of_ble_eq_true rfl)
    cases e2
    have := gR0 r
    have w := gR0 (show gR (0, 2, 2, 0, 0, 0) (M' 60 16) from (p _ List.mem_cons_self).1)
    exact Or.inr (Or.inl ⟨this.1, this.2, w.1, w.2⟩)
  · obtain ⟨z2, e2, r⟩ := gW_int (show gW _ _ from q) (Nat.le_of_ble_eq_true rfl)
    cases e2
    have := gR0 r
    have w := gR0 (show gR (0, 2, 2, 0, 0, 0) (M' 60 16) from (p _ List.mem_cons_self).1)
    exact Or.inr (Or.inr ⟨this.1, this.2, w.1, w.2⟩)
theorem nu_M_hinge_3 {d : Nat} (hd : 4 ≤ d) {M : pM} {a1 : Int} (hM : gM gAll M) (h1 : -2147483648 ≤ a1 ∧ a1 ≤ 2147483647) (p0 : 3 ≤ M 60 16 ∧ M 60 16 ≤ 3) : ∃ z M', xF d 254 [.inr 62, .inl a1] M = rI z M' ∧ ((-1 ≤ z ∧ z ≤ -1 ∧ 3 ≤ M' 60 16 ∧ M' 60 16 ≤ 3) ∨ (-2 ≤ z ∧ z ≤ -2 ∧ 3 ≤ M' 60 16 ∧ M' 60 16 ≤ 3) ∨ (0 ≤ z ∧ z ≤ 5 ∧ 2 ≤ M' 60 16 ∧ M' 60 16 ≤ 2)) := by
  have c0 : cOK gAll (xF d) 254 K_885 := (ct_of (d := d) ct_ok (show K_885 ∈ CT.getD 254 [] from (show CT.getD 254 [] = [K_882, K_883, K_884, K_885, K_886, K_887, K_888, K_889, K_890, K_891, K_892, K_893] from rfl) ▸ by simp) hd)
  obtain ⟨z, M', e, -, -, alt, ha, q, p⟩ := cOK_I c0 (A := [.inr 62, .inl a1]) (show aF2 gW [aRef 62, (0, -2147483648, 2147483647, 0, 0, 0)] [.inr 62, .inl a1] from ⟨gW_o, gW_i h1.1 h1.2, trivial⟩) hM (show gP0 [(60, 16, (0, 3, 3, 0, 0, 0))] M from fun e he => by
    simp only [List.mem_cons, List.not_mem_nil, or_false] at he
    rcases he with rfl
    · exact gR_i p0.1 p0.2) rfl
  refine ⟨z, M', e, ?_⟩
  have ha : alt ∈ [(some (0, -1, -1, 0, 0, 0), [], [(60, 16, (0, 3, 3, 0, 0, 0)), (60, 17, (0, 0, 0, 0, 0, 0))]), (some (0, -2, -2, 0, 0, 0), [(4, 0, 0, 0, 0, 0), (0, 0, 5, 0, 0, 0)], [(60, 16, (0, 3, 3, 0, 0, 0)), (60, 17, (0, 0, 0, 0, 0, 0))]), (some (0, 0, 5, 0, 0, 0), [(4, 0, 0, 0, 0, 0), (0, 0, 5, 0, 0, 0)], [(60, 16, (0, 2, 2, 0, 0, 0)), (60, 17, (0, 0, 0, 0, 0, 0))])] := ha
  simp only [List.mem_cons, List.not_mem_nil, or_false] at ha
  rcases ha with rfl | rfl | rfl
  · obtain ⟨z2, e2, r⟩ := gW_int (show gW _ _ from q) (Nat.le_of_ble_eq_true rfl)
    cases e2
    have := gR0 r
    have w := gR0 (show gR (0, 3, 3, 0, 0, 0) (M' 60 16) from (p _ List.mem_cons_self).1)
    exact Or.inl ⟨this.1, this.2, w.1, w.2⟩
  · obtain ⟨z2, e2, r⟩ := gW_int (show gW _ _ from q) (Nat.le_of_ble_eq_true rfl)
    cases e2
    have := gR0 r
    have w := gR0 (show gR (0, 3, 3, 0, 0, 0) (M' 60 16) from (p _ List.mem_cons_self).1)
    exact Or.inr (Or.inl ⟨this.1, this.2, w.1, w.2⟩)
  · obtain ⟨z2, e2, r⟩ := gW_int (show gW _ _ from q) (Nat.le_of_ble_eq_true rfl)
    cases e2
    have := gR0 r
    have w := gR0 (show gR (0, 2, 2, 0, 0, 0) (M' 60 16) from (p _ List.mem_cons_self).1)
    exact Or.inr (Or.inr ⟨this.1, this.2, w.1, w.2⟩)
theorem nu_M_hinge_4 {d : Nat} (hd : 4 ≤ d) {M : pM} {a1 : Int} (hM : gM gAll M) (h1 : -2147483648 ≤ a1 ∧ a1 ≤ 2147483647) (p0 : 4 ≤ M 60 16 ∧ M 60 16 ≤ 4) : ∃ z M', xF d 254 [.inr 62, .inl a1] M = rI z M' ∧ ((-1 ≤ z ∧ z ≤ -1 ∧ 4 ≤ M' 60 16 ∧ M' 60 16 ≤ 4) ∨ (-2 ≤ z ∧ z ≤ -2 ∧ 4 ≤ M' 60 16 ∧ M' 60 16 ≤ 4) ∨ (0 ≤ z ∧ z ≤ 5 ∧ 2 ≤ M' 60 16 ∧ M' 60 16 ≤ 2)) := by
  have c0 : cOK gAll (xF d) 254 K_886 := (ct_of (d := d) ct_ok (show K_886 ∈ CT.getD 254 [] from (show CT.getD 254 [] = [K_882, K_883, K_884, K_885, K_886, K_887, K_888, K_889, K_890, K_891, K_892, K_893] from rfl) ▸ by simp) hd)
  obtain ⟨z, M', e, -, -, alt, ha, q, p⟩ := cOK_I c0 (A := [.inr 62, .inl a1]) (show aF2 gW [aRef 62, (0, -2147483648, 2147483647, 0, 0, 0)] [.inr 62, .inl a1] from ⟨gW_o, gW_i h1.1 h1.2, trivial⟩) hM (show gP0 [(60, 16, (0, 4, 4, 0, 0, 0))] M from fun e he => by
    simp only [List.mem_cons, List.not_mem_nil, or_false] at he
    rcases he with rfl
    · exact gR_i p0.1 p0.2) rfl
  refine ⟨z, M', e, ?_⟩
  have ha : alt ∈ [(some (0, -1, -1, 0, 0, 0), [], [(60, 16, (0, 4, 4, 0, 0, 0)), (60, 17, (0, 0, 0, 0, 0, 0))]), (some (0, -2, -2, 0, 0, 0), [(4, 0, 0, 0, 0, 0), (0, 0, 5, 0, 0, 0)], [(60, 16, (0, 4, 4, 0, 0, 0)), (60, 17, (0, 0, 0, 0, 0, 0))]), (some (0, 0, 5, 0, 0, 0), [(4, 0, 0, 0, 0, 0), (0, 0, 5, 0, 0, 0)], [(60, 16, (0, 2, 2, 0, 0, 0)), (60, 17, (0, 0, 0, 0, 0, 0))])] := ha
  simp only [List.mem_cons, List.not_mem_nil, or_false] at ha
  rcases ha with rfl | rfl | rfl
  · obtain ⟨z2, e2, r⟩ := gW_int (show gW _ _ from q) (Nat.le_of_ble_eq_true rfl)
    cases e2
    have := gR0 r
    have w := gR0 (show gR (0, 4, 4, 0, 0, 0) (M' 60 16) from (p _ List.mem_cons_self).1)
    exact Or.inl ⟨this.1, this.2, w.1, w.2⟩
  · obtain ⟨z2, e2, r⟩ := gW_int (show gW _ _ from q) (Nat.le_of_ble_eq_true rfl)
    cases e2
    have := gR0 r
    have w := gR0 (show gR (0, 4, 4, 0, 0, 0) (M' 60 16) from (p _ List.mem_cons_self).1)
    exact Or.inr (Or.inl ⟨this.1, this.2, w.1, w.2⟩)
  · obtain ⟨z2, e2, r⟩ := gW_int (show gW _ _ from q) (Nat.le_of_ble_eq_true rfl)
    cases e2
    have := gR0 r
    have w := gR0 (show gR (0, 2, 2, 0, 0, 0) (M' 60 16) from (p _ List.mem_cons_self).1)
    exact Or.inr (Or.inr ⟨this.1, this.2, w.1, w.2⟩)
theorem nu_M_hinge_5 {d : Nat} (hd : 4 ≤ d) {M : pM} {a1 : Int} (hM : gM gAll M) (h1 : -2147483648 ≤ a1 ∧ a1 ≤ 2147483647) (p0 : 5 ≤ M 60 16 ∧ M 60 16 ≤ 5) : ∃ z M', xF d 254 [.inr 62, .inl a1] M = rI z M' ∧ ((-1 ≤ z ∧ z ≤ -1 ∧ 5 ≤ M' 60 16 ∧ M' 60 16 ≤ 5) ∨ (-2 ≤ z ∧ z ≤ -2 ∧ 5 ≤ M' 60 16 ∧ M' 60 16 ≤ 5) ∨ (0 ≤ z ∧ z ≤ 5 ∧ 2 ≤ M' 60 16 ∧ M' 60 16 ≤ 2)) := by
  have c0 : cOK gAll (xF d) 254 K_887 := (ct_of (d := d) ct_ok (show K_887 ∈ CT.getD 254 [] from (show CT.getD 254 [] = [K_882, K_883, K_884, K_885, K_886, K_887, K_888, K_889, K_890, K_891, K_892, K_893] from rfl) ▸ by simp) hd)
  obtain ⟨z, M', e, -, -, alt, ha, q, p⟩ := cOK_I c0 (A := [.inr 62, .inl a1]) (show aF2 gW [aRef 62, (0, -2147483648, 2147483647, 0, 0, 0)] [.inr 62, .inl a1] from ⟨gW_o, gW_i h1.1 h1.2, trivial⟩) hM (show gP0 [(60, 16, (0, 5, 5, 0, 0, 0))] M from fun e he => by
    simp only [List.mem_cons, List.not_mem_nil, or_false] at he
    rcases he with rfl
    · exact gR_i p0.1 p0.2) rfl
  refine ⟨z, M', e, ?_⟩
  have ha : alt ∈ [(some (0, -1, -1, 0, 0, 0), [], [(60, 16, (0, 5, 5, 0, 0, 0)), (60, 17, (0, 0, 0, 0, 0, 0))]), (some (0, -2, -2, 0, 0, 0), [(4, 0, 0, 0, 0, 0), (0, 0, 5, 0, 0, 0)], [(60, 16, (0, 5, 5, 0, 0, 0)), (60, 17, (0, 0, 0, 0, 0, 0))]), (some (0, 0, 5, 0, 0, 0), [(4, 0, 0, 0, 0, 0), (0, 0, 5, 0, 0, 0)], [(60, 16, (0, 2, 2, 0, 0, 0)), (60, 17, (0, 0, 0, 0, 0, 0))])] := ha
  simp only [List.mem_cons, List.not_mem_nil, or_false] at ha
  rcases ha with rfl | rfl | rfl
  · obtain ⟨z2, e2, r⟩ := gW_int (show gW _ _ from q) (Nat.le_of_ble_eq_true rfl)
    cases e2
    have := gR0 r
    have w := gR0 (show gR (0, 5, 5, 0, 0, 0) (M' 60 16) from (p _ List.mem_cons_self).1)
    exact Or.inl ⟨this.1, this.2, w.1, w.2⟩
  · obtain ⟨z2, e2, r⟩ := gW_int (show gW _ _ from q) (Nat.le_of_ble_eq_true rfl)
    cases e2
    have := gR0 r
    have w := gR0 (show gR (0, 5, 5, 0, 0, 0) (M' 60 16) from (p _ List.mem_cons_self).1)
    exact Or.inr (Or.inl ⟨this.1, this.2, w.1, w.2⟩)
  · obtain ⟨z2, e2, r⟩ := gW_int (show gW _ _ from q) (Nat.le_of_ble_eq_true rfl)
    cases e2
    have := gR0 r
    have w := gR0 (show gR (0, 2, 2, 0, 0, 0) (M' 60 16) from (p _ List.mem_cons_self).1)
    exact Or.inr (Or.inr ⟨this.1, this.2, w.1, w.2⟩)
theorem nu_M_hinge_6 {d : Nat} (hd : 4 ≤ d) {M : pM} {a1 : Int} (hM : gM gAll M) (h1 : -2147483648 ≤ a1 ∧ a1 ≤ 2147483647) (p0 : 6 ≤ M 60 16 ∧ M 60 16 ≤ 6) : ∃ z M', xF d 254 [.inr 62, .inl a1] M = rI z M' ∧ ((-1 ≤ z ∧ z ≤ -1 ∧ 6 ≤ M' 60 16 ∧ M' 60 16 ≤ 6) ∨ (-2 ≤ z ∧ z ≤ -2 ∧ 6 ≤ M' 60 16 ∧ M' 60 16 ≤ 6) ∨ (0 ≤ z ∧ z ≤ 5 ∧ 2 ≤ M' 60 16 ∧ M' 60 16 ≤ 2)) := by
  have c0 : cOK gAll (xF d) 254 K_888 := (ct_of (d := d) ct_ok (show K_888 ∈ CT.getD 254 [] from (show CT.getD 254 [] = [K_882, K_883, K_884, K_885, K_886, K_887, K_888, K_889, K_890, K_891, K_892, K_893] from rfl) ▸ by simp) hd)
  obtain ⟨z, M', e, -, -, alt, ha, q, p⟩ := cOK_I c0 (A := [.inr 62, .inl a1]) (show aF2 gW [aRef 62, (0, -2147483648, 2147483647, 0, 0, 0)] [.inr 62, .inl a1] from ⟨gW_o, gW_i h1.1 h1.2, trivial⟩) hM (show gP0 [(60, 16, (0, 6, 6, 0, 0, 0))] M from fun e he => by
    simp only [List.mem_cons, List.not_mem_nil, or_false] at he
    rcases he with rfl
    · exact gR_i p0.1 p0.2) rfl
  refine ⟨z, M', e, ?_⟩
  have ha : alt ∈ [(some (0, -1, -1, 0, 0, 0), [], [(60, 16, (0, 6, 6, 0, 0, 0)), (60, 17, (0, 0, 0, 0, 0, 0))]), (some (0, -2, -2, 0, 0, 0), [(4, 0, 0, 0, 0, 0), (0, 0, 5, 0, 0, 0)], [(60, 16, (0, 6, 6, 0, 0, 0)), (60, 17, (0, 0, 0, 0, 0, 0))]), (some (0, 0, 5, 0, 0, 0), [(4, 0, 0, 0, 0, 0), (0, 0, 5, 0, 0, 0)], [(60, 16, (0, 2, 2, 0, 0, 0)), (60, 17, (0, 0, 0, 0, 0, 0))])] := ha
  simp only [List.mem_cons, List.not_mem_nil, or_false] at ha
  rcases ha with rfl | rfl | rfl
  · obtain ⟨z2, e2, r⟩ := gW_int (show gW _ _ from q) (Nat.le_of_ble_eq_true rfl)
    cases e2
    have := gR0 r
    have w := gR0 (show gR (0, 6, 6, 0, 0, 0) (M' 60 16) from (p _ List.mem_cons_self).1)
    exact Or.inl ⟨this.1, this.2, w.1, w.2⟩
  · obtain ⟨z2, e2, r⟩ := gW_int (show gW _ _ from q) (Nat.le_of_ble_eq_true rfl)
    cases e2
    have := gR0 r
    have w := gR0 (show gR (0, 6, 6, 0, 0, 0) (M' 60 16) from (p _ List.mem_cons_self).1)
    exact Or.inr (Or.inl ⟨this.1, this.2, w.1, w.2⟩)
  · obtain ⟨z2, e2, r⟩ := gW_int (show gW _ _ from q) (Nat.le_of_ble_eq_true rfl)
    cases e2
    have := gR0 r
    have w := gR0 (show gR (0, 2, 2, 0, 0, 0) (M' 60 16) from (p _ List.mem_cons_self).1)
    exact Or.inr (Or.inr ⟨this.1, this.2, w.1, w.2⟩)
theorem nu_M_hinge_7 {d : Nat} (hd : 4 ≤ d) {M : pM} {a1 : Int} (hM : gM gAll M) (h1 : -2147483648 ≤ a1 ∧ a1 ≤ 2147483647) (p0 : 7 ≤ M 60 16 ∧ M 60 16 ≤ 7) : ∃ z M', xF d 254 [.inr 62, .inl a1] M = rI z M' ∧ ((-1 ≤ z ∧ z ≤ -1 ∧ 7 ≤ M' 60 16 ∧ M' 60 16 ≤ 7) ∨ (-2 ≤ z ∧ z ≤ -2 ∧ 7 ≤ M' 60 16 ∧ M' 60 16 ≤ 7) ∨ (0 ≤ z ∧ z ≤ 5 ∧ 2 ≤ M' 60 16 ∧ M' 60 16 ≤ 2)) := by
  have c0 : cOK gAll (xF d) 254 K_889 := (ct_of (d := d) ct_ok (show K_889 ∈ CT.getD 254 [] from (show CT.getD 254 [] = [K_882, K_883, K_884, K_885, K_886, K_887, K_888, K_889, K_890, K_891, K_892, K_893] from rfl) ▸ by simp) hd)
  obtain ⟨z, M', e, -, -, alt, ha, q, p⟩ := cOK_I c0 (A := [.inr 62, .inl a1]) (show aF2 gW [aRef 62, (0, -2147483648, 2147483647, 0, 0, 0)] [.inr 62, .inl a1] from ⟨gW_o, gW_i h1.1 h1.2, trivial⟩) hM (show gP0 [(60, 16, (0, 7, 7, 0, 0, 0))] M from fun e he => by
    simp only [List.mem_cons, List.not_mem_nil, or_false] at he
    rcases he with rfl
    · exact gR_i p0.1 p0.2) rfl
  refine ⟨z, M', e, ?_⟩
  have ha : alt ∈ [(some (0, -1, -1, 0, 0, 0), [], [(60, 16, (0, 7, 7, 0, 0, 0)), (60, 17, (0, 0, 0, 0, 0, 0))]), (some (0, -2, -2, 0, 0, 0), [(4, 0, 0, 0, 0, 0), (0, 0, 5, 0, 0, 0)], [(60, 16, (0, 7, 7, 0, 0, 0)), (60, 17, (0, 0, 0, 0, 0, 0))]), (some (0, 0, 5, 0, 0, 0), [(4, 0, 0, 0, 0, 0), (0, 0, 5, 0, 0, 0)], [(60, 16, (0, 2, 2, 0, 0, 0)), (60, 17, (0, 0, 0, 0, 0, 0))])] := ha
  simp only [List.mem_cons, List.not_mem_nil, or_false] at ha
  rcases ha with rfl | rfl | rfl
  · obtain ⟨z2, e2, r⟩ := gW_int (show gW _ _ from q) (Nat.le_of_ble_eq_true rfl)
    cases e2
    have := gR0 r
    have w := gR0 (show gR (0, 7, 7, 0, 0, 0) (M' 60 16) from (p _ List.mem_cons_self).1)
    exact Or.inl ⟨this.1, this.2, w.1, w.2⟩
  · obtain ⟨z2, e2, r⟩ := gW_int (show gW _ _ from q) (Nat.le_of_ble_eq_true rfl)
    cases e2
    have := gR0 r
    have w := gR0 (show gR (0, 7, 7, 0, 0, 0) (M' 60 16) from (p _ List.mem_cons_self).1)
    exact Or.inr (Or.inl ⟨this.1, this.2, w.1, w.2⟩)
  · obtain ⟨z2, e2, r⟩ := gW_int (show gW _ _ from q) (Nat.le_of_ble_eq_true rfl)
    cases e2
    have := gR0 r
    have w := gR0 (show gR (0, 2, 2, 0, 0, 0) (M' 60 16) from (p _ List.mem_cons_self).1)
    exact Or.inr (Or.inr ⟨this.1, this.2, w.1, w.2⟩)
theorem nu_M_hinge_8 {d : Nat} (hd : 4 ≤ d) {M : pM} {a1 : Int} (hM : gM gAll M) (h1 : -2147483648 ≤ a1 ∧ a1 ≤ 2147483647) (p0 : 8 ≤ M 60 16 ∧ M 60 16 ≤ 8) : ∃ z M', xF d 254 [.inr 62, .inl a1] M = rI z M' ∧ ((-1 ≤ z ∧ z ≤ -1 ∧ 8 ≤ M' 60 16 ∧ M' 60 16 ≤ 8) ∨ (-2 ≤ z ∧ z ≤ -2 ∧ 8 ≤ M' 60 16 ∧ M' 60 16 ≤ 8) ∨ (0 ≤ z ∧ z ≤ 5 ∧ 2 ≤ M' 60 16 ∧ M' 60 16 ≤ 2)) := by
  have c0 : cOK gAll (xF d) 254 K_890 := (ct_of (d := d) ct_ok (show K_890 ∈ CT.getD 254 [] from (show CT.getD 254 [] = [K_882, K_883, K_884, K_885, K_886, K_887, K_888, K_889, K_890, K_891, K_892, K_893] from rfl) ▸ by simp) hd)
  obtain ⟨z, M', e, -, -, alt, ha, q, p⟩ := cOK_I c0 (A := [.inr 62, .inl a1]) (show aF2 gW [aRef 62, (0, -2147483648, 2147483647, 0, 0, 0)] [.inr 62, .inl a1] from ⟨gW_o, gW_i h1.1 h1.2, trivial⟩) hM (show gP0 [(60, 16, (0, 8, 8, 0, 0, 0))] M from fun e he => by
    simp only [List.mem_cons, List.not_mem_nil, or_false] at he
    rcases he with rfl
    · exact gR_i p0.1 p0.2) rfl
  refine ⟨z, M', e, ?_⟩
  have ha : alt ∈ [(some (0, -1, -1, 0, 0, 0), [], [(60, 16, (0, 8, 8, 0, 0, 0)), (60, 17, (0, 0, 0, 0, 0, 0))]), (some (0, -2, -2, 0, 0, 0), [(4, 0, 0, 0, 0, 0), (0, 0, 5, 0, 0, 0)], [(60, 16, (0, 8, 8, 0, 0, 0)), (60, 17, (0, 0, 0, 0, 0, 0))]), (some (0, 0, 5, 0, 0, 0), [(4, 0, 0, 0, 0, 0), (0, 0, 5, 0, 0, 0)], [(60, 16, (0, 2, 2, 0, 0, 0)), (60, 17, (0, 0, 0, 0, 0, 0))])] := ha
  simp only [List.mem_cons, List.not_mem_nil, or_false] at ha
  rcases ha with rfl | rfl | rfl
  · obtain ⟨z2, e2, r⟩ := gW_int (show gW _ _ from q) (Nat.le_of_ble_eq_true rfl)
    cases e2
    have := gR0 r
    have w := gR0 (show gR (0, 8, 8, 0, 0, 0) (M' 60 16) from (p _ List.mem_cons_self).1)
    exact Or.inl ⟨this.1, this.2, w.1, w.2⟩
  · obtain ⟨z2, e2, r⟩ := gW_int (show gW _ _ from q) (Nat.le_of_ble_eq_true rfl)
    cases e2
    have := gR0 r
    have w := gR0 (show gR (0, 8, 8, 0, 0, 0) (M' 60 16) from (p _ List.mem_cons_self).1)
    exact Or.inr (Or.inl ⟨this.1, this.2, w.1, w.2⟩)
  · obtain ⟨z2, e2, r⟩ := gW_int (show gW _ _ from q) (Nat.le_of_ble_eq_true rfl)
    cases e2
    have := gR0 r
    have w := gR0 (show gR (0, 2, 2, 0, 0, 0) (M' 60 16) from (p _ List.mem_cons_self).1)
    exact Or.inr (Or.inr ⟨this.1, this.2, w.1, w.2⟩)
theorem nu_M_hinge_9 {d : Nat} (hd : 4 ≤ d) {M : pM} {a1 : Int} (hM : gM gAll M) (h1 : -2147483648 ≤ a1 ∧ a1 ≤ 2147483647) (p0 : 9 ≤ M 60 16 ∧ M 60 16 ≤ 9) : ∃ z M', xF d 254 [.inr 62, .inl a1] M = rI z M' ∧ ((-1 ≤ z ∧ z ≤ -1 ∧ 9 ≤ M' 60 16 ∧ M' 60 16 ≤ 9) ∨ (-2 ≤ z ∧ z ≤ -2 ∧ 9 ≤ M' 60 16 ∧ M' 60 16 ≤ 9) ∨ (0 ≤ z ∧ z ≤ 5 ∧ 2 ≤ M' 60 16 ∧ M' 60 16 ≤ 2)) := by
  have c0 : cOK gAll (xF d) 254 K_891 := (ct_of (d := d) ct_ok (show K_891 ∈ CT.getD 254 [] from (show CT.getD 254 [] = [K_882, K_883, K_884, K_885, K_886, K_887, K_888, K_889, K_890, K_891, K_892, K_893] from rfl) ▸ by simp) hd)
  obtain ⟨z, M', e, -, -, alt, ha, q, p⟩ := cOK_I c0 (A := [.inr 62, .inl a1]) (show aF2 gW [aRef 62, (0, -2147483648, 2147483647, 0, 0, 0)] [.inr 62, .inl a1] from ⟨gW_o, gW_i h1.1 h1.2, trivial⟩) hM (show gP0 [(60, 16, (0, 9, 9, 0, 0, 0))] M from fun e he => by
    simp only [List.mem_cons, List.not_mem_nil, or_false] at he
    rcases he with rfl
    · exact gR_i p0.1 p0.2) rfl
  refine ⟨z, M', e, ?_⟩
  have ha : alt ∈ [(some (0, -1, -1, 0, 0, 0), [], [(60, 16, (0, 9, 9, 0, 0, 0)), (60, 17, (0, 0, 0, 0, 0, 0))]), (some (0, -2, -2, 0, 0, 0), [(4, 0, 0, 0, 0, 0), (0, 0, 5, 0, 0, 0)], [(60, 16, (0, 9, 9, 0, 0, 0)), (60, 17, (0, 0, 0, 0, 0, 0))]), (some (0, 0, 5, 0, 0, 0), [(4, 0, 0, 0, 0, 0), (0, 0, 5, 0, 0, 0)], [(60, 16, (0, 2, 2, 0, 0, 0)), (60, 17, (0, 0, 0, 0, 0, 0))])] := ha
  simp only [List.mem_cons, List.not_mem_nil, or_false] at ha
  rcases ha with rfl | rfl | rfl
  · obtain ⟨z2, e2, r⟩ := gW_int (show gW _ _ from q) (Nat.le_of_ble_eq_true rfl)
    cases e2
    have := gR0 r
    have w := gR0 (show gR (0, 9, 9, 0, 0, 0) (M' 60 16) from (p _ List.mem_cons_self).1)
    exact Or.inl ⟨this.1, this.2, w.1, w.2⟩
  · obtain ⟨z2, e2, r⟩ := gW_int (show gW _ _ from q) (Nat.le_of_ble_eq_true rfl)
    cases e2
    have := gR0 r
    have w := gR0 (show gR (0, 9, 9, 0, 0, 0) (M' 60 16) from (p _ List.mem_cons_self).1)
    exact Or.inr (Or.inl ⟨this.1, this.2, w.1, w.2⟩)
  · obtain ⟨z2, e2, r⟩ := gW_int (show gW _ _ from q) (Nat.le_of_ble_eq_true rfl)
    cases e2
    have := gR0 r
    have w := gR0 (show gR (0, 2, 2, 0, 0, 0) (M' 60 16) from (p _ List.mem_cons_self).1)
    exact Or.inr (Or.inr ⟨this.1, this.2, w.1, w.2⟩)
theorem nu_M_hinge_10 {d : Nat} (hd : 4 ≤ d) {M : pM} {a1 : Int} (hM : gM gAll M) (h1 : -2147483648 ≤ a1 ∧ a1 ≤ 2147483647) (p0 : 10 ≤ M 60 16 ∧ M 60 16 ≤ 10) : ∃ z M', xF d 254 [.inr 62, .inl a1] M = rI z M' ∧ ((-1 ≤ z ∧ z ≤ -1 ∧ 10 ≤ M' 60 16 ∧ M' 60 16 ≤ 10) ∨ (-2 ≤ z ∧ z ≤ -2 ∧ 10 ≤ M' 60 16 ∧ M' 60 16 ≤ 10) ∨ (0 ≤ z ∧ z ≤ 5 ∧ 2 ≤ M' 60 16 ∧ M' 60 16 ≤ 2)) := by
  have c0 : cOK gAll (xF d) 254 K_892 := (ct_of (d := d) ct_ok (show K_892 ∈ CT.getD 254 [] from (show CT.getD 254 [] = [K_882, K_883, K_884, K_885, K_886, K_887, K_888, K_889, K_890, K_891, K_892, K_893] from rfl) ▸ by simp) hd)
  obtain ⟨z, M', e, -, -, alt, ha, q, p⟩ := cOK_I c0 (A := [.inr 62, .inl a1]) (show aF2 gW [aRef 62, (0, -2147483648, 2147483647, 0, 0, 0)] [.inr 62, .inl a1] from ⟨gW_o, gW_i h1.1 h1.2, trivial⟩) hM (show gP0 [(60, 16, (0, 10, 10, 0, 0, 0))] M from fun e he => by
    simp only [List.mem_cons, List.not_mem_nil, or_false] at he
    rcases he with rfl
    · exact gR_i p0.1 p0.2) rfl
  refine ⟨z, M', e, ?_⟩
  have ha : alt ∈ [(some (0, -1, -1, 0, 0, 0), [], [(60, 16, (0, 10, 10, 0, 0, 0)), (60, 17, (0, 0, 0, 0, 0, 0))]), (some (0, -2, -2, 0, 0, 0), [(4, 0, 0, 0, 0, 0), (0, 0, 5, 0, 0, 0)], [(60, 16, (0, 10, 10, 0, 0, 0)), (60, 17, (0, 0, 0, 0, 0, 0))]), (some (0, 0, 5, 0, 0, 0), [(4, 0, 0, 0, 0, 0), (0, 0, 5, 0, 0, 0)], [(60, 16, (0, 2, 2, 0, 0, 0)), (60, 17, (0, 0, 0, 0, 0, 0))])] := ha
  simp only [List.mem_cons, List.not_mem_nil, or_false] at ha
  rcases ha with rfl | rfl | rfl
  · obtain ⟨z2, e2, r⟩ := gW_int (show gW _ _ from q) (Nat.le_of_ble_eq_true rfl)
    cases e2
    have := gR0 r
    have w := gR0 (show gR (0, 10, 10, 0, 0, 0) (M' 60 16) from (p _ List.mem_cons_self).1)
    exact Or.inl ⟨this.1, this.2, w.1, w.2⟩
  · obtain ⟨z2, e2, r⟩ := gW_int (show gW _ _ from q) (Nat.le_of_ble_eq_true rfl)
    cases e2
    have := gR0 r
    have w := gR0 (show gR (0, 10, 10, 0, 0, 0) (M' 60 16) from (p _ List.mem_cons_self).1)
    exact Or.inr (Or.inl ⟨this.1, this.2, w.1, w.2⟩)
  · obtain ⟨z2, e2, r⟩ := gW_int (show gW _ _ from q) (Nat.le_of_ble_eq_true rfl)
    cases e2
    have := gR0 r
    have w := gR0 (show gR (0, 2, 2, 0, 0, 0) (M' 60 16) from (p _ List.mem_cons_self).1)
    exact Or.inr (Or.inr ⟨this.1, this.2, w.1, w.2⟩)
theorem nu_M_hinge_11 {d : Nat} (hd : 4 ≤ d) {M : pM} {a1 : Int} (hM : gM gAll M) (h1 : -2147483648 ≤ a1 ∧ a1 ≤ 2147483647) (p0 : 11 ≤ M 60 16 ∧ M 60 16 ≤ 11) : ∃ z M', xF d 254 [.inr 62, .inl a1] M = rI z M' ∧ ((-1 ≤ z ∧ z ≤ -1 ∧ 11 ≤ M' 60 16 ∧ M' 60 16 ≤ 11) ∨ (-2 ≤ z ∧ z ≤ -2 ∧ 11 ≤ M' 60 16 ∧ M' 60 16 ≤ 11) ∨ (0 ≤ z ∧ z ≤ 5 ∧ 2 ≤ M' 60 16 ∧ M' 60 16 ≤ 2)) := by
  have c0 : cOK gAll (xF d) 254 K_893 := (ct_of (d := d) ct_ok (show K_893 ∈ CT.getD 254 [] from (show CT.getD 254 [] = [K_882, K_883, K_884, K_885, K_886, K_887, K_888, K_889, K_890, K_891, K_892, K_893] from rfl) ▸ by simp) hd)
  obtain ⟨z, M', e, -, -, alt, ha, q, p⟩ := cOK_I c0 (A := [.inr 62, .inl a1]) (show aF2 gW [aRef 62, (0, -2147483648, 2147483647, 0, 0, 0)] [.inr 62, .inl a1] from ⟨gW_o, gW_i h1.1 h1.2, trivial⟩) hM (show gP0 [(60, 16, (0, 11, 11, 0, 0, 0))] M from fun e he => by
    simp only [List.mem_cons, List.not_mem_nil, or_false] at he
    rcases he with rfl
    · exact gR_i p0.1 p0.2) rfl
  refine ⟨z, M', e, ?_⟩
  have ha : alt ∈ [(some (0, -1, -1, 0, 0, 0), [], [(60, 16, (0, 11, 11, 0, 0, 0)), (60, 17, (0, 0, 0, 0, 0, 0))]), (some (0, -2, -2, 0, 0, 0), [(4, 0, 0, 0, 0, 0), (0, 0, 5, 0, 0, 0)], [(60, 16, (0, 11, 11, 0, 0, 0)), (60, 17, (0, 0, 0, 0, 0, 0))]), (some (0, 0, 5, 0, 0, 0), [(4, 0, 0, 0, 0, 0), (0, 0, 5, 0, 0, 0)], [(60, 16, (0, 2, 2, 0, 0, 0)), (60, 17, (0, 0, 0, 0, 0, 0))])] := ha
  simp only [List.mem_cons, List.not_mem_nil, or_false] at ha
  rcases ha with rfl | rfl | rfl
  · obtain ⟨z2, e2, r⟩ := gW_int (show gW _ _ from q) (Nat.le_of_ble_eq_true rfl)
    cases e2
    have := gR0 r
    have w := gR0 (show gR (0, 11, 11, 0, 0, 0) (M' 60 16) from (p _ List.mem_cons_self).1)
    exact Or.inl ⟨this.1, this.2, w.1, w.2⟩
  · obtain ⟨z2, e2, r⟩ := gW_int (show gW _ _ from q) (Nat.le_of_ble_eq_true rfl)
    cases e2
    have := gR0 r
    have w := gR0 (show gR (0, 11, 11, 0, 0, 0) (M' 60 16) from (p _ List.mem_cons_self).1)
    exact Or.inr (Or.inl ⟨this.1, this.2, w.1, w.2⟩)
  · obtain ⟨z2, e2, r⟩ := gW_int (show gW _ _ from q) (Nat.le_of_ble_eq_true rfl)
    cases e2
    have := gR0 r
    have w := gR0 (show gR (0, 2, 2, 0, 0, 0) (M' 60 16) from (p _ List.mem_cons_self).1)
    exact Or.inr (Or.inr ⟨this.1, this.2, w.1, w.2⟩)
theorem nu_M_hinge {d : Nat} (hd : 4 ≤ d) {M M' : pM} {a1 : Int} {v : Int} (hM : gM gAll M) (h1 : -2147483648 ≤ a1 ∧ a1 ≤ 2147483647) {n : Nat} (hn : n ≤ 11) (hc : M 60 16 = (n : Int)) (e : xF d 254 [.inr 62, .inl a1] M = rI v M') : (-1 ≤ v ∧ v ≤ -1 ∧ M' 60 16 = (n : Int)) ∨ (-2 ≤ v ∧ v ≤ -2 ∧ M' 60 16 = (n : Int)) ∨ (0 ≤ v ∧ v ≤ 5 ∧ M' 60 16 = 2) := by
  rcases (show n = 0 ∨ n = 1 ∨ n = 2 ∨ n = 3 ∨ n = 4 ∨ n = 5 ∨ n = 6 ∨ n = 7 ∨ n = 8 ∨ n = 9 ∨ n = 10 ∨ n = 11 by omega) with rfl | rfl | rfl | rfl | rfl | rfl | rfl | rfl | rfl | rfl | rfl | rfl
  · obtain ⟨z, M2, e2, r⟩ := nu_M_hinge_0 (d := d) (by omega) hM h1 (by omega)
    obtain ⟨y1, y2⟩ := rI_inj (e.symm.trans e2)
    rw [y1, y2]
    rcases r with r | r | r
    · exact Or.inl (by omega)
    · exact Or.inr (Or.inl (by omega))
    · exact Or.inr (Or.inr ((by omega)))
  · obtain ⟨z, M2, e2, r⟩ := nu_M_hinge_1 (d := d) (by omega) hM h1 (by omega)
    obtain ⟨y1, y2⟩ := rI_inj (e.symm.trans e2)
    rw [y1, y2]
    rcases r with r | r | r
    · exact Or.inl (by omega)
    · exact Or.inr (Or.inl (by omega))
    · exact Or.inr (Or.inr ((by omega)))
  · obtain ⟨z, M2, e2, r⟩ := nu_M_hinge_2 (d := d) (by omega) hM h1 (by omega)
    obtain ⟨y1, y2⟩ := rI_inj (e.symm.trans e2)
    rw [y1, y2]
    rcases r with r | r | r
    · exact Or.inl (by omega)
    · exact Or.inr (Or.inl (by omega))
    · exact Or.inr (Or.inr ((by omega)))
  · obtain ⟨z, M2, e2, r⟩ := nu_M_hinge_3 (d := d) (by omega) hM h1 (by omega)
    obtain ⟨y1, y2⟩ := rI_inj (e.symm.trans e2)
    rw [y1, y2]
    rcases r with r | r | r
    · exact Or.inl (by omega)
    · exact Or.inr (Or.inl (by omega))
    · exact Or.inr (Or.inr ((by omega)))
  · obtain ⟨z, M2, e2, r⟩ := nu_M_hinge_4 (d := d) (by omega) hM h1 (by omega)
    obtain ⟨y1, y2⟩ := rI_inj (e.symm.trans e2)
    rw [y1, y2]
    rcases r with r | r | r
    · exact Or.inl (by omega)
    · exact Or.inr (Or.inl (by omega))
    · exact Or.inr (Or.inr ((by omega)))
  · obtain ⟨z, M2, e2, r⟩ := nu_M_hinge_5 (d := d) (by omega) hM h1 (by omega)
    obtain ⟨y1, y2⟩ := rI_inj (e.symm.trans e2)
    rw [y1, y2]
    rcases r with r | r | r
    · exact Or.inl (by omega)
    · exact Or.inr (Or.inl (by omega))
    · exact Or.inr (Or.inr ((by omega)))
  · obtain ⟨z, M2, e2, r⟩ := nu_M_hinge_6 (d := d) (by omega) hM h1 (by omega)
    obtain ⟨y1, y2⟩ := rI_inj (e.symm.trans e2)
    rw [y1, y2]
    rcases r with r | r | r
    · exact Or.inl (by omega)
    · exact Or.inr (Or.inl (by omega))
    · exact Or.inr (Or.inr ((by omega)))
  · obtain ⟨z, M2, e2, r⟩ := nu_M_hinge_7 (d := d) (by omega) hM h1 (by omega)
    obtain ⟨y1, y2⟩ := rI_inj (e.symm.trans e2)
    rw [y1, y2]
    rcases r with r | r | r
    · exact Or.inl (by omega)
    · exact Or.inr (Or.inl (by omega))
    · exact Or.inr (Or.inr ((by omega)))
  · obtain ⟨z, M2, e2, r⟩ := nu_M_hinge_8 (d := d) (by omega) hM h1 (by omega)
    obtain ⟨y1, y2⟩ := rI_inj (e.symm.trans e2)
    rw [y1, y2]
    rcases r with r | r | r
    · exact Or.inl (by omega)
    · exact Or.inr (Or.inl (by omega))
    · exact Or.inr (Or.inr ((by omega)))
  · obtain ⟨z, M2, e2, r⟩ := nu_M_hinge_9 (d := d) (by omega) hM h1 (by omega)
    obtain ⟨y1, y2⟩ := rI_inj (e.symm.trans e2)
    rw [y1, y2]
    rcases r with r | r | r
    · exact Or.inl (by omega)
    · exact Or.inr (Or.inl (by omega))
    · exact Or.inr (Or.inr ((by omega)))
  · obtain ⟨z, M2, e2, r⟩ := nu_M_hinge_10 (d := d) (by omega) hM h1 (by omega)
    obtain ⟨y1, y2⟩ := rI_inj (e.symm.trans e2)
    rw [y1, y2]
    rcases r with r | r | r
    · exact Or.inl (by omega)
    · exact Or.inr (Or.inl (by omega))
    · exact Or.inr (Or.inr ((by omega)))
  · obtain ⟨z, M2, e2, r⟩ := nu_M_hinge_11 (d := d) (by omega) hM h1 (by omega)
    obtain ⟨y1, y2⟩ := rI_inj (e.symm.trans e2)
    rw [y1, y2]
    rcases r with r | r | r
    · exact Or.inl (by omega)
    · exact Or.inr (Or.inl (by omega))
    · exact Or.inr (Or.inr ((by omega)))
theorem nu_M_near1_0 {d : Nat} (hd : 5 ≤ d) {M : pM} (hM : gM gAll M) (p0 : 1 ≤ M 60 0 ∧ M 60 0 ≤ 6) (p1 : 0 ≤ M 60 16 ∧ M 60 16 ≤ 0) : ∃ z M', xF d 238 [.inr 62] M = rI z M' ∧ ((-2 ≤ z ∧ z ≤ -2 ∧ 0 ≤ M' 60 16 ∧ M' 60 16 ≤ 0) ∨ (-3 ≤ z ∧ z ≤ -3 ∧ 0 ≤ M' 60 16 ∧ M' 60 16 ≤ 0) ∨ (0 ≤ z ∧ z ≤ 999999 ∧ 0 ≤ M' 60 16 ∧ M' 60 16 ≤ 10)) := by
  have c0 : cOK gAll (xF d) 238 K_895 := (ct_of (d := d) ct_ok (show K_895 ∈ CT.getD 238 [] from (show CT.getD 238 [] = [K_919, K_921, K_923, K_925, K_927, K_929, K_931, K_933, K_935, K_937, K_939, K_941, K_551, K_1018, K_895, K_897, K_899, K_901, K_903, K_905, K_907, K_909, K_911, K_913, K_915, K_917, K_1024, K_1030, K_1036, K_1042, K_1048, K_1054, K_1060, K_1066, K_1072, K_1078, K_549] from rfl) ▸ by simp) hd)
  obtain ⟨z, M', e, -, -, alt, ha, q, p⟩ := cOK_I c0 (A := [.inr 62]) (show aF2 gW [aRef 62] [.inr 62] from ⟨gW_o, trivial⟩) hM (show gP0 [(60, 0, (0, 1, 6, 0, 0, 0)), (60, 16, (0, 0, 0, 0, 0, 0))] M from fun e he => by
    simp only [List.mem_cons, List.not_mem_nil, or_false] at he
    rcases he with rfl | rfl
    · exact gR_i p0.1 p0.2
    · exact gR_i p1.1 p1.2) rfl
  refine ⟨z, M', e, ?_⟩
  have ha : alt ∈ [(some (0, -2, -2, 0, 0, 0), [], [(60, 0, (0, 1, 6, 0, 0, 0)), (60, 16, (0, 0, 0, 0, 0, 0)), (60, 17, (0, 0, 0, 0, 0, 0)), (60, 39, (0, 1, 20000, 0, 0, 0)), (60, 40, (0, 0, 1000000, 0, 0, 0))]), (some (0, -3, -3, 0, 0, 0), [], [(60, 0, (0, 1, 6, 0, 0, 0)), (60, 16, (0, 0, 0, 0, 0, 0)), (60, 17, (0, 0, 0, 0, 0, 0)), (60, 39, (0, 20001, 1000000, 0, 0, 0))]), (some (0, 0, 999999, 0, 0, 0), [], [(60, 0, (0, 1, 6, 0, 0, 0)), (60, 16, (0, 0, 10, 0, 0, 0)), (60, 17, (0, 0, 0, 0, 0, 0)), (60, 39, (0, 1, 20000, 0, 0, 0)), (60, 40, (0, 0, 1000000, 0, 0, 0))])] := ha
  simp only [List.mem_cons, List.not_mem_nil, or_false] at ha
  rcases ha with rfl | rfl | rfl
  · obtain ⟨z2, e2, r⟩ := gW_int (show gW _ _ from q) (Nat.le_of_ble_eq_true rfl)
    cases e2
    have := gR0 r
    have w := gR0 (show gR (0, 0, 0, 0, 0, 0) (M' 60 16) from (p _ (List.mem_cons_of_mem _ List.mem_cons_self)).1)
    exact Or.inl ⟨this.1, this.2, w.1, w.2⟩
  · obtain ⟨z2, e2, r⟩ := gW_int (show gW _ _ from q) (Nat.le_of_ble_eq_true rfl)
    cases e2
    have := gR0 r
    have w := gR0 (show gR (0, 0, 0, 0, 0, 0) (M' 60 16) from (p _ (List.mem_cons_of_mem _ List.mem_cons_self)).1)
    exact Or.inr (Or.inl ⟨this.1, this.2, w.1, w.2⟩)
  · obtain ⟨z2, e2, r⟩ := gW_int (show gW _ _ from q) (Nat.le_of_ble_eq_true rfl)
    cases e2
    have := gR0 r
    have w := gR0 (show gR (0, 0, 10, 0, 0, 0) (M' 60 16) from (p _ (List.mem_cons_of_mem _ List.mem_cons_self)).1)
    exact Or.inr (Or.inr ⟨this.1, this.2, w.1, w.2⟩)
theorem nu_M_near1_1 {d : Nat} (hd : 5 ≤ d) {M : pM} (hM : gM gAll M) (p0 : 1 ≤ M 60 0 ∧ M 60 0 ≤ 6) (p1 : 1 ≤ M 60 16 ∧ M 60 16 ≤ 1) : ∃ z M', xF d 238 [.inr 62] M = rI z M' ∧ ((-2 ≤ z ∧ z ≤ -2 ∧ 1 ≤ M' 60 16 ∧ M' 60 16 ≤ 1) ∨ (-3 ≤ z ∧ z ≤ -3 ∧ 1 ≤ M' 60 16 ∧ M' 60 16 ≤ 1) ∨ (0 ≤ z ∧ z ≤ 999999 ∧ 0 ≤ M' 60 16 ∧ M' 60 16 ≤ 10)) := by
  have c0 : cOK gAll (xF d) 238 K_897 := (ct_of (d := d) ct_ok (show K_897 ∈ CT.getD 238 [] from (show CT.getD 238 [] = [K_919, K_921, K_923, K_925, K_927, K_929, K_931, K_933, K_935, K_937, K_939, K_941, K_551, K_1018, K_895, K_897, K_899, K_901, K_903, K_905, K_907, K_909, K_911, K_913, K_915, K_917, K_1024, K_1030, K_1036, K_1042, K_1048, K_1054, K_1060, K_1066, K_1072, K_1078, K_549] from rfl) ▸ by simp) hd)
  obtain ⟨z, M', e, -, -, alt, ha, q, p⟩ := cOK_I c0 (A := [.inr 62]) (show aF2 gW [aRef 62] [.inr 62] from ⟨gW_o, trivial⟩) hM (show gP0 [(60, 0, (0, 1, 6, 0, 0, 0)), (60, 16, (0, 1, 1, 0, 0, 0))] M from fun e he => by
    simp only [List.mem_cons, List.not_mem_nil, or_false] at he
    rcases he with rfl | rfl
    · exact gR_i p0.1 p0.2
    · exact gR_i p1.1 p1.2) rfl
  refine ⟨z, M', e, ?_⟩
  have ha : alt ∈ [(some (0, -2, -2, 0, 0, 0), [], [(60, 0, (0, 1, 6, 0, 0, 0)), (60, 16, (0, 1, 1, 0, 0, 0)), (60, 17, (0, 0, 0, 0, 0, 0)), (60, 39, (0, 1, 20000, 0, 0, 0)), (60, 40, (0, 0, 1000000, 0, 0, 0))]), (some (0, -3, -3, 0, 0, 0), [], [(60, 0, (0, 1, 6, 0, 0, 0)), (60, 16, (0, 1, 1, 0, 0, 0)), (60, 17, (0, 0, 0, 0, 0, 0)), (60, 39, (0, 20001, 1000000, 0, 0, 0))]), (some (0, 0, 999999, 0, 0, 0), [], [(60, 0, (0, 1, 6, 0, 0, 0)), (60, 16, (0, 0, 10, 0, 0, 0)), (60, 17, (0, 0, 0, 0, 0, 0)), (60, 39, (0, 1, 20000, 0, 0, 0)), (60, 40, (0, 0, 1000000, 0, 0, 0))])] := ha
  simp only [List.mem_cons, List.not_mem_nil, or_false] at ha
  rcases ha with rfl | rfl | rfl
  · obtain ⟨z2, e2, r⟩ := gW_int (show gW _ _ from q) (Nat.le_of_ble_eq_true rfl)
    cases e2
    have := gR0 r
    have w := gR0 (show gR (0, 1, 1, 0, 0, 0) (M' 60 16) from (p _ (List.mem_cons_of_mem _ List.mem_cons_self)).1)
    exact Or.inl ⟨this.1, this.2, w.1, w.2⟩
  · obtain ⟨z2, e2, r⟩ := gW_int (show gW _ _ from q) (Nat.le_of_ble_eq_true rfl)
    cases e2
    have := gR0 r
    have w := gR0 (show gR (0, 1, 1, 0, 0, 0) (M' 60 16) from (p _ (List.mem_cons_of_mem _ List.mem_cons_self)).1)
    exact Or.inr (Or.inl ⟨this.1, this.2, w.1, w.2⟩)
  · obtain ⟨z2, e2, r⟩ := gW_int (show gW _ _ from q) (Nat.le_of_ble_eq_true rfl)
    cases e2
    have := gR0 r
    have w := gR0 (show gR (0, 0, 10, 0, 0, 0) (M' 60 16) from (p _ (List.mem_cons_of_mem _ List.mem_cons_self)).1)
    exact Or.inr (Or.inr ⟨this.1, this.2, w.1, w.2⟩)
theorem nu_M_near1_2 {d : Nat} (hd : 5 ≤ d) {M : pM} (hM : gM gAll M) (p0 : 1 ≤ M 60 0 ∧ M 60 0 ≤ 6) (p1 : 2 ≤ M 60 16 ∧ M 60 16 ≤ 2) : ∃ z M', xF d 238 [.inr 62] M = rI z M' ∧ ((-2 ≤ z ∧ z ≤ -2 ∧ 2 ≤ M' 60 16 ∧ M' 60 16 ≤ 2) ∨ (-3 ≤ z ∧ z ≤ -3 ∧ 2 ≤ M' 60 16 ∧ M' 60 16 ≤ 2) ∨ (0 ≤ z ∧ z ≤ 999999 ∧ 0 ≤ M' 60 16 ∧ M' 60 16 ≤ 10)) := by
  have c0 : cOK gAll (xF d) 238 K_899 := (ct_of (d := d) ct_ok (show K_899 ∈ CT.getD 238 [] from (show CT.getD 238 [] = [K_919, K_921, K_923, K_925, K_927, K_929, K_931, K_933, K_935, K_937, K_939, K_941, K_551, K_1018, K_895, K_897, K_899, K_901, K_903, K_905, K_907, K_909, K_911, K_913, K_915, K_917, K_1024, K_1030, K_1036, K_1042, K_1048, K_1054, K_1060, K_1066, K_1072, K_1078, K_549] from rfl) ▸ by simp) hd)
  obtain ⟨z, M', e, -, -, alt, ha, q, p⟩ := cOK_I c0 (A := [.inr 62]) (show aF2 gW [aRef 62] [.inr 62] from ⟨gW_o, trivial⟩) hM (show gP0 [(60, 0, (0, 1, 6, 0, 0, 0)), (60, 16, (0, 2, 2, 0, 0, 0))] M from fun e he => by
    simp only [List.mem_cons, List.not_mem_nil, or_false] at he
    rcases he with rfl | rfl
    · exact gR_i p0.1 p0.2
    · exact gR_i p1.1 p1.2) rfl
  refine ⟨z, M', e, ?_⟩
  have ha : alt ∈ [(some (0, -2, -2, 0, 0, 0), [], [(60, 0, (0, 1, 6, 0, 0, 0)), (60, 16, (0, 2, 2, 0, 0, 0)), (60, 17, (0, 0, 0, 0, 0, 0)), (60, 39, (0, 1, 20000, 0, 0, 0)), (60, 40, (0, 0, 1000000, 0, 0, 0))]), (some (0, -3, -3, 0, 0, 0), [], [(60, 0, (0, 1, 6, 0, 0, 0)), (60, 16, (0, 2, 2, 0, 0, 0)), (60, 17, (0, 0, 0, 0, 0, 0)), (60, 39, (0, 20001, 1000000, 0, 0, 0))]), (some (0, 0, 999999, 0, 0, 0), [], [(60, 0, (0, 1, 6, 0, 0, 0)), (60, 16, (0, 0, 10, 0, 0, 0)), (60, 17, (0, 0, 0, 0, 0, 0)), (60, 39, (0, 1, 20000, 0, 0, 0)), (60, 40, (0, 0, 1000000, 0, 0, 0))])] := ha
  simp only [List.mem_cons, List.not_mem_nil, or_false] at ha
  rcases ha with rfl | rfl | rfl
  · obtain ⟨z2, e2, r⟩ := gW_int (show gW _ _ from q) (Nat.le_of_ble_eq_true rfl)
    cases e2
    have := gR0 r
    have w := gR0 (show gR (0, 2, 2, 0, 0, 0) (M' 60 16) from (p _ (List.mem_cons_of_mem _ List.mem_cons_self)).1)
    exact Or.inl ⟨this.1, this.2, w.1, w.2⟩
  · obtain ⟨z2, e2, r⟩ := gW_int (show gW _ _ from q) (Nat.le_of_ble_eq_true rfl)
    cases e2
    have := gR0 r
    have w := gR0 (show gR (0, 2, 2, 0, 0, 0) (M' 60 16) from (p _ (List.mem_cons_of_mem _ List.mem_cons_self)).1)
    exact Or.inr (Or.inl ⟨this.1, this.2, w.1, w.2⟩)
  · obtain ⟨z2, e2, r⟩ := gW_int (show gW _ _ from q) (Nat.le_of_ble_eq_true rfl)
    cases e2
    have := gR0 r
    have w := gR0 (show gR (0, 0, 10, 0, 0, 0) (M' 60 16) from (p _ (List.mem_cons_of_mem _ List.mem_cons_self)).1)
    exact Or.inr (Or.inr ⟨this.1, this.2, w.1, w.2⟩)
theorem nu_M_near1_3 {d : Nat} (hd : 5 ≤ d) {M : pM} (hM : gM gAll M) (p0 : 1 ≤ M 60 0 ∧ M 60 0 ≤ 6) (p1 : 3 ≤ M 60 16 ∧ M 60 16 ≤ 3) : ∃ z M', xF d 238 [.inr 62] M = rI z M' ∧ ((-2 ≤ z ∧ z ≤ -2 ∧ 3 ≤ M' 60 16 ∧ M' 60 16 ≤ 3) ∨ (-3 ≤ z ∧ z ≤ -3 ∧ 3 ≤ M' 60 16 ∧ M' 60 16 ≤ 3) ∨ (0 ≤ z ∧ z ≤ 999999 ∧ 0 ≤ M' 60 16 ∧ M' 60 16 ≤ 10)) := by
  have c0 : cOK gAll (xF d) 238 K_901 := (ct_of (d := d) ct_ok (show K_901 ∈ CT.getD 238 [] from (show CT.getD 238 [] = [K_919, K_921, K_923, K_925, K_927, K_929, K_931, K_933, K_935, K_937, K_939, K_941, K_551, K_1018, K_895, K_897, K_899, K_901, K_903, K_905, K_907, K_909, K_911, K_913, K_915, K_917, K_1024, K_1030, K_1036, K_1042, K_1048, K_1054, K_1060, K_1066, K_1072, K_1078, K_549] from rfl) ▸ by simp) hd)
  obtain ⟨z, M', e, -, -, alt, ha, q, p⟩ := cOK_I c0 (A := [.inr 62]) (show aF2 gW [aRef 62] [.inr 62] from ⟨gW_o, trivial⟩) hM (show gP0 [(60, 0, (0, 1, 6, 0, 0, 0)), (60, 16, (0, 3, 3, 0, 0, 0))] M from fun e he => by
    simp only [List.mem_cons, List.not_mem_nil, or_false] at he
    rcases he with rfl | rfl
    · exact gR_i p0.1 p0.2
    · exact gR_i p1.1 p1.2) rfl
  refine ⟨z, M', e, ?_⟩
  have ha : alt ∈ [(some (0, -2, -2, 0, 0, 0), [], [(60, 0, (0, 1, 6, 0, 0, 0)), (60, 16, (0, 3, 3, 0, 0, 0)), (60, 17, (0, 0, 0, 0, 0, 0)), (60, 39, (0, 1, 20000, 0, 0, 0)), (60, 40, (0, 0, 1000000, 0, 0, 0))]), (some (0, -3, -3, 0, 0, 0), [], [(60, 0, (0, 1, 6, 0, 0, 0)), (60, 16, (0, 3, 3, 0, 0, 0)), (60, 17, (0, 0, 0, 0, 0, 0)), (60, 39, (0, 20001, 1000000, 0, 0, 0))]), (some (0, 0, 999999, 0, 0, 0), [], [(60, 0, (0, 1, 6, 0, 0, 0)), (60, 16, (0, 0, 10, 0, 0, 0)), (60, 17, (0, 0, 0, 0, 0, 0)), (60, 39, (0, 1, 20000, 0, 0, 0)), (60, 40, (0, 0, 1000000, 0, 0, 0))])] := ha
  simp only [List.mem_cons, List.not_mem_nil, or_false] at ha
  rcases ha with rfl | rfl | rfl
  · obtain ⟨z2, e2, r⟩ := gW_int (show gW _ _ from q) (Nat.le_of_ble_eq_true rfl)
    cases e2
    have := gR0 r
    have w := gR0 (show gR (0, 3, 3, 0, 0, 0) (M' 60 16) from (p _ (List.mem_cons_of_mem _ List.mem_cons_self)).1)
    exact Or.inl ⟨this.1, this.2, w.1, w.2⟩
  · obtain ⟨z2, e2, r⟩ := gW_int (show gW _ _ from q) (Nat.le_of_ble_eq_true rfl)
    cases e2
    have := gR0 r
    have w := gR0 (show gR (0, 3, 3, 0, 0, 0) (M' 60 16) from (p _ (List.mem_cons_of_mem _ List.mem_cons_self)).1)
    exact Or.inr (Or.inl ⟨this.1, this.2, w.1, w.2⟩)
  · obtain ⟨z2, e2, r⟩ := gW_int (show gW _ _ from q) (Nat.le_of_ble_eq_true rfl)
    cases e2
    have := gR0 r
    have w := gR0 (show gR (0, 0, 10, 0, 0, 0) (M' 60 16) from (p _ (List.mem_cons_of_mem _ List.mem_cons_self)).1)
    exact Or.inr (Or.inr ⟨this.1, this.2, w.1, w.2⟩)
