/-! every call of the reference keeps its invariant (by program) -/
section WR
variable {M : pM}
theorem w_M_sign {a1 : Int} (h : RI0 M) (h1 : -2147483648 ≤ a1 ∧ a1 ≤ 2147483647) : okR 1000 175 [.inr 62, .inl a1] [(60, 14), (60, 17), (68, 999)] M := by
  obtain ⟨z, M', e, g, f, -⟩ := q_M_sign (d := 1000) (by decide) h.1 h1
  exact ⟨z, M', e, RI0_Fr g f (by decide) h, f⟩
theorem w_M_end {a1 : Int} (h : RI0 M) (h1 : -2147483648 ≤ a1 ∧ a1 ≤ 2147483647) : okR 1000 176 [.inr 62, .inl a1] [(60, 14), (60, 17)] M := by
  obtain ⟨z, M', e, g, f, -⟩ := q_M_end (d := 1000) (by decide) h.1 h1
  exact ⟨z, M', e, RI0_Fr g f (by decide) h, f⟩
theorem w_M_house  (h : RI0 M)  : okR 1000 184 [.inr 62] wHouse M := by
  obtain ⟨z, M', e, r, f, -⟩ := r_house (d := 1000) (by decide) h
  exact ⟨z, M', e, r, f⟩
theorem w_M_rule  (h : RI0 M)  : okR 1000 193 [.inr 62] [(60, 14), (60, 17), (60, 18), (60, 19), (60, 20), (60, 21), (60, 22), (60, 25), (60, 26), (71, 999)] M := by
  obtain ⟨z, M', e, g, f, -⟩ := q_M_rule (d := 1000) (by decide) h.1 
  exact ⟨z, M', e, RI0_Fr g f (by decide) h, f⟩
theorem w_M_room {a1 : Int} {a2 : Int} (h : RI0 M) (h1 : -2147483648 ≤ a1 ∧ a1 ≤ 2147483647) (h2 : -2147483648 ≤ a2 ∧ a2 ≤ 2147483647) : okR 1000 199 [.inr 62, .inl a1, .inl a2] [(60, 17)] M := by
  obtain ⟨z, M', e, g, f⟩ := q_M_room (d := 1000) (by decide) h.1 h1 h2
  exact ⟨z, M', e, RI0_Fr g f (by decide) h, f⟩
theorem w_M_thing {a1 : Int} {a2 : Int} (h : RI0 M) (h1 : -2147483648 ≤ a1 ∧ a1 ≤ 2147483647) (h2 : -2147483648 ≤ a2 ∧ a2 ≤ 2147483647) : okR 1000 201 [.inr 62, .inl a1, .inl a2] [(60, 17), (60, 18), (60, 19), (60, 20), (60, 21), (60, 22), (60, 26), (60, 27), (60, 30), (72, 999), (73, 999)] M := by
  obtain ⟨z, M', e, g, f, -⟩ := q_M_thing (d := 1000) (by decide) h.1 h1 h2
  exact ⟨z, M', e, RI0_Fr g f (by decide) h, f⟩
theorem w_M_set {a1 : Int} (h : RI0 M) (h1 : -2147483648 ≤ a1 ∧ a1 ≤ 2147483647) : okR 1000 202 [.inr 62, .inl a1] [(60, 17)] M := by
  obtain ⟨z, M', e, g, f, -⟩ := q_M_set (d := 1000) (by decide) h.1 h1
  exact ⟨z, M', e, RI0_Fr g f (by decide) h, f⟩
theorem w_M_door {a1 : Int} {a2 : Int} (h : RI0 M) (h1 : -2147483648 ≤ a1 ∧ a1 ≤ 2147483647) (h2 : -2147483648 ≤ a2 ∧ a2 ≤ 2147483647) : okR 1000 203 [.inr 62, .inl a1, .inl a2] [(60, 17)] M := by
  obtain ⟨z, M', e, g, f, -⟩ := q_M_door (d := 1000) (by decide) h.1 h1 h2
  exact ⟨z, M', e, RI0_Fr g f (by decide) h, f⟩
theorem w_M_widen {a1 : Int} {a2 : Int} {a3 : Int} (h : RI0 M) (h1 : -2147483648 ≤ a1 ∧ a1 ≤ 2147483647) (h2 : -2147483648 ≤ a2 ∧ a2 ≤ 2147483647) (h3 : -2147483648 ≤ a3 ∧ a3 ≤ 2147483647) : okR 1000 204 [.inr 62, .inl a1, .inl a2, .inl a3] [(60, 17), (62, 999)] M := by
  exact r_widen (d := 1000) (by decide) h1.1 h1.2 h2.1 h2.2 h3.1 h3.2 h
theorem w_M_strength {a1 : Int} (h : RI0 M) (h1 : -2147483648 ≤ a1 ∧ a1 ≤ 2147483647) : okR 1000 205 [.inr 62, .inl a1] [(60, 12), (60, 17)] M := by
  obtain ⟨z, M', e, g, f, -⟩ := q_M_strength (d := 1000) (by decide) h.1 h1
  exact ⟨z, M', e, RI0_Fr g f (by decide) h, f⟩
theorem w_M_sheet {a1 : Int} {a2 : Int} {a3 : Int} {a4 : Int} (h : RI0 M) (h1 : -2147483648 ≤ a1 ∧ a1 ≤ 2147483647) (h2 : -2147483648 ≤ a2 ∧ a2 ≤ 2147483647) (h3 : -2147483648 ≤ a3 ∧ a3 ≤ 2147483647) (h4 : -2147483648 ≤ a4 ∧ a4 ≤ 2147483647) : okR 1000 206 [.inr 62, .inl a1, .inl a2, .inl a3, .inl a4] [(60, 17), (65, 999)] M := by
  exact r_sheet (d := 1000) (by decide)  h
theorem w_M_carry {a1 : Int} {a2 : Int} (h : RI0 M) (h1 : -2147483648 ≤ a1 ∧ a1 ≤ 2147483647) (h2 : -2147483648 ≤ a2 ∧ a2 ≤ 2147483647) : okR 1000 216 [.inr 62, .inl a1, .inl a2] wCarry M := by
  exact r_carry (d := 1000) (by decide) h1.1 h1.2 h2.1 h2.2 h
theorem w_M_evening  (h : RI0 M)  : okR 1000 218 [.inr 62] wEv M := by
  exact r_evening (d := 1000) (by decide)  h
theorem w_M_day  (h : RI0 M)  : okR 1000 219 [.inr 62] wDay M := by
  obtain ⟨z, M', e, r, f, -⟩ := r_day (d := 1000) (by decide) h
  exact ⟨z, M', e, r, f⟩
theorem w_M_undo  (h : RI0 M)  : okR 1000 220 [.inr 62] wUndo M := by
  exact r_undo (d := 1000) (by decide)  h
theorem w_M_judge {a1 : Int} {a2 : Int} (h : RI0 M) (h1 : -2147483648 ≤ a1 ∧ a1 ≤ 2147483647) (h2 : -2147483648 ≤ a2 ∧ a2 ≤ 2147483647) : okR 1000 221 [.inr 62, .inl a1, .inl a2] wJg M := by
  exact r_judge (d := 1000) (by decide) h1.1 h1.2 h
theorem w_M_clumps  (h : RI0 M)  : okR 1000 222 [.inr 62] [(60, 16), (60, 17), (60, 30), (69, 999), (72, 999), (73, 999)] M := by
  obtain ⟨z, M', e, g, f, -⟩ := q_M_clumps (d := 1000) (by decide) h.1 
  exact ⟨z, M', e, RI0_Fr g f (by decide) h, f⟩
theorem w_M_heaviest  (h : RI0 M)  : okR 1000 224 [.inr 62] [(60, 16), (60, 17), (60, 30), (69, 999), (72, 999), (73, 999)] M := by
  obtain ⟨z, M', e, g, f, -⟩ := q_M_heaviest (d := 1000) (by decide) h.1 
  exact ⟨z, M', e, RI0_Fr g f (by decide) h, f⟩
theorem w_M_without {a1 : Int} (h : RI0 M) (h1 : -2147483648 ≤ a1 ∧ a1 ≤ 2147483647) : okR 1000 225 [.inr 62, .inl a1] [(60, 16), (60, 17), (60, 30), (69, 999), (72, 999), (73, 999)] M := by
  obtain ⟨z, M', e, g, f, -⟩ := q_M_without (d := 1000) (by decide) h.1 h1
  exact ⟨z, M', e, RI0_Fr g f (by decide) h, f⟩
theorem w_M_breaks {a1 : Int} (h : RI0 M) (h1 : -2147483648 ≤ a1 ∧ a1 ≤ 2147483647) : okR 1000 226 [.inr 62, .inl a1] wBreaks M := by
  exact r_breaks (d := 1000) (by decide) h1.1 h1.2 h
theorem w_M_ties  (h : RI0 M)  : okR 1000 227 [.inr 62] [(60, 17), (60, 30), (72, 999), (73, 999)] M := by
  obtain ⟨z, M', e, g, f, -⟩ := q_M_ties (d := 1000) (by decide) h.1 
  exact ⟨z, M', e, RI0_Fr g f (by decide) h, f⟩
theorem w_M_fits  (h : RI0 M)  : okR 1000 234 [.inr 62] [(60, 16), (60, 17), (60, 30), (60, 39), (60, 40), (69, 999), (72, 999), (73, 999), (78, 999), (79, 999), (80, 999)] M := by
  rcases RI0_rooms h with p | p
  · obtain ⟨z, M', e, g, f⟩ := q_M_fits_1 (d := 1000) (by decide) h.1  p
    exact ⟨z, M', e, RI0_Fr g f (by decide) h, Fr_mono f (by decide)⟩
  · obtain ⟨z, M', e, g, f⟩ := q_M_fits_0 (d := 1000) (by decide) h.1  p.1 p.2
    exact ⟨z, M', e, RI0_Fr g f (by decide) h, Fr_mono f (by decide)⟩
theorem w_M_worth  (h : RI0 M)  : okR 1000 235 [.inr 62] [(60, 17), (60, 18), (60, 19), (60, 20), (60, 21), (60, 22), (60, 26), (60, 27)] M := by
  obtain ⟨z, M', e, g, f⟩ := q_M_worth (d := 1000) (by decide) h.1 
  exact ⟨z, M', e, RI0_Fr g f (by decide) h, f⟩
theorem w_M_best  (h : RI0 M)  : okR 1000 236 [.inr 62] wBest M := by
  have s0 := h.2.1
  rcases RI0_rooms h with p | p
  · obtain ⟨z, M', e, g, f⟩ := r_best (d := 1000) (by decide)  h.1 p.1 s0
    exact ⟨z, M', e, RI0_Fr g f (by decide) h, f⟩
  · obtain ⟨z, M', e, g, f, -⟩ := q_M_best_0 (d := 1000) (by decide)  h.1  p.1 p.2 ⟨by omega, by omega⟩
    exact ⟨z, M', e, RI0_Fr g f (by decide) h, Fr_mono f (by decide)⟩
theorem w_M_near  (h : RI0 M)  : okR 1000 238 [.inr 62] [(60, 16), (60, 17), (60, 30), (60, 39), (60, 40), (69, 999), (72, 999), (73, 999), (74, 999), (78, 999), (79, 999), (80, 999)] M := by
  rcases RI0_rooms h with p | p
  · obtain ⟨z, M', e, g, f, -⟩ := q_M_near_1 (d := 1000) (by decide) h.1  p
    exact ⟨z, M', e, RI0_Fr g f (by decide) h, Fr_mono f (by decide)⟩
  · obtain ⟨z, M', e, g, f, -⟩ := q_M_near_0 (d := 1000) (by decide) h.1  p.1 p.2
    exact ⟨z, M', e, RI0_Fr g f (by decide) h, Fr_mono f (by decide)⟩
theorem w_M_guest {a1 : Int} {a2 : Int} (h : RI0 M) (h1 : -2147483648 ≤ a1 ∧ a1 ≤ 2147483647) (h2 : -2147483648 ≤ a2 ∧ a2 ≤ 2147483647) : okR 1000 239 [.inr 62, .inl a1, .inl a2] [(60, 16), (60, 17), (60, 30), (60, 39), (60, 40), (69, 999), (72, 999), (73, 999), (74, 999), (78, 999), (79, 999), (80, 999)] M := by
  rcases RI0_rooms h with p | p
  · obtain ⟨z, M', e, g, f, -⟩ := q_M_guest_1 (d := 1000) (by decide) h.1 h1 h2 p
    exact ⟨z, M', e, RI0_Fr g f (by decide) h, Fr_mono f (by decide)⟩
  · obtain ⟨z, M', e, g, f, -⟩ := q_M_guest_0 (d := 1000) (by decide) h.1 h1 h2 p.1 p.2
    exact ⟨z, M', e, RI0_Fr g f (by decide) h, Fr_mono f (by decide)⟩
theorem w_M_space  (h : RI0 M)  : okR 1000 240 [.inr 62] [(60, 16), (60, 17), (60, 30), (60, 39), (60, 40), (69, 999), (72, 999), (73, 999), (78, 999), (79, 999), (80, 999)] M := by
  obtain ⟨z, M', e, g, f⟩ := q_M_space (d := 1000) (by decide) h.1 
  exact ⟨z, M', e, RI0_Fr g f (by decide) h, f⟩
theorem w_M_could {a1 : Int} {a2 : Int} (h : RI0 M) (h1 : -2147483648 ≤ a1 ∧ a1 ≤ 2147483647) (h2 : -2147483648 ≤ a2 ∧ a2 ≤ 2147483647) : okR 1000 241 [.inr 62, .inl a1, .inl a2] [(60, 17), (60, 30), (60, 39), (60, 40), (72, 999), (73, 999), (78, 999), (79, 999)] M := by
  rcases RI0_rooms h with p | p
  · obtain ⟨z, M', e, g, f, -⟩ := q_M_could_1 (d := 1000) (by decide) h.1 h1 h2 p
    exact ⟨z, M', e, RI0_Fr g f (by decide) h, Fr_mono f (by decide)⟩
  · obtain ⟨z, M', e, g, f, -⟩ := q_M_could_0 (d := 1000) (by decide) h.1 h1 h2 p.1 p.2
    exact ⟨z, M', e, RI0_Fr g f (by decide) h, Fr_mono f (by decide)⟩
theorem w_M_may {a1 : Int} (h : RI0 M) (h1 : -2147483648 ≤ a1 ∧ a1 ≤ 2147483647) : okR 1000 242 [.inr 62, .inl a1] wMay M := by
  have s0 := h.2.1
  rcases RI0_rooms h with p | p
  · obtain ⟨z, M', e, g, f⟩ := r_may (d := 1000) (by decide) h1.1 h1.2 h.1 p.1 s0
    exact ⟨z, M', e, RI0_Fr g f (by decide) h, f⟩
  · obtain ⟨z, M', e, g, f, -⟩ := q_M_may_0 (d := 1000) (by decide)  h.1 h1 p.1 p.2
    exact ⟨z, M', e, RI0_Fr g f (by decide) h, Fr_mono f (by decide)⟩
theorem w_M_together {a1 : Int} {a2 : Int} (h : RI0 M) (h1 : -2147483648 ≤ a1 ∧ a1 ≤ 2147483647) (h2 : -2147483648 ≤ a2 ∧ a2 ≤ 2147483647) : okR 1000 243 [.inr 62, .inl a1, .inl a2] [(60, 16), (60, 17), (60, 30), (60, 39), (60, 40), (69, 999), (72, 999), (73, 999), (78, 999), (79, 999)] M := by
  rcases RI0_rooms h with p | p
  · obtain ⟨z, M', e, g, f⟩ := q_M_together_1 (d := 1000) (by decide) h.1 h1 h2 p
    exact ⟨z, M', e, RI0_Fr g f (by decide) h, Fr_mono f (by decide)⟩
  · obtain ⟨z, M', e, g, f⟩ := q_M_together_0 (d := 1000) (by decide) h.1 h1 h2 p.1 p.2
    exact ⟨z, M', e, RI0_Fr g f (by decide) h, Fr_mono f (by decide)⟩
theorem w_M_fullest {a1 : Int} (h : RI0 M) (h1 : -2147483648 ≤ a1 ∧ a1 ≤ 2147483647) : okR 1000 244 [.inr 62, .inl a1] [(60, 16), (60, 17), (60, 30), (60, 39), (60, 40), (69, 999), (72, 999), (73, 999), (78, 999), (79, 999), (80, 999)] M := by
  rcases RI0_rooms h with p | p
  · obtain ⟨z, M', e, g, f⟩ := q_M_fullest_1 (d := 1000) (by decide) h.1 h1 p
    exact ⟨z, M', e, RI0_Fr g f (by decide) h, Fr_mono f (by decide)⟩
  · obtain ⟨z, M', e, g, f⟩ := q_M_fullest_0 (d := 1000) (by decide) h.1 h1 p.1 p.2
    exact ⟨z, M', e, RI0_Fr g f (by decide) h, Fr_mono f (by decide)⟩
theorem w_M_swap {a1 : Int} {a2 : Int} (h : RI0 M) (h1 : -2147483648 ≤ a1 ∧ a1 ≤ 2147483647) (h2 : -2147483648 ≤ a2 ∧ a2 ≤ 2147483647) : okR 1000 245 [.inr 62, .inl a1, .inl a2] [(60, 16), (60, 17), (69, 999), (74, 999), (78, 999)] M := by
  obtain ⟨z, M', e, g, f, -⟩ := q_M_swap (d := 1000) (by decide) h.1 h1 h2
  exact ⟨z, M', e, RI0_Fr g f (by decide) h, f⟩
theorem w_M_sell  (h : RI0 M)  : okR 1000 246 [.inr 62] [(60, 16), (60, 17), (60, 30), (60, 38), (60, 39), (60, 40), (69, 999), (72, 999), (73, 999), (78, 999), (79, 999)] M := by
  have s0 := h.2.1
  rcases RI0_rooms h with p | p
  · obtain ⟨z, M', e, g, f, alt, ha, q, pp⟩ := cOK_I (q_M_sell_1_c (d := 1000) (by decide)) (A := [.inr 62]) (show aF2 gW [aRef 62] [.inr 62] from ⟨gW_o, trivial⟩) h.1 (show gP0 [(60, 0, (0, 1, 6, 0, 0, 0)), (60, 38, (0, 0, 0, 0, 0, 0))] M from fun e he => by
        simp only [List.mem_cons, List.not_mem_nil, or_false] at he
        rcases he with rfl | rfl
        · exact gR_i p.1 p.2
        · exact gR_i (show (0 : Int) ≤ M 60 38 by omega) (show M 60 38 ≤ (0 : Int) by omega)) rfl
    have k38 : M' 60 38 = 0 := by
      have ha : alt ∈ [(some (0, -3, -3, 0, 0, 0), [], [(60, 0, (0, 1, 6, 0, 0, 0)), (60, 17, (0, 0, 0, 0, 0, 0)), (60, 38, (0, 0, 0, 0, 0, 0)), (60, 39, (0, 20001, 1000000, 0, 0, 0))]), (some (0, 0, 63, 0, 0, 0), [], [(60, 0, (0, 1, 6, 0, 0, 0)), (60, 16, (0, 1, 1, 0, 0, 0)), (60, 17, (0, 0, 0, 0, 0, 0)), (60, 38, (0, 0, 0, 0, 0, 0)), (60, 39, (0, 1, 20000, 0, 0, 0)), (69, 0, (0, -2147483648, 2147483647, 0, 0, 0))])] := ha
      simp only [List.mem_cons, List.not_mem_nil, or_false] at ha
      rcases ha with rfl | rfl
      · have : 0 ≤ M' 60 38 ∧ M' 60 38 ≤ 0 := gR0 (pp (60, 38, (0, 0, 0, 0, 0, 0)) (by simp)).1
        omega
      · have : 0 ≤ M' 60 38 ∧ M' 60 38 ≤ 0 := gR0 (pp (60, 38, (0, 0, 0, 0, 0, 0)) (by simp)).1
        omega
    exact ⟨z, M', e, ⟨g, k38, WM_Fr f (by decide) (by decide) (by decide) (by decide) h.2.2.1, UM_Fr f (by decide) (by decide) (by decide) (by decide) (by decide) h.2.2.2⟩, f⟩
  · obtain ⟨z, M', e, g, f, alt, ha, q, pp⟩ := cOK_I (q_M_sell_0_c (d := 1000) (by decide)) (A := [.inr 62]) (show aF2 gW [aRef 62] [.inr 62] from ⟨gW_o, trivial⟩) h.1 (show gP0 [(60, 0, (0, 0, 0, 0, 0, 0)), (60, 3, (0, 0, 0, 0, 0, 0)), (60, 38, (0, 0, 0, 0, 0, 0))] M from fun e he => by
        simp only [List.mem_cons, List.not_mem_nil, or_false] at he
        rcases he with rfl | rfl | rfl
        · exact gR_i p.1.1 p.1.2
        · exact gR_i p.2.1 p.2.2
        · exact gR_i (show (0 : Int) ≤ M 60 38 by omega) (show M 60 38 ≤ (0 : Int) by omega)) rfl
    have k38 : M' 60 38 = 0 := by
      have ha : alt ∈ [(some (0, 0, 63, 0, 0, 0), [], [(60, 0, (0, 0, 0, 0, 0, 0)), (60, 3, (0, 0, 0, 0, 0, 0)), (60, 16, (0, 1, 1, 0, 0, 0)), (60, 17, (0, 0, 0, 0, 0, 0)), (60, 30, (0, 0, 0, 0, 0, 0)), (60, 38, (0, 0, 0, 0, 0, 0)), (60, 39, (0, 1, 1, 0, 0, 0)), (69, 0, (0, -2147483648, 2147483647, 0, 0, 0))])] := ha
      simp only [List.mem_cons, List.not_mem_nil, or_false] at ha
      rcases ha with rfl
      · have : 0 ≤ M' 60 38 ∧ M' 60 38 ≤ 0 := gR0 (pp (60, 38, (0, 0, 0, 0, 0, 0)) (by simp)).1
        omega
    exact ⟨z, M', e, ⟨g, k38, WM_Fr f (by decide) (by decide) (by decide) (by decide) h.2.2.1, UM_Fr f (by decide) (by decide) (by decide) (by decide) (by decide) h.2.2.2⟩, Fr_mono f (by decide)⟩
theorem w_M_build  (h : RI0 M)  : okR 1000 248 [.inr 62] wBu M := by
  obtain ⟨z, M', e, g, f⟩ := r_build0 (d := 1000) (by decide) h.1
  exact ⟨z, M', e, RI0_Fr g f (by decide) h, f⟩
theorem w_M_way {a1 : Int} {a2 : Int} (h : RI0 M) (h1 : -2147483648 ≤ a1 ∧ a1 ≤ 2147483647) (h2 : -2147483648 ≤ a2 ∧ a2 ≤ 2147483647) : okR 1000 250 [.inr 62, .inl a1, .inl a2] wWay M := by
  obtain ⟨z, M', e, g, f⟩ := r_way (d := 1000) (by decide) h1.1 h1.2 h2.1 h2.2 h.1 h.2.2.1.2.1 (fun t ht => (h.2.2.1.2.2.2.1 t ht).2.2.2)
  exact ⟨z, M', e, RI0_Fr g f (by decide) h, f⟩
theorem w_M_widest {a1 : Int} {a2 : Int} (h : RI0 M) (h1 : -2147483648 ≤ a1 ∧ a1 ≤ 2147483647) (h2 : -2147483648 ≤ a2 ∧ a2 ≤ 2147483647) : okR 1000 251 [.inr 62, .inl a1, .inl a2] [(60, 17), (74, 999)] M := by
  obtain ⟨z, M', e, g, f, -⟩ := q_M_widest (d := 1000) (by decide) h.1 h1 h2
  exact ⟨z, M', e, RI0_Fr g f (by decide) h, f⟩
theorem w_M_stuck  (h : RI0 M)  : okR 1000 252 [.inr 62] [(60, 17), (74, 999)] M := by
  obtain ⟨z, M', e, g, f, -⟩ := q_M_stuck (d := 1000) (by decide) h.1 
  exact ⟨z, M', e, RI0_Fr g f (by decide) h, f⟩
theorem w_M_hinge {a1 : Int} (h : RI0 M) (h1 : -2147483648 ≤ a1 ∧ a1 ≤ 2147483647) : okR 1000 254 [.inr 62, .inl a1] wHinge M := by
  exact r_hinge (d := 1000) (by decide) h1.1 h1.2 h
theorem w_M_aim  (h : RI0 M)  : okR 1000 255 [.inr 62] [(60, 14), (60, 17), (60, 43), (60, 44), (81, 999)] M := by
  obtain ⟨z, M', e, g, f, -⟩ := q_M_aim (d := 1000) (by decide) h.1 
  exact ⟨z, M', e, RI0_Fr g f (by decide) h, f⟩
theorem w_M_apart  (h : RI0 M)  : okR 1000 257 [.inr 62] [(60, 16), (60, 17), (69, 999), (74, 999)] M := by
  obtain ⟨z, M', e, g, f, -⟩ := q_M_apart (d := 1000) (by decide) h.1 
  exact ⟨z, M', e, RI0_Fr g f (by decide) h, f⟩
theorem w_M_queue  (h : RI0 M)  : okR 1000 259 [.inr 62] wQu M := by
  exact r_queue (d := 1000) (by decide)  h
theorem w_M_evenings  (h : RI0 M)  : okR 1000 263 [.inr 62] wWk M := by
  have s0 := h.2.1
  rcases RI0_rooms h with p | p
  · obtain ⟨z, M', e, g, f⟩ := r_evenings (d := 1000) (by decide)  h.1 p.1 s0
    exact ⟨z, M', e, RI0_Fr g f (by decide) h, f⟩
  · obtain ⟨z, M', e, g, f, -⟩ := q_M_evenings_0 (d := 1000) (by decide)  h.1  p.1 p.2 ⟨by omega, by omega⟩
    exact ⟨z, M', e, RI0_Fr g f (by decide) h, Fr_mono f (by decide)⟩
theorem w_M_weakest  (h : RI0 M)  : okR 1000 264 [.inr 62] wWk M := by
  have s0 := h.2.1
  rcases RI0_rooms h with p | p
  · obtain ⟨z, M', e, g, f⟩ := r_weakest (d := 1000) (by decide)  h.1 p.1 s0
    exact ⟨z, M', e, RI0_Fr g f (by decide) h, f⟩
  · obtain ⟨z, M', e, g, f, -⟩ := q_M_weakest_0 (d := 1000) (by decide)  h.1  p.1 p.2 ⟨by omega, by omega⟩
    exact ⟨z, M', e, RI0_Fr g f (by decide) h, Fr_mono f (by decide)⟩
theorem w_M_keep {a1 : Int} (h : RI0 M) (h1 : -2147483648 ≤ a1 ∧ a1 ≤ 2147483647) : okR 1000 266 [.inr 62, .inl a1] wKeep M := by
  exact r_keep (d := 1000) (by decide) h1.1 h1.2 h
theorem w_M_again {a1 : Int} (h : RI0 M) (h1 : -2147483648 ≤ a1 ∧ a1 ≤ 2147483647) : okR 1000 267 [.inr 62, .inl a1] wAgain M := by
  exact r_again (d := 1000) (by decide) h1.1 h1.2 h
theorem w_M_count {a1 : Int} (h : RI0 M) (h1 : -2147483648 ≤ a1 ∧ a1 ≤ 2147483647) : okR 1000 268 [.inr 62, .inl a1] [(60, 17)] M := by
  obtain ⟨z, M', e, g, f⟩ := q_M_count (d := 1000) (by decide) h.1 h1
  exact ⟨z, M', e, RI0_Fr g f (by decide) h, f⟩
theorem w_M_row {a1 : Int} (h : RI0 M) (h1 : -2147483648 ≤ a1 ∧ a1 ≤ 2147483647) : okR 1000 269 [.inr 62, .inl a1] [(60, 17)] M := by
  obtain ⟨z, M', e, g, f⟩ := q_M_row (d := 1000) (by decide) h.1 h1
  exact ⟨z, M', e, RI0_Fr g f (by decide) h, f⟩
end WR
