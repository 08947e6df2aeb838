/-! every case of the law: both sides end, and hold the same (by program) -/
def IV (M : pM) : Prop := RI0 M ∧ TI M ∧ CI M ∧ GA M ∧ True ∧ True
section KC
variable {M : pM}
theorem k_sign {a1 : Int} (h : IV M) (h1 : -2147483648 ≤ a1 ∧ a1 ≤ 2147483647) : okC (cmpc 0) 1000 0 175 [.inr 2, .inl a1] [.inr 62, .inl a1] IV M := by
  obtain ⟨v, M1, e1, g1, f1, -⟩ := q_X_sign (d := 1000) (by decide) h.1.1 h1
  have r1 : RI0 M1 := RI0_Fr g1 f1 (by decide) h.1
  obtain ⟨y, M2, e2, r2, f2⟩ := w_M_sign r1 h1
  have kc := kc_sign h.1 h.2.1 e1 f1 (by decide) (wOK_no (by decide)) e2 f2 (by decide) (wOK_no (by decide))
  exact ⟨v, y, M1, M2, e1, e2, fun _ => kc.1, r2, kc.2, ci_Fr f2 (by decide) (by decide) (ci_Fr f1 (by decide) (by decide) h.2.2.1), GA_Fr f2 (by decide) (ge_of f2 (by decide)) (GA_Fr f1 (by decide) (ge_of f1 (by decide)) h.2.2.2.1), trivial, trivial⟩
theorem k_end {a1 : Int} (h : IV M) (h1 : -2147483648 ≤ a1 ∧ a1 ≤ 2147483647) : okC (cmpc 1) 1000 1 176 [.inr 2, .inl a1] [.inr 62, .inl a1] IV M := by
  obtain ⟨v, M1, e1, g1, f1, -⟩ := q_X_end (d := 1000) (by decide) h.1.1 h1
  have r1 : RI0 M1 := RI0_Fr g1 f1 (by decide) h.1
  obtain ⟨y, M2, e2, r2, f2⟩ := w_M_end r1 h1
  have kc := kc_end h.1 h.2.1 h1 e1 f1 (by decide) e2 f2 (by decide) (by decide) (by decide)
  exact ⟨v, y, M1, M2, e1, e2, fun _ => kc.1, r2, kc.2, ci_Fr f2 (by decide) (by decide) (ci_Fr f1 (by decide) (by decide) h.2.2.1), GA_Fr f2 (by decide) (ge_of f2 (by decide)) (GA_Fr f1 (by decide) (ge_of f1 (by decide)) h.2.2.2.1), trivial, trivial⟩
theorem k_house  (h : IV M)  : okC (cmpc 2) 1000 2 184 [.inr 2] [.inr 62] IV M := by
  obtain ⟨v, M1, e1, g1, f1⟩ := q_X_house (d := 1000) (by decide) h.1.1 
  have r1 : RI0 M1 := RI0_Fr g1 f1 (by decide) h.1
  obtain ⟨y, M2, e2, r2, f2, k2⟩ := r_house (d := 1000) (by decide) r1
  have k1 := t_X_house (d := 1000) (by decide) h.1.1 e1
  have kc := kc_house h.1 h.2.2.1 h.2.1 r1 e1 f1 (by decide) (by decide) (by decide) (wOK_no (by decide)) e2 f2 (by decide)
  exact ⟨v, y, M1, M2, e1, e2, fun _ => kc.1, r2, TI_0 h.2.1 f1 (by decide) k1 f2 (by decide) (by decide) k2, kc.2.1, GA_Fr f2 (by decide) kc.2.2 (GA_Fr f1 (by decide) (ge_of f1 (by decide)) h.2.2.2.1), trivial, trivial⟩
theorem k_rule  (h : IV M)  : okC (cmpc 3) 1000 3 193 [.inr 2] [.inr 62] IV M := by
  obtain ⟨v, M1, e1, g1, f1, -⟩ := q_X_rule (d := 1000) (by decide) h.1.1 
  have r1 : RI0 M1 := RI0_Fr g1 f1 (by decide) h.1
  obtain ⟨y, M2, e2, r2, f2⟩ := w_M_rule r1 
  have k1 := t_X_rule (d := 1000) (by decide) h.1.1 e1
  have k2 := t_M_rule (d := 1000) (by decide) r1.1 e2
  exact ⟨v, y, M1, M2, e1, e2, fun z => absurd z (by decide), r2, TI_0 h.2.1 f1 (by decide) k1 f2 (by decide) (by decide) k2, ci_Fr f2 (by decide) (by decide) (ci_Fr f1 (by decide) (by decide) h.2.2.1), GA_Fr f2 (by decide) (ge_of f2 (by decide)) (GA_Fr f1 (by decide) (ge_of f1 (by decide)) h.2.2.2.1), trivial, trivial⟩
theorem k_room {a1 : Int} {a2 : Int} (h : IV M) (h1 : -2147483648 ≤ a1 ∧ a1 ≤ 2147483647) (h2 : -2147483648 ≤ a2 ∧ a2 ≤ 2147483647) : okT0 1000 4 10 199 [.inr 2, .inl a1, .inl a2] [.inr 62, .inl a1, .inl a2] IV M := by
  obtain ⟨v, M1, e1, g1, f1⟩ := y_room (d := 1000) (by decide) h.1.1 h1 h2
  have r1 : RI0 M1 := RI0_Fr g1 f1 (by decide) h.1
  obtain ⟨y, M2, e2, r2, f2⟩ := w_M_room r1 h1 h2
  exact ⟨v, y, M1, M2, e1, e2, r2, TI_Fr f2 (by decide) (TI_Fr f1 (by decide) h.2.1), ci_Fr f2 (by decide) (by decide) (ci_Fr f1 (by decide) (by decide) h.2.2.1), GA_Fr f2 (by decide) (ge_of f2 (by decide)) (GA_Fr f1 (by decide) (ge_of f1 (by decide)) h.2.2.2.1), trivial, trivial⟩
theorem k_thing {a1 : Int} {a2 : Int} (h : IV M) (h1 : -2147483648 ≤ a1 ∧ a1 ≤ 2147483647) (h2 : -2147483648 ≤ a2 ∧ a2 ≤ 2147483647) : okT0 1000 5 10 201 [.inr 2, .inl a1, .inl a2] [.inr 62, .inl a1, .inl a2] IV M := by
  obtain ⟨v, M1, e1, g1, f1⟩ := y_thing (d := 1000) (by decide) h.1.1 h1 h2
  have r1 : RI0 M1 := RI0_Fr g1 f1 (by decide) h.1
  obtain ⟨y, M2, e2, r2, f2⟩ := w_M_thing r1 h1 h2
  exact ⟨v, y, M1, M2, e1, e2, r2, TI_Fr f2 (by decide) (TI_Fr f1 (by decide) h.2.1), ci_Fr f2 (by decide) (by decide) (ci_Fr f1 (by decide) (by decide) h.2.2.1), GA_Fr f2 (by decide) (ge_of f2 (by decide)) (GA_Fr f1 (by decide) (ge_of f1 (by decide)) h.2.2.2.1), trivial, trivial⟩
theorem k_set {a1 : Int} (h : IV M) (h1 : -2147483648 ≤ a1 ∧ a1 ≤ 2147483647) : okC (cmpc 6) 1000 6 202 [.inr 2, .inl a1] [.inr 62, .inl a1] IV M := by
  obtain ⟨v, M1, e1, g1, f1, -⟩ := q_X_set (d := 1000) (by decide) h.1.1 h1
  have r1 : RI0 M1 := RI0_Fr g1 f1 (by decide) h.1
  obtain ⟨y, M2, e2, r2, f2⟩ := w_M_set r1 h1
  exact ⟨v, y, M1, M2, e1, e2, fun z => absurd z (by decide), r2, TI_Fr f2 (by decide) (TI_Fr f1 (by decide) h.2.1), ci_Fr f2 (by decide) (by decide) (ci_Fr f1 (by decide) (by decide) h.2.2.1), GA_Fr f2 (by decide) (ge_of f2 (by decide)) (GA_Fr f1 (by decide) (ge_of f1 (by decide)) h.2.2.2.1), trivial, trivial⟩
theorem k_door {a1 : Int} {a2 : Int} (h : IV M) (h1 : -2147483648 ≤ a1 ∧ a1 ≤ 2147483647) (h2 : -2147483648 ≤ a2 ∧ a2 ≤ 2147483647) : okC (cmpc 7) 1000 7 203 [.inr 2, .inl a1, .inl a2] [.inr 62, .inl a1, .inl a2] IV M := by
  obtain ⟨v, M1, e1, g1, f1, -⟩ := q_X_door (d := 1000) (by decide) h.1.1 h1 h2
  have r1 : RI0 M1 := RI0_Fr g1 f1 (by decide) h.1
  obtain ⟨y, M2, e2, r2, f2⟩ := w_M_door r1 h1 h2
  exact ⟨v, y, M1, M2, e1, e2, fun z => absurd z (by decide), r2, TI_Fr f2 (by decide) (TI_Fr f1 (by decide) h.2.1), ci_Fr f2 (by decide) (by decide) (ci_Fr f1 (by decide) (by decide) h.2.2.1), GA_Fr f2 (by decide) (ge_of f2 (by decide)) (GA_Fr f1 (by decide) (ge_of f1 (by decide)) h.2.2.2.1), trivial, trivial⟩
theorem k_widen {a1 : Int} {a2 : Int} {a3 : Int} (h : IV M) (h1 : -2147483648 ≤ a1 ∧ a1 ≤ 2147483647) (h2 : -2147483648 ≤ a2 ∧ a2 ≤ 2147483647) (h3 : -2147483648 ≤ a3 ∧ a3 ≤ 2147483647) : okC (cmpc 8) 1000 8 204 [.inr 2, .inl a1, .inl a2, .inl a3] [.inr 62, .inl a1, .inl a2, .inl a3] IV M := by
  obtain ⟨v, M1, e1, g1, f1, -⟩ := q_X_widen (d := 1000) (by decide) h.1.1 h1 h2 h3
  have r1 : RI0 M1 := RI0_Fr g1 f1 (by decide) h.1
  obtain ⟨y, M2, e2, r2, f2⟩ := w_M_widen r1 h1 h2 h3
  have kc := kc_widen h.1 h.2.2.1 h1 h2 h3 e1 f1 (by decide) e2 f2 (by decide)
  exact ⟨v, y, M1, M2, e1, e2, fun _ => kc.1, r2, TI_Fr f2 (by decide) (TI_Fr f1 (by decide) h.2.1), kc.2, GA_Fr f2 (by decide) (ge_of f2 (by decide)) (GA_Fr f1 (by decide) (ge_of f1 (by decide)) h.2.2.2.1), trivial, trivial⟩
theorem k_strength {a1 : Int} (h : IV M) (h1 : -2147483648 ≤ a1 ∧ a1 ≤ 2147483647) : okC (cmpc 9) 1000 9 205 [.inr 2, .inl a1] [.inr 62, .inl a1] IV M := by
  obtain ⟨v, M1, e1, g1, f1, -⟩ := q_X_strength (d := 1000) (by decide) h.1.1 h1
  have r1 : RI0 M1 := RI0_Fr g1 f1 (by decide) h.1
  obtain ⟨y, M2, e2, r2, f2⟩ := w_M_strength r1 h1
  have s1 := t_X_strength (d := 1000) (by decide) h1.1 h1.2 e1
  have s2 := t_M_strength (d := 1000) (by decide) h1.1 h1.2 e2
  have k0 : M 0 17 = M 60 12 := by
    obtain ⟨G, X, Y⟩ := h.2.2.1
    rw [X.2.1.2.2, Y.2.1.2.2]
  have k12 : M1 60 12 = M 0 17 := by rw [f1 60 12 (by decide)]; exact k0.symm
  rw [k12] at s2
  exact ⟨v, y, M1, M2, e1, e2, fun _ => by rw [s1.1, s2.1], r2, TI_Fr f2 (by decide) (TI_Fr f1 (by decide) h.2.1), kc_strength h.2.2.1 (Fr_mono f1 (by decide)) (Fr_mono f2 (by decide)) (by rw [s1.2, s2.2]), GA_Fr f2 (by decide) (ge_of f2 (by decide)) (GA_Fr f1 (by decide) (ge_of f1 (by decide)) h.2.2.2.1), trivial, trivial⟩
theorem k_sheet {a1 : Int} {a2 : Int} {a3 : Int} {a4 : Int} (h : IV M) (h1 : -2147483648 ≤ a1 ∧ a1 ≤ 2147483647) (h2 : -2147483648 ≤ a2 ∧ a2 ≤ 2147483647) (h3 : -2147483648 ≤ a3 ∧ a3 ≤ 2147483647) (h4 : -2147483648 ≤ a4 ∧ a4 ≤ 2147483647) : okC (cmpc 10) 1000 10 206 [.inr 2, .inl a1, .inl a2, .inl a3, .inl a4] [.inr 62, .inl a1, .inl a2, .inl a3, .inl a4] IV M := by
  obtain ⟨v, M1, e1, g1, f1⟩ := q_X_sheet (d := 1000) (by decide) h.1.1 h1 h2 h3 h4
  have r1 : RI0 M1 := RI0_Fr g1 f1 (by decide) h.1
  obtain ⟨y, M2, e2, r2, f2⟩ := w_M_sheet r1 h1 h2 h3 h4
  have kc := kc_sheet h.1 h.2.2.1 h1 h2 e1 f1 (by decide) e2 f2 (by decide)
  exact ⟨v, y, M1, M2, e1, e2, fun _ => kc.1, r2, TI_Fr f2 (by decide) (TI_Fr f1 (by decide) h.2.1), kc.2, GA_Fr f2 (by decide) (ge_of f2 (by decide)) (GA_Fr f1 (by decide) (ge_of f1 (by decide)) h.2.2.2.1), trivial, trivial⟩
theorem k_carry {a1 : Int} {a2 : Int} (h : IV M) (h1 : -2147483648 ≤ a1 ∧ a1 ≤ 2147483647) (h2 : -2147483648 ≤ a2 ∧ a2 ≤ 2147483647) : okC (cmpc 11) 1000 11 216 [.inr 2, .inl a1, .inl a2] [.inr 62, .inl a1, .inl a2] IV M := by
  obtain ⟨v, M1, e1, g1, f1, -⟩ := q_X_carry (d := 1000) (by decide) h.1.1 h1 h2
  have r1 : RI0 M1 := RI0_Fr g1 f1 (by decide) h.1
  obtain ⟨y, M2, e2, r2, f2⟩ := w_M_carry r1 h1 h2
  have kc := kc_carry h.1 h.2.2.1 h1 h2 e1 f1 (by decide) e2 f2 (by decide)
  exact ⟨v, y, M1, M2, e1, e2, fun _ => kc.1, r2, TI_Fr f2 (by decide) (TI_Fr f1 (by decide) h.2.1), kc.2, GA_Fr f2 (by decide) (ge_of f2 (by decide)) (GA_Fr f1 (by decide) (ge_of f1 (by decide)) h.2.2.2.1), trivial, trivial⟩
theorem k_evening  (h : IV M)  : okC (cmpc 12) 1000 12 218 [.inr 2] [.inr 62] IV M := by
  obtain ⟨v, M1, e1, g1, f1, -⟩ := q_X_evening (d := 1000) (by decide) h.1.1 
  have r1 : RI0 M1 := RI0_Fr g1 f1 (by decide) h.1
  obtain ⟨y, M2, e2, r2, f2⟩ := w_M_evening r1 
  have kc := kc_evening h.1 h.2.2.1 e1 f1 (by decide) e2 f2 (by decide)
  exact ⟨v, y, M1, M2, e1, e2, fun _ => kc.1, r2, TI_Fr f2 (by decide) (TI_Fr f1 (by decide) h.2.1), kc.2, GA_Fr f2 (by decide) (ge_of f2 (by decide)) (GA_Fr f1 (by decide) (ge_of f1 (by decide)) h.2.2.2.1), trivial, trivial⟩
theorem k_day  (h : IV M)  : okC (cmpc 13) 1000 13 219 [.inr 2] [.inr 62] IV M := by
  obtain ⟨v, M1, e1, g1, f1⟩ := q_X_day (d := 1000) (by decide) h.1.1 
  have r1 : RI0 M1 := RI0_Fr g1 f1 (by decide) h.1
  obtain ⟨y, M2, e2, r2, f2, k2⟩ := r_day (d := 1000) (by decide) r1
  have k1 := t_X_day (d := 1000) (by decide) h.1.1 e1
  have kc := kc_day h.1 h.2.2.1 h.2.1 e1 f1 (by decide) (by decide) (wOK_no (by decide)) e2 f2 (by decide)
  exact ⟨v, y, M1, M2, e1, e2, fun _ => kc.1, r2, TI_0 h.2.1 f1 (by decide) k1 f2 (by decide) (by decide) k2, kc.2, GA_Fr f2 (by decide) (ge_of f2 (by decide)) (GA_Fr f1 (by decide) (ge_of f1 (by decide)) h.2.2.2.1), trivial, trivial⟩
theorem k_undo  (h : IV M)  : okC (cmpc 14) 1000 14 220 [.inr 2] [.inr 62] IV M := by
  obtain ⟨v, M1, e1, g1, f1, -⟩ := q_X_undo (d := 1000) (by decide) h.1.1 
  have r1 : RI0 M1 := RI0_Fr g1 f1 (by decide) h.1
  obtain ⟨y, M2, e2, r2, f2⟩ := w_M_undo r1 
  have kc := kc_undo h.1 h.2.2.1 e1 f1 (by decide) e2 f2 (by decide)
  exact ⟨v, y, M1, M2, e1, e2, fun _ => kc.1, r2, TI_Fr f2 (by decide) (TI_Fr f1 (by decide) h.2.1), kc.2, GA_Fr f2 (by decide) (ge_of f2 (by decide)) (GA_Fr f1 (by decide) (ge_of f1 (by decide)) h.2.2.2.1), trivial, trivial⟩
theorem k_judge {a1 : Int} {a2 : Int} (h : IV M) (h1 : -2147483648 ≤ a1 ∧ a1 ≤ 2147483647) (h2 : -2147483648 ≤ a2 ∧ a2 ≤ 2147483647) : okC (cmpc 15) 1000 15 221 [.inr 2, .inl a1, .inl a2] [.inr 62, .inl a1, .inl a2] IV M := by
  obtain ⟨v, M1, e1, g1, f1, -⟩ := q_X_judge (d := 1000) (by decide) h.1.1 h1 h2
  have r1 : RI0 M1 := RI0_Fr g1 f1 (by decide) h.1
  obtain ⟨y, M2, e2, r2, f2⟩ := w_M_judge r1 h1 h2
  have kc := kc_judge h.1 h.2.2.1 h1 e1 f1 (by decide) (by decide) e2 f2 (by decide)
  exact ⟨v, y, M1, M2, e1, e2, fun _ => kc.1, r2, TI_Fr f2 (by decide) (TI_Fr f1 (by decide) h.2.1), kc.2, GA_Fr f2 (by decide) (ge_of f2 (by decide)) (GA_Fr f1 (by decide) (ge_of f1 (by decide)) h.2.2.2.1), trivial, trivial⟩
theorem k_clumps  (h : IV M)  : okC (cmpc 16) 1000 16 222 [.inr 2] [.inr 62] IV M := by
  obtain ⟨v, M1, e1, g1, f1, -⟩ := q_X_clumps (d := 1000) (by decide) h.1.1 
  have r1 : RI0 M1 := RI0_Fr g1 f1 (by decide) h.1
  obtain ⟨y, M2, e2, r2, f2⟩ := w_M_clumps r1 
  exact ⟨v, y, M1, M2, e1, e2, fun z => absurd z (by decide), r2, TI_Fr f2 (by decide) (TI_Fr f1 (by decide) h.2.1), ci_Fr f2 (by decide) (by decide) (ci_Fr f1 (by decide) (by decide) h.2.2.1), GA_Fr f2 (by decide) (ge_of f2 (by decide)) (GA_Fr f1 (by decide) (ge_of f1 (by decide)) h.2.2.2.1), trivial, trivial⟩
theorem k_heaviest  (h : IV M)  : okC (cmpc 17) 1000 17 224 [.inr 2] [.inr 62] IV M := by
  obtain ⟨v, M1, e1, g1, f1, -⟩ := q_X_heaviest (d := 1000) (by decide) h.1.1 
  have r1 : RI0 M1 := RI0_Fr g1 f1 (by decide) h.1
  obtain ⟨y, M2, e2, r2, f2⟩ := w_M_heaviest r1 
  exact ⟨v, y, M1, M2, e1, e2, fun z => absurd z (by decide), r2, TI_Fr f2 (by decide) (TI_Fr f1 (by decide) h.2.1), ci_Fr f2 (by decide) (by decide) (ci_Fr f1 (by decide) (by decide) h.2.2.1), GA_Fr f2 (by decide) (ge_of f2 (by decide)) (GA_Fr f1 (by decide) (ge_of f1 (by decide)) h.2.2.2.1), trivial, trivial⟩
theorem k_without {a1 : Int} (h : IV M) (h1 : -2147483648 ≤ a1 ∧ a1 ≤ 2147483647) : okC (cmpc 18) 1000 18 225 [.inr 2, .inl a1] [.inr 62, .inl a1] IV M := by
  obtain ⟨v, M1, e1, g1, f1⟩ := q_X_without (d := 1000) (by decide) h.1.1 h1
  have r1 : RI0 M1 := RI0_Fr g1 f1 (by decide) h.1
  obtain ⟨y, M2, e2, r2, f2⟩ := w_M_without r1 h1
  exact ⟨v, y, M1, M2, e1, e2, fun z => absurd z (by decide), r2, TI_Fr f2 (by decide) (TI_Fr f1 (by decide) h.2.1), ci_Fr f2 (by decide) (by decide) (ci_Fr f1 (by decide) (by decide) h.2.2.1), GA_Fr f2 (by decide) (ge_of f2 (by decide)) (GA_Fr f1 (by decide) (ge_of f1 (by decide)) h.2.2.2.1), trivial, trivial⟩
theorem k_breaks {a1 : Int} (h : IV M) (h1 : -2147483648 ≤ a1 ∧ a1 ≤ 2147483647) : okC (cmpc 19) 1000 19 226 [.inr 2, .inl a1] [.inr 62, .inl a1] IV M := by
  obtain ⟨v, M1, e1, g1, f1, -⟩ := q_X_breaks (d := 1000) (by decide) h.1.1 h1
  have r1 : RI0 M1 := RI0_Fr g1 f1 (by decide) h.1
  obtain ⟨y, M2, e2, r2, f2⟩ := w_M_breaks r1 h1
  have kc := kc_breaks h.1 h.2.2.1 r1 h1 e1 f1 (by decide) e2 f2 (by decide)
  exact ⟨v, y, M1, M2, e1, e2, fun z => absurd z (by decide), r2, TI_Fr f2 (by decide) (TI_Fr f1 (by decide) h.2.1), kc, GA_Fr f2 (by decide) (ge_of f2 (by decide)) (GA_Fr f1 (by decide) (ge_of f1 (by decide)) h.2.2.2.1), trivial, trivial⟩
theorem k_ties  (h : IV M)  : okC (cmpc 20) 1000 20 227 [.inr 2] [.inr 62] IV M := by
  obtain ⟨v, M1, e1, g1, f1, -⟩ := q_X_ties (d := 1000) (by decide) h.1.1 
  have r1 : RI0 M1 := RI0_Fr g1 f1 (by decide) h.1
  obtain ⟨y, M2, e2, r2, f2⟩ := w_M_ties r1 
  exact ⟨v, y, M1, M2, e1, e2, fun z => absurd z (by decide), r2, TI_Fr f2 (by decide) (TI_Fr f1 (by decide) h.2.1), ci_Fr f2 (by decide) (by decide) (ci_Fr f1 (by decide) (by decide) h.2.2.1), GA_Fr f2 (by decide) (ge_of f2 (by decide)) (GA_Fr f1 (by decide) (ge_of f1 (by decide)) h.2.2.2.1), trivial, trivial⟩
theorem k_fits  (h : IV M)  : okC (cmpc 21) 1000 21 234 [.inr 2] [.inr 62] IV M := by
  obtain ⟨v, M1, e1, g1, f1⟩ := q_X_fits (d := 1000) (by decide) h.1.1 
  have r1 : RI0 M1 := RI0_Fr g1 f1 (by decide) h.1
  obtain ⟨y, M2, e2, r2, f2⟩ := w_M_fits r1 
  exact ⟨v, y, M1, M2, e1, e2, fun z => absurd z (by decide), r2, TI_Fr f2 (by decide) (TI_Fr f1 (by decide) h.2.1), ci_Fr f2 (by decide) (by decide) (ci_Fr f1 (by decide) (by decide) h.2.2.1), GA_Fr f2 (by decide) (ge_of f2 (by decide)) (GA_Fr f1 (by decide) (ge_of f1 (by decide)) h.2.2.2.1), trivial, trivial⟩
theorem k_worth  (h : IV M)  : okC (cmpc 22) 1000 22 235 [.inr 2] [.inr 62] IV M := by
  obtain ⟨v, M1, e1, g1, f1⟩ := q_X_worth (d := 1000) (by decide) h.1.1 
  have r1 : RI0 M1 := RI0_Fr g1 f1 (by decide) h.1
  obtain ⟨y, M2, e2, r2, f2⟩ := w_M_worth r1 
  exact ⟨v, y, M1, M2, e1, e2, fun z => absurd z (by decide), r2, TI_Fr f2 (by decide) (TI_Fr f1 (by decide) h.2.1), ci_Fr f2 (by decide) (by decide) (ci_Fr f1 (by decide) (by decide) h.2.2.1), GA_Fr f2 (by decide) (ge_of f2 (by decide)) (GA_Fr f1 (by decide) (ge_of f1 (by decide)) h.2.2.2.1), trivial, trivial⟩
theorem k_best  (h : IV M)  : okC (cmpc 23) 1000 23 236 [.inr 2] [.inr 62] IV M := by
  obtain ⟨v, M1, e1, g1, f1, -⟩ := q_X_best (d := 1000) (by decide) h.1.1 
  have r1 : RI0 M1 := RI0_Fr g1 f1 (by decide) h.1
  obtain ⟨y, M2, e2, r2, f2⟩ := w_M_best r1 
  exact ⟨v, y, M1, M2, e1, e2, fun z => absurd z (by decide), r2, TI_Fr f2 (by decide) (TI_Fr f1 (by decide) h.2.1), ci_Fr f2 (by decide) (by decide) (ci_Fr f1 (by decide) (by decide) h.2.2.1), GA_Fr f2 (by decide) (ge_of f2 (by decide)) (GA_Fr f1 (by decide) (ge_of f1 (by decide)) h.2.2.2.1), trivial, trivial⟩
theorem k_near  (h : IV M)  : okC (cmpc 24) 1000 24 238 [.inr 2] [.inr 62] IV M := by
  obtain ⟨v, M1, e1, g1, f1⟩ := q_X_near (d := 1000) (by decide) h.1.1 
  have r1 : RI0 M1 := RI0_Fr g1 f1 (by decide) h.1
  obtain ⟨y, M2, e2, r2, f2⟩ := w_M_near r1 
  exact ⟨v, y, M1, M2, e1, e2, fun z => absurd z (by decide), r2, TI_Fr f2 (by decide) (TI_Fr f1 (by decide) h.2.1), ci_Fr f2 (by decide) (by decide) (ci_Fr f1 (by decide) (by decide) h.2.2.1), GA_Fr f2 (by decide) (ge_of f2 (by decide)) (GA_Fr f1 (by decide) (ge_of f1 (by decide)) h.2.2.2.1), trivial, trivial⟩
theorem k_guest {a1 : Int} {a2 : Int} (h : IV M) (h1 : -2147483648 ≤ a1 ∧ a1 ≤ 2147483647) (h2 : -2147483648 ≤ a2 ∧ a2 ≤ 2147483647) : okC (cmpc 25) 1000 25 239 [.inr 2, .inl a1, .inl a2] [.inr 62, .inl a1, .inl a2] IV M := by
  obtain ⟨v, M1, e1, g1, f1⟩ := q_X_guest (d := 1000) (by decide) h.1.1 h1 h2
  have r1 : RI0 M1 := RI0_Fr g1 f1 (by decide) h.1
  obtain ⟨y, M2, e2, r2, f2⟩ := w_M_guest r1 h1 h2
  exact ⟨v, y, M1, M2, e1, e2, fun z => absurd z (by decide), r2, TI_Fr f2 (by decide) (TI_Fr f1 (by decide) h.2.1), ci_Fr f2 (by decide) (by decide) (ci_Fr f1 (by decide) (by decide) h.2.2.1), GA_Fr f2 (by decide) (ge_of f2 (by decide)) (GA_Fr f1 (by decide) (ge_of f1 (by decide)) h.2.2.2.1), trivial, trivial⟩
theorem k_space  (h : IV M)  : okC (cmpc 26) 1000 26 240 [.inr 2] [.inr 62] IV M := by
  obtain ⟨v, M1, e1, g1, f1⟩ := q_X_space (d := 1000) (by decide) h.1.1 
  have r1 : RI0 M1 := RI0_Fr g1 f1 (by decide) h.1
  obtain ⟨y, M2, e2, r2, f2⟩ := w_M_space r1 
  exact ⟨v, y, M1, M2, e1, e2, fun z => absurd z (by decide), r2, TI_Fr f2 (by decide) (TI_Fr f1 (by decide) h.2.1), ci_Fr f2 (by decide) (by decide) (ci_Fr f1 (by decide) (by decide) h.2.2.1), GA_Fr f2 (by decide) (ge_of f2 (by decide)) (GA_Fr f1 (by decide) (ge_of f1 (by decide)) h.2.2.2.1), trivial, trivial⟩
theorem k_could {a1 : Int} {a2 : Int} (h : IV M) (h1 : -2147483648 ≤ a1 ∧ a1 ≤ 2147483647) (h2 : -2147483648 ≤ a2 ∧ a2 ≤ 2147483647) : okC (cmpc 27) 1000 27 241 [.inr 2, .inl a1, .inl a2] [.inr 62, .inl a1, .inl a2] IV M := by
  obtain ⟨v, M1, e1, g1, f1, -⟩ := q_X_could (d := 1000) (by decide) h.1.1 h1 h2
  have r1 : RI0 M1 := RI0_Fr g1 f1 (by decide) h.1
  obtain ⟨y, M2, e2, r2, f2⟩ := w_M_could r1 h1 h2
  exact ⟨v, y, M1, M2, e1, e2, fun z => absurd z (by decide), r2, TI_Fr f2 (by decide) (TI_Fr f1 (by decide) h.2.1), ci_Fr f2 (by decide) (by decide) (ci_Fr f1 (by decide) (by decide) h.2.2.1), GA_Fr f2 (by decide) (ge_of f2 (by decide)) (GA_Fr f1 (by decide) (ge_of f1 (by decide)) h.2.2.2.1), trivial, trivial⟩
theorem k_may {a1 : Int} (h : IV M) (h1 : -2147483648 ≤ a1 ∧ a1 ≤ 2147483647) : okC (cmpc 28) 1000 28 242 [.inr 2, .inl a1] [.inr 62, .inl a1] IV M := by
  obtain ⟨v, M1, e1, g1, f1, -⟩ := q_X_may (d := 1000) (by decide) h.1.1 h1
  have r1 : RI0 M1 := RI0_Fr g1 f1 (by decide) h.1
  obtain ⟨y, M2, e2, r2, f2⟩ := w_M_may r1 h1
  exact ⟨v, y, M1, M2, e1, e2, fun z => absurd z (by decide), r2, TI_Fr f2 (by decide) (TI_Fr f1 (by decide) h.2.1), ci_Fr f2 (by decide) (by decide) (ci_Fr f1 (by decide) (by decide) h.2.2.1), GA_Fr f2 (by decide) (ge_of f2 (by decide)) (GA_Fr f1 (by decide) (ge_of f1 (by decide)) h.2.2.2.1), trivial, trivial⟩
theorem k_together {a1 : Int} {a2 : Int} (h : IV M) (h1 : -2147483648 ≤ a1 ∧ a1 ≤ 2147483647) (h2 : -2147483648 ≤ a2 ∧ a2 ≤ 2147483647) : okC (cmpc 29) 1000 29 243 [.inr 2, .inl a1, .inl a2] [.inr 62, .inl a1, .inl a2] IV M := by
  obtain ⟨v, M1, e1, g1, f1⟩ := q_X_together (d := 1000) (by decide) h.1.1 h1 h2
  have r1 : RI0 M1 := RI0_Fr g1 f1 (by decide) h.1
  obtain ⟨y, M2, e2, r2, f2⟩ := w_M_together r1 h1 h2
  exact ⟨v, y, M1, M2, e1, e2, fun z => absurd z (by decide), r2, TI_Fr f2 (by decide) (TI_Fr f1 (by decide) h.2.1), ci_Fr f2 (by decide) (by decide) (ci_Fr f1 (by decide) (by decide) h.2.2.1), GA_Fr f2 (by decide) (ge_of f2 (by decide)) (GA_Fr f1 (by decide) (ge_of f1 (by decide)) h.2.2.2.1), trivial, trivial⟩
theorem k_fullest {a1 : Int} (h : IV M) (h1 : -2147483648 ≤ a1 ∧ a1 ≤ 2147483647) : okC (cmpc 30) 1000 30 244 [.inr 2, .inl a1] [.inr 62, .inl a1] IV M := by
  obtain ⟨v, M1, e1, g1, f1⟩ := q_X_fullest (d := 1000) (by decide) h.1.1 h1
  have r1 : RI0 M1 := RI0_Fr g1 f1 (by decide) h.1
  obtain ⟨y, M2, e2, r2, f2⟩ := w_M_fullest r1 h1
  exact ⟨v, y, M1, M2, e1, e2, fun z => absurd z (by decide), r2, TI_Fr f2 (by decide) (TI_Fr f1 (by decide) h.2.1), ci_Fr f2 (by decide) (by decide) (ci_Fr f1 (by decide) (by decide) h.2.2.1), GA_Fr f2 (by decide) (ge_of f2 (by decide)) (GA_Fr f1 (by decide) (ge_of f1 (by decide)) h.2.2.2.1), trivial, trivial⟩
theorem k_swap {a1 : Int} {a2 : Int} (h : IV M) (h1 : -2147483648 ≤ a1 ∧ a1 ≤ 2147483647) (h2 : -2147483648 ≤ a2 ∧ a2 ≤ 2147483647) : okC (cmpc 31) 1000 31 245 [.inr 2, .inl a1, .inl a2] [.inr 62, .inl a1, .inl a2] IV M := by
  obtain ⟨v, M1, e1, g1, f1, -⟩ := q_X_swap (d := 1000) (by decide) h.1.1 h1 h2
  have r1 : RI0 M1 := RI0_Fr g1 f1 (by decide) h.1
  obtain ⟨y, M2, e2, r2, f2⟩ := w_M_swap r1 h1 h2
  exact ⟨v, y, M1, M2, e1, e2, fun z => absurd z (by decide), r2, TI_Fr f2 (by decide) (TI_Fr f1 (by decide) h.2.1), ci_Fr f2 (by decide) (by decide) (ci_Fr f1 (by decide) (by decide) h.2.2.1), GA_Fr f2 (by decide) (ge_of f2 (by decide)) (GA_Fr f1 (by decide) (ge_of f1 (by decide)) h.2.2.2.1), trivial, trivial⟩
theorem k_sell  (h : IV M)  : okC (cmpc 32) 1000 32 246 [.inr 2] [.inr 62] IV M := by
  obtain ⟨v, M1, e1, g1, f1, -⟩ := q_X_sell (d := 1000) (by decide) h.1.1 
  have r1 : RI0 M1 := RI0_Fr g1 f1 (by decide) h.1
  obtain ⟨y, M2, e2, r2, f2⟩ := w_M_sell r1 
  exact ⟨v, y, M1, M2, e1, e2, fun z => absurd z (by decide), r2, TI_Fr f2 (by decide) (TI_Fr f1 (by decide) h.2.1), ci_Fr f2 (by decide) (by decide) (ci_Fr f1 (by decide) (by decide) h.2.2.1), GA_Fr f2 (by decide) (ge_of f2 (by decide)) (GA_Fr f1 (by decide) (ge_of f1 (by decide)) h.2.2.2.1), trivial, trivial⟩
theorem k_build  (h : IV M)  : okC (cmpc 33) 1000 33 248 [.inr 2] [.inr 62] IV M := by
  obtain ⟨v, M1, e1, g1, f1⟩ := q_X_build (d := 1000) (by decide) h.1.1 
  have r1 : RI0 M1 := RI0_Fr g1 f1 (by decide) h.1
  obtain ⟨y, M2, e2, r2, f2⟩ := w_M_build r1 
  exact ⟨v, y, M1, M2, e1, e2, fun z => absurd z (by decide), r2, TI_Fr f2 (by decide) (TI_Fr f1 (by decide) h.2.1), ci_Fr f2 (by decide) (by decide) (ci_Fr f1 (by decide) (by decide) h.2.2.1), GA_Fr f2 (by decide) (ge_of f2 (by decide)) (GA_Fr f1 (by decide) (ge_of f1 (by decide)) h.2.2.2.1), trivial, trivial⟩
theorem k_way {a1 : Int} {a2 : Int} (h : IV M) (h1 : -2147483648 ≤ a1 ∧ a1 ≤ 2147483647) (h2 : -2147483648 ≤ a2 ∧ a2 ≤ 2147483647) : okC (cmpc 34) 1000 34 250 [.inr 2, .inl a1, .inl a2] [.inr 62, .inl a1, .inl a2] IV M := by
  obtain ⟨v, M1, e1, g1, f1, -⟩ := q_X_way (d := 1000) (by decide) h.1.1 h1 h2
  have r1 : RI0 M1 := RI0_Fr g1 f1 (by decide) h.1
  obtain ⟨y, M2, e2, r2, f2⟩ := w_M_way r1 h1 h2
  exact ⟨v, y, M1, M2, e1, e2, fun z => absurd z (by decide), r2, TI_Fr f2 (by decide) (TI_Fr f1 (by decide) h.2.1), ci_Fr f2 (by decide) (by decide) (ci_Fr f1 (by decide) (by decide) h.2.2.1), GA_Fr f2 (by decide) (ge_of f2 (by decide)) (GA_Fr f1 (by decide) (ge_of f1 (by decide)) h.2.2.2.1), trivial, trivial⟩
theorem k_widest {a1 : Int} {a2 : Int} (h : IV M) (h1 : -2147483648 ≤ a1 ∧ a1 ≤ 2147483647) (h2 : -2147483648 ≤ a2 ∧ a2 ≤ 2147483647) : okC (cmpc 35) 1000 35 251 [.inr 2, .inl a1, .inl a2] [.inr 62, .inl a1, .inl a2] IV M := by
  obtain ⟨v, M1, e1, g1, f1, -⟩ := q_X_widest (d := 1000) (by decide) h.1.1 h1 h2
  have r1 : RI0 M1 := RI0_Fr g1 f1 (by decide) h.1
  obtain ⟨y, M2, e2, r2, f2⟩ := w_M_widest r1 h1 h2
  exact ⟨v, y, M1, M2, e1, e2, fun z => absurd z (by decide), r2, TI_Fr f2 (by decide) (TI_Fr f1 (by decide) h.2.1), ci_Fr f2 (by decide) (by decide) (ci_Fr f1 (by decide) (by decide) h.2.2.1), GA_Fr f2 (by decide) (ge_of f2 (by decide)) (GA_Fr f1 (by decide) (ge_of f1 (by decide)) h.2.2.2.1), trivial, trivial⟩
theorem k_stuck  (h : IV M)  : okC (cmpc 36) 1000 36 252 [.inr 2] [.inr 62] IV M := by
  obtain ⟨v, M1, e1, g1, f1, -⟩ := q_X_stuck (d := 1000) (by decide) h.1.1 
  have r1 : RI0 M1 := RI0_Fr g1 f1 (by decide) h.1
  obtain ⟨y, M2, e2, r2, f2⟩ := w_M_stuck r1 
  exact ⟨v, y, M1, M2, e1, e2, fun z => absurd z (by decide), r2, TI_Fr f2 (by decide) (TI_Fr f1 (by decide) h.2.1), ci_Fr f2 (by decide) (by decide) (ci_Fr f1 (by decide) (by decide) h.2.2.1), GA_Fr f2 (by decide) (ge_of f2 (by decide)) (GA_Fr f1 (by decide) (ge_of f1 (by decide)) h.2.2.2.1), trivial, trivial⟩
theorem k_hinge {a1 : Int} (h : IV M) (h1 : -2147483648 ≤ a1 ∧ a1 ≤ 2147483647) : okC (cmpc 37) 1000 37 254 [.inr 2, .inl a1] [.inr 62, .inl a1] IV M := by
  obtain ⟨v, M1, e1, g1, f1, -⟩ := q_X_hinge (d := 1000) (by decide) h.1.1 h1
  have r1 : RI0 M1 := RI0_Fr g1 f1 (by decide) h.1
  obtain ⟨y, M2, e2, r2, f2⟩ := w_M_hinge r1 h1
  have kc := kc_hinge h.1 h.2.2.1 h1 e1 f1 (by decide) e2 f2 (by decide)
  exact ⟨v, y, M1, M2, e1, e2, fun _ => kc.1, r2, TI_Fr f2 (by decide) (TI_Fr f1 (by decide) h.2.1), kc.2, GA_Fr f2 (by decide) (ge_of f2 (by decide)) (GA_Fr f1 (by decide) (ge_of f1 (by decide)) h.2.2.2.1), trivial, trivial⟩
theorem k_aim  (h : IV M)  : okC (cmpc 38) 1000 38 255 [.inr 2] [.inr 62] IV M := by
  obtain ⟨v, M1, e1, g1, f1, -⟩ := q_X_aim (d := 1000) (by decide) h.1.1 
  have r1 : RI0 M1 := RI0_Fr g1 f1 (by decide) h.1
  obtain ⟨y, M2, e2, r2, f2⟩ := w_M_aim r1 
  have kc := kc_aim h.1 h.2.2.1 h.2.1 h.2.2.2.1 e1 (Fr_mono f1 (by decide)) e2 (Fr_mono f2 (by decide))
  have k1 := kc.2.2.1
  have k2 := kc.2.2.2
  exact ⟨v, y, M1, M2, e1, e2, fun _ => kc.1, r2, TI_0 h.2.1 f1 (by decide) k1 f2 (by decide) (by decide) k2, ci_Fr f2 (by decide) (by decide) (ci_Fr f1 (by decide) (by decide) h.2.2.1), kc.2.1, trivial, trivial⟩
theorem k_apart  (h : IV M)  : okC (cmpc 39) 1000 39 257 [.inr 2] [.inr 62] IV M := by
  obtain ⟨v, M1, e1, g1, f1⟩ := q_X_apart (d := 1000) (by decide) h.1.1 
  have r1 : RI0 M1 := RI0_Fr g1 f1 (by decide) h.1
  obtain ⟨y, M2, e2, r2, f2⟩ := w_M_apart r1 
  exact ⟨v, y, M1, M2, e1, e2, fun z => absurd z (by decide), r2, TI_Fr f2 (by decide) (TI_Fr f1 (by decide) h.2.1), ci_Fr f2 (by decide) (by decide) (ci_Fr f1 (by decide) (by decide) h.2.2.1), GA_Fr f2 (by decide) (ge_of f2 (by decide)) (GA_Fr f1 (by decide) (ge_of f1 (by decide)) h.2.2.2.1), trivial, trivial⟩
theorem k_queue  (h : IV M)  : okC (cmpc 40) 1000 40 259 [.inr 2] [.inr 62] IV M := by
  obtain ⟨v, M1, e1, g1, f1, -⟩ := q_X_queue (d := 1000) (by decide) h.1.1 
  have r1 : RI0 M1 := RI0_Fr g1 f1 (by decide) h.1
  obtain ⟨y, M2, e2, r2, f2⟩ := w_M_queue r1 
  exact ⟨v, y, M1, M2, e1, e2, fun z => absurd z (by decide), r2, TI_Fr f2 (by decide) (TI_Fr f1 (by decide) h.2.1), ci_Fr f2 (by decide) (by decide) (ci_Fr f1 (by decide) (by decide) h.2.2.1), GA_Fr f2 (by decide) (ge_of f2 (by decide)) (GA_Fr f1 (by decide) (ge_of f1 (by decide)) h.2.2.2.1), trivial, trivial⟩
theorem k_evenings  (h : IV M)  : okC (cmpc 41) 1000 41 263 [.inr 2] [.inr 62] IV M := by
  obtain ⟨v, M1, e1, g1, f1, -⟩ := q_X_evenings (d := 1000) (by decide) h.1.1 
  have r1 : RI0 M1 := RI0_Fr g1 f1 (by decide) h.1
  obtain ⟨y, M2, e2, r2, f2⟩ := w_M_evenings r1 
  exact ⟨v, y, M1, M2, e1, e2, fun z => absurd z (by decide), r2, TI_Fr f2 (by decide) (TI_Fr f1 (by decide) h.2.1), ci_Fr f2 (by decide) (by decide) (ci_Fr f1 (by decide) (by decide) h.2.2.1), GA_Fr f2 (by decide) (ge_of f2 (by decide)) (GA_Fr f1 (by decide) (ge_of f1 (by decide)) h.2.2.2.1), trivial, trivial⟩
theorem k_weakest  (h : IV M)  : okC (cmpc 42) 1000 42 264 [.inr 2] [.inr 62] IV M := by
  obtain ⟨v, M1, e1, g1, f1⟩ := q_X_weakest (d := 1000) (by decide) h.1.1 
  have r1 : RI0 M1 := RI0_Fr g1 f1 (by decide) h.1
  obtain ⟨y, M2, e2, r2, f2⟩ := w_M_weakest r1 
  exact ⟨v, y, M1, M2, e1, e2, fun z => absurd z (by decide), r2, TI_Fr f2 (by decide) (TI_Fr f1 (by decide) h.2.1), ci_Fr f2 (by decide) (by decide) (ci_Fr f1 (by decide) (by decide) h.2.2.1), GA_Fr f2 (by decide) (ge_of f2 (by decide)) (GA_Fr f1 (by decide) (ge_of f1 (by decide)) h.2.2.2.1), trivial, trivial⟩
theorem k_keep {a1 : Int} (h : IV M) (h1 : -2147483648 ≤ a1 ∧ a1 ≤ 2147483647) : okC (cmpc 43) 1000 43 266 [.inr 2, .inl a1] [.inr 62, .inl a1] IV M := by
  obtain ⟨v, M1, e1, g1, f1, -⟩ := q_X_keep (d := 1000) (by decide) h.1.1 h1
  have r1 : RI0 M1 := RI0_Fr g1 f1 (by decide) h.1
  obtain ⟨y, M2, e2, r2, f2⟩ := w_M_keep r1 h1
  have kc := kc_keep h.1 h.2.2.1 h1 e1 f1 (by decide) e2 f2 (by decide)
  exact ⟨v, y, M1, M2, e1, e2, fun _ => by rw [t_X_keep (d := 1000) (by decide) h1.1 h1.2 e1, t_M_keep (d := 1000) (by decide) h1.1 h1.2 e2], r2, TI_Fr f2 (by decide) (TI_Fr f1 (by decide) h.2.1), kc, GA_Fr f2 (by decide) (ge_of f2 (by decide)) (GA_Fr f1 (by decide) (ge_of f1 (by decide)) h.2.2.2.1), trivial, trivial⟩
theorem k_again {a1 : Int} (h : IV M) (h1 : -2147483648 ≤ a1 ∧ a1 ≤ 2147483647) : okC (cmpc 44) 1000 44 267 [.inr 2, .inl a1] [.inr 62, .inl a1] IV M := by
  obtain ⟨v, M1, e1, g1, f1, -⟩ := q_X_again (d := 1000) (by decide) h.1.1 h1
  have r1 : RI0 M1 := RI0_Fr g1 f1 (by decide) h.1
  obtain ⟨y, M2, e2, r2, f2⟩ := w_M_again r1 h1
  have kc := kc_again h.1 h.2.2.1 r1 h1 e1 f1 (by decide) e2 f2 (by decide)
  exact ⟨v, y, M1, M2, e1, e2, fun _ => kc.1, r2, TI_Fr f2 (by decide) (TI_Fr f1 (by decide) h.2.1), kc.2, GA_Fr f2 (by decide) (ge_of f2 (by decide)) (GA_Fr f1 (by decide) (ge_of f1 (by decide)) h.2.2.2.1), trivial, trivial⟩
theorem k_count {a1 : Int} (h : IV M) (h1 : -2147483648 ≤ a1 ∧ a1 ≤ 2147483647) : okC (cmpc 45) 1000 45 268 [.inr 2, .inl a1] [.inr 62, .inl a1] IV M := by
  obtain ⟨v, M1, e1, g1, f1⟩ := q_X_count (d := 1000) (by decide) h.1.1 h1
  have r1 : RI0 M1 := RI0_Fr g1 f1 (by decide) h.1
  obtain ⟨y, M2, e2, r2, f2⟩ := w_M_count r1 h1
  exact ⟨v, y, M1, M2, e1, e2, fun z => absurd z (by decide), r2, TI_Fr f2 (by decide) (TI_Fr f1 (by decide) h.2.1), ci_Fr f2 (by decide) (by decide) (ci_Fr f1 (by decide) (by decide) h.2.2.1), GA_Fr f2 (by decide) (ge_of f2 (by decide)) (GA_Fr f1 (by decide) (ge_of f1 (by decide)) h.2.2.2.1), trivial, trivial⟩
theorem k_row {a1 : Int} (h : IV M) (h1 : -2147483648 ≤ a1 ∧ a1 ≤ 2147483647) : okT0 1000 46 7 269 [.inr 2, .inl a1] [.inr 62, .inl a1] IV M := by
  obtain ⟨v, M1, e1, g1, f1⟩ := y_row (d := 1000) (by decide) h.1.1 h1
  have r1 : RI0 M1 := RI0_Fr g1 f1 (by decide) h.1
  obtain ⟨y, M2, e2, r2, f2⟩ := w_M_row r1 h1
  exact ⟨v, y, M1, M2, e1, e2, r2, TI_Fr f2 (by decide) (TI_Fr f1 (by decide) h.2.1), ci_Fr f2 (by decide) (by decide) (ci_Fr f1 (by decide) (by decide) h.2.2.1), GA_Fr f2 (by decide) (ge_of f2 (by decide)) (GA_Fr f1 (by decide) (ge_of f1 (by decide)) h.2.2.2.1), trivial, trivial⟩
end KC
theorem k_all {M : pM} (h : IV M) (a1 a2 a3 a4 : Int32) : ∀ c, callOK 1000 IV M a1.toInt a2.toInt a3.toInt a4.toInt c
  | 0 => k_sign h ⟨r32a a1, by have := r32b a1; omega⟩
  | 1 => k_end h ⟨r32a a1, by have := r32b a1; omega⟩
  | 2 => k_house h 
  | 3 => k_rule h 
  | 4 => k_room h ⟨r32a a1, by have := r32b a1; omega⟩ ⟨r32a a2, by have := r32b a2; omega⟩
  | 5 => k_thing h ⟨r32a a1, by have := r32b a1; omega⟩ ⟨r32a a2, by have := r32b a2; omega⟩
  | 6 => k_set h ⟨r32a a1, by have := r32b a1; omega⟩
  | 7 => k_door h ⟨r32a a1, by have := r32b a1; omega⟩ ⟨r32a a2, by have := r32b a2; omega⟩
  | 8 => k_widen h ⟨r32a a1, by have := r32b a1; omega⟩ ⟨r32a a2, by have := r32b a2; omega⟩ ⟨r32a a3, by have := r32b a3; omega⟩
  | 9 => k_strength h ⟨r32a a1, by have := r32b a1; omega⟩
  | 10 => k_sheet h ⟨r32a a1, by have := r32b a1; omega⟩ ⟨r32a a2, by have := r32b a2; omega⟩ ⟨r32a a3, by have := r32b a3; omega⟩ ⟨r32a a4, by have := r32b a4; omega⟩
  | 11 => k_carry h ⟨r32a a1, by have := r32b a1; omega⟩ ⟨r32a a2, by have := r32b a2; omega⟩
  | 12 => k_evening h 
  | 13 => k_day h 
  | 14 => k_undo h 
  | 15 => k_judge h ⟨r32a a1, by have := r32b a1; omega⟩ ⟨r32a a2, by have := r32b a2; omega⟩
  | 16 => k_clumps h 
  | 17 => k_heaviest h 
  | 18 => k_without h ⟨r32a a1, by have := r32b a1; omega⟩
  | 19 => k_breaks h ⟨r32a a1, by have := r32b a1; omega⟩
  | 20 => k_ties h 
  | 21 => k_fits h 
  | 22 => k_worth h 
  | 23 => k_best h 
  | 24 => k_near h 
  | 25 => k_guest h ⟨r32a a1, by have := r32b a1; omega⟩ ⟨r32a a2, by have := r32b a2; omega⟩
  | 26 => k_space h 
  | 27 => k_could h ⟨r32a a1, by have := r32b a1; omega⟩ ⟨r32a a2, by have := r32b a2; omega⟩
  | 28 => k_may h ⟨r32a a1, by have := r32b a1; omega⟩
  | 29 => k_together h ⟨r32a a1, by have := r32b a1; omega⟩ ⟨r32a a2, by have := r32b a2; omega⟩
  | 30 => k_fullest h ⟨r32a a1, by have := r32b a1; omega⟩
  | 31 => k_swap h ⟨r32a a1, by have := r32b a1; omega⟩ ⟨r32a a2, by have := r32b a2; omega⟩
  | 32 => k_sell h 
  | 33 => k_build h 
  | 34 => k_way h ⟨r32a a1, by have := r32b a1; omega⟩ ⟨r32a a2, by have := r32b a2; omega⟩
  | 35 => k_widest h ⟨r32a a1, by have := r32b a1; omega⟩ ⟨r32a a2, by have := r32b a2; omega⟩
  | 36 => k_stuck h 
  | 37 => k_hinge h ⟨r32a a1, by have := r32b a1; omega⟩
  | 38 => k_aim h 
  | 39 => k_apart h 
  | 40 => k_queue h 
  | 41 => k_evenings h 
  | 42 => k_weakest h 
  | 43 => k_keep h ⟨r32a a1, by have := r32b a1; omega⟩
  | 44 => k_again h ⟨r32a a1, by have := r32b a1; omega⟩
  | 45 => k_count h ⟨r32a a1, by have := r32b a1; omega⟩
  | 46 => k_row h ⟨r32a a1, by have := r32b a1; omega⟩
  | _ + 47 => h
