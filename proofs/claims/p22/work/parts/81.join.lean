section
/-! what both sides hold stays the same -/
def CI (M : pM) : Prop := ∃ G, XG M G ∧ MG M G
section CIS
variable {M M1 M2 G : pM} {w1 w2 : List (Nat × Nat)} {v y : Int}
theorem ci_Fr {w : List (Nat × Nat)} (f : Fr w M M1) (h1 : okW cx cxo w = true) (h2 : okW cm cmo w = true) (C : CI M) : CI M1 := by
  obtain ⟨G, X, Y⟩ := C
  exact ⟨G, XG_Fr f h1 X, MG_Fr f h2 Y⟩
theorem ci_facts (R : RI0 M) (X : XG M G) (Y : MG M G) : WF G ∧ (0 ≤ G 9 0 ∧ G 9 0 ≤ 20) ∧ (∀ k : Nat, (k : Int) < G 9 0 → 0 ≤ G 10 k ∧ G 10 k ≤ 9) ∧ ∀ i, i < 2 → 0 ≤ G 13 i ∧ G 13 i ≤ 1 := by
  have b33 := gm_i R.1 60 33 (lo := 0) (hi := 20) (by decide +kernel) (by decide +kernel)
  rw [Y.2.2.1.1] at b33
  refine ⟨WF_MH R.1 R.2.2.1 Y.1, b33, fun k hk => ?_, fun i hi => ?_⟩
  · rw [← (Y.2.2.1.2 k hk).1]
    exact gR0 (by rw [← (g75 k (by omega)).1]; exact R.1 75 (3 * k) (p75 (by omega)).1)
  · have := (X.2.2.2 i hi).1
    rw [← this]
    rcases (show i = 0 ∨ i = 1 by omega) with rfl | rfl
    · exact gm_i R.1 44 1 (lo := 0) (hi := 1) (by decide +kernel) (by decide +kernel)
    · exact gm_i R.1 46 1 (lo := 0) (hi := 1) (by decide +kernel) (by decide +kernel)
theorem kc_widen (R : RI0 M) (C : CI M) {a1 a2 a3 : Int} (h1 : -2147483648 ≤ a1 ∧ a1 ≤ 2147483647) (h2 : -2147483648 ≤ a2 ∧ a2 ≤ 2147483647) (h3 : -2147483648 ≤ a3 ∧ a3 ≤ 2147483647) (e1 : xF 1000 8 [.inr 2, .inl a1, .inl a2, .inl a3] M = rI v M1) (f1 : Fr w1 M M1) (k1 : okW cm cmo w1 = true) (e2 : xF 1000 204 [.inr 62, .inl a1, .inl a2, .inl a3] M1 = rI y M2) (f2 : Fr w2 M1 M2) (k2 : okW cx cxo w2 = true) : v = y ∧ CI M2 := by
  obtain ⟨G, X, Y⟩ := C
  obtain ⟨W, -⟩ := ci_facts R X Y
  obtain ⟨p1, p2⟩ := x_widen (d := 1000) (by decide) W X h1 h2 h3 e1
  obtain ⟨q1, q2⟩ := m_widen (d := 1000) (by decide) W (MG_Fr f1 k1 Y) h1 h2 h3 e2
  by_cases q : wdC G a1 a2 a3
  · exact ⟨by rw [(p1 q).1, (q1 q).1], _, XG_Fr f2 k2 (p1 q).2, (q1 q).2⟩
  · exact ⟨by rw [(p2 q).1, (q2 q).1], _, XG_Fr f2 k2 (p2 q).2, (q2 q).2⟩
theorem kc_sheet (R : RI0 M) (C : CI M) {a1 a2 a3 a4 : Int} (h1 : -2147483648 ≤ a1 ∧ a1 ≤ 2147483647) (h2 : -2147483648 ≤ a2 ∧ a2 ≤ 2147483647) (e1 : xF 1000 10 [.inr 2, .inl a1, .inl a2, .inl a3, .inl a4] M = rI v M1) (f1 : Fr w1 M M1) (k1 : okW cm cmo w1 = true) (e2 : xF 1000 206 [.inr 62, .inl a1, .inl a2, .inl a3, .inl a4] M1 = rI y M2) (f2 : Fr w2 M1 M2) (k2 : okW cx cxo w2 = true) : v = y ∧ CI M2 := by
  obtain ⟨G, X, Y⟩ := C
  obtain ⟨W, -⟩ := ci_facts R X Y
  obtain ⟨p1, p2⟩ := xg_sheet (d := 1000) (by decide) W X h1 h2 e1
  obtain ⟨q1, q2⟩ := mg_sheet (d := 1000) (by decide) W (MG_Fr f1 k1 Y) h1 h2 e2
  exact ⟨by rw [p1, q1], _, XG_Fr f2 k2 p2, q2⟩
theorem kc_breaks (R : RI0 M) (C : CI M) (R1 : RI0 M1) {a1 : Int} (h1 : -2147483648 ≤ a1 ∧ a1 ≤ 2147483647) (e1 : xF 1000 19 [.inr 2, .inl a1] M = rI v M1) (f1 : Fr w1 M M1) (k1 : okW cm cmo w1 = true) (e2 : xF 1000 226 [.inr 62, .inl a1] M1 = rI y M2) (f2 : Fr w2 M1 M2) (k2 : okW cx cxo w2 = true) : CI M2 := by
  obtain ⟨G, X, Y⟩ := C
  obtain ⟨W, -⟩ := ci_facts R X Y
  obtain ⟨p1, p2⟩ := xg_breaks (d := 1000) (by decide) W R.1 X h1 e1
  obtain ⟨q1, q2⟩ := mg_breaks (d := 1000) (by decide) W R1.1 (MG_Fr f1 k1 Y) h1 e2
  by_cases q : 0 ≤ a1 ∧ a1 < hT G
  · exact ⟨_, XG_Fr f2 k2 (p1 q), q1 q⟩
  · exact ⟨_, XG_Fr f2 k2 (p2 q).2, (q2 q).2⟩
theorem kc_carry (R : RI0 M) (C : CI M) {a1 a2 : Int} (h1 : -2147483648 ≤ a1 ∧ a1 ≤ 2147483647) (h2 : -2147483648 ≤ a2 ∧ a2 ≤ 2147483647) (e1 : xF 1000 11 [.inr 2, .inl a1, .inl a2] M = rI v M1) (f1 : Fr w1 M M1) (k1 : okW cm cmo w1 = true) (e2 : xF 1000 216 [.inr 62, .inl a1, .inl a2] M1 = rI y M2) (f2 : Fr w2 M1 M2) (k2 : okW cx cxo w2 = true) : v = y ∧ CI M2 := by
  obtain ⟨G, X, Y⟩ := C
  obtain ⟨W, hn, -⟩ := ci_facts R X Y
  obtain ⟨p0, p1, p2⟩ := xg_carry (d := 1000) (by decide) W X hn h1 h2 e1
  obtain ⟨q0, q1, q2⟩ := mg_carry (d := 1000) (by decide) W (MG_Fr f1 k1 Y) hn h1 h2 e2
  by_cases q : 0 ≤ attF G (G 6) (G 8 1) a1 a2
  · exact ⟨by rw [p0, q0], _, XG_Fr f2 k2 (p1 q), q1 q⟩
  · exact ⟨by rw [p0, q0], _, XG_Fr f2 k2 (p2 (by omega)), q2 (by omega)⟩
theorem kc_evening (R : RI0 M) (C : CI M) (e1 : xF 1000 12 [.inr 2] M = rI v M1) (f1 : Fr w1 M M1) (k1 : okW cm cmo w1 = true) (e2 : xF 1000 218 [.inr 62] M1 = rI y M2) (f2 : Fr w2 M1 M2) (k2 : okW cx cxo w2 = true) : v = y ∧ CI M2 := by
  obtain ⟨G, X, Y⟩ := C
  obtain ⟨W, -⟩ := ci_facts R X Y
  obtain ⟨p1, p2⟩ := xg_evening (d := 1000) (by decide) W X e1
  obtain ⟨q1, q2⟩ := mg_evening (d := 1000) (by decide) W (MG_Fr f1 k1 Y) e2
  by_cases q : lwf G (G 6)
  · exact ⟨by rw [(p1 q).1, (q1 q).1], _, XG_Fr f2 k2 (p1 q).2, (q1 q).2⟩
  · exact ⟨by rw [(p2 q).1, (q2 q).1], _, XG_Fr f2 k2 (p2 q).2, (q2 q).2⟩
theorem kc_undo (R : RI0 M) (C : CI M) (e1 : xF 1000 14 [.inr 2] M = rI v M1) (f1 : Fr w1 M M1) (k1 : okW cm cmo w1 = true) (e2 : xF 1000 220 [.inr 62] M1 = rI y M2) (f2 : Fr w2 M1 M2) (k2 : okW cx cxo w2 = true) : v = y ∧ CI M2 := by
  obtain ⟨G, X, Y⟩ := C
  obtain ⟨W, hn, hu, -⟩ := ci_facts R X Y
  obtain ⟨p1, p2⟩ := xg_undo (d := 1000) (by decide) W X hn hu e1
  obtain ⟨q1, q2⟩ := mg_undo (d := 1000) (by decide) (MG_Fr f1 k1 Y) hn hu e2
  by_cases q : G 9 0 = 0
  · exact ⟨by rw [(p2 q).1, (q2 q).1], _, XG_Fr f2 k2 (p2 q).2, (q2 q).2⟩
  · exact ⟨by rw [(p1 q).1, (q1 q).1], _, XG_Fr f2 k2 (p1 q).2, (q1 q).2⟩
theorem kc_judge (R : RI0 M) (C : CI M) {a1 a2 : Int} (h1 : -2147483648 ≤ a1 ∧ a1 ≤ 2147483647) (e1 : xF 1000 15 [.inr 2, .inl a1, .inl a2] M = rI v M1) (f1 : Fr w1 M M1) (k1 : okW cm cmo w1 = true) (k3 : okW cx cxo w1 = true) (e2 : xF 1000 221 [.inr 62, .inl a1, .inl a2] M1 = rI y M2) (f2 : Fr w2 M1 M2) (k2 : okW cx cxo w2 = true) : v = y ∧ CI M2 := by
  obtain ⟨G, X, Y⟩ := C
  obtain ⟨W, -⟩ := ci_facts R X Y
  have p1 := xg_judge (d := 1000) (by decide) W X h1 e1
  obtain ⟨q1, q2⟩ := mg_judge (d := 1000) (by decide) W (MG_Fr f1 k1 Y) h1 e2
  exact ⟨by rw [p1, q1], _, XG_Fr f2 k2 (XG_Fr f1 k3 X), q2⟩
theorem kc_hinge (R : RI0 M) (C : CI M) {a1 : Int} (h1 : -2147483648 ≤ a1 ∧ a1 ≤ 2147483647) (e1 : xF 1000 37 [.inr 2, .inl a1] M = rI v M1) (f1 : Fr w1 M M1) (k1 : okW cm cmo w1 = true) (e2 : xF 1000 254 [.inr 62, .inl a1] M1 = rI y M2) (f2 : Fr w2 M1 M2) (k2 : okW cx cxo w2 = true) : v = y ∧ CI M2 := by
  obtain ⟨G, X, Y⟩ := C
  obtain ⟨W, -⟩ := ci_facts R X Y
  obtain ⟨p1, p2⟩ := xg_hinge (d := 1000) (by decide) W X h1 e1
  obtain ⟨q1, q2⟩ := mg_hinge (d := 1000) (by decide) W (MG_Fr f1 k1 Y) h1 e2
  exact ⟨by rw [p1, q1], _, XG_Fr f2 k2 p2, q2⟩
theorem kc_keep (R : RI0 M) (C : CI M) {a1 : Int} (h1 : -2147483648 ≤ a1 ∧ a1 ≤ 2147483647) (e1 : xF 1000 43 [.inr 2, .inl a1] M = rI v M1) (f1 : Fr w1 M M1) (k1 : okW cm cmo w1 = true) (e2 : xF 1000 266 [.inr 62, .inl a1] M1 = rI y M2) (f2 : Fr w2 M1 M2) (k2 : okW cx cxo w2 = true) : CI M2 := by
  obtain ⟨G, X, Y⟩ := C
  obtain ⟨W, -⟩ := ci_facts R X Y
  obtain ⟨p1, p2⟩ := xg_keep (d := 1000) (by decide) W X h1.1 h1.2 e1
  obtain ⟨q1, q2⟩ := mg_keep (d := 1000) (by decide) W (MG_Fr f1 k1 Y) h1.1 h1.2 e2
  by_cases q : 0 ≤ a1 ∧ a1 ≤ 1
  · exact ⟨_, XG_Fr f2 k2 (p1 q), q1 q⟩
  · exact ⟨_, XG_Fr f2 k2 (p2 q), q2 q⟩
theorem kc_again (R : RI0 M) (C : CI M) (R1 : RI0 M1) {a1 : Int} (h1 : -2147483648 ≤ a1 ∧ a1 ≤ 2147483647) (e1 : xF 1000 44 [.inr 2, .inl a1] M = rI v M1) (f1 : Fr w1 M M1) (k1 : okW cm cmo w1 = true) (e2 : xF 1000 267 [.inr 62, .inl a1] M1 = rI y M2) (f2 : Fr w2 M1 M2) (k2 : okW cx cxo w2 = true) : v = y ∧ CI M2 := by
  obtain ⟨G, X, Y⟩ := C
  obtain ⟨W, -, -, hk⟩ := ci_facts R X Y
  obtain ⟨p1, p2⟩ := xg_again (d := 1000) (by decide) W R.1 X h1.1 h1.2 e1
  obtain ⟨q1, q2⟩ := mg_again (d := 1000) (by decide) W R1 (MG_Fr f1 k1 Y) hk h1.1 h1.2 e2
  by_cases q : agC G a1
  · exact ⟨by rw [(p1 q).1, (q1 q).1], _, XG_Fr f2 k2 (p1 q).2, (q1 q).2⟩
  · exact ⟨by rw [(p2 q).1, (q2 q).1], _, XG_Fr f2 k2 (p2 q).2, (q2 q).2⟩
/-- the texts are the same -/
def TI (M : pM) : Prop := M 1 1 = M 60 14 ∧ ∀ i, i < 80 → M 2 i = ux (M 68 i)
theorem kc_house (R : RI0 M) (C : CI M) (T : TI M) (R1 : RI0 M1) (e1 : xF 1000 2 [.inr 2] M = rI v M1) (f1 : Fr w1 M M1) (k1 : okW cm cmo w1 = true) (k3 : w1.all (fun q => decide (q.1 ≠ 0 ∧ (q.1 < 40 ∨ 47 < q.1))) = true) (k5 : wOK w1 60 14 = false) (k6 : ∀ i, wOK w1 68 i = false) (e2 : xF 1000 184 [.inr 62] M1 = rI y M2) (f2 : Fr w2 M1 M2) (k2 : okW cx cxo w2 = true) : v = y ∧ CI M2 ∧ M1 60 0 ≤ M2 60 0 := by
  obtain ⟨G, X, Y⟩ := C
  obtain ⟨W, -⟩ := ci_facts R X Y
  have b0 := gm_i R.1 1 1 (lo := 0) (hi := 80) (by decide +kernel) (by decide +kernel)
  obtain ⟨L, hL⟩ := natI b0.1
  have htx : ∀ i, i < 80 → -128 ≤ M 68 i ∧ M 68 i ≤ 127 := fun i hi => gm_r R.1 (o := 68) (lo := -128) (hi := 127) (by decide +kernel) (by decide +kernel) (show i < 80 from hi)
  obtain ⟨p0, p1, p2⟩ := xg_house (tx := fun i => M 68 i) (L := L) (d := 1000) (by decide) W R.1 X hL T.2 htx e1 (fun o i hc n1 n2 => f1 o i (by
    cases z : wOK w1 o i with
    | false => rfl
    | true =>
      obtain ⟨r, hr, h2⟩ := List.any_eq_true.mp z
      rw [Bool.and_eq_true] at h2
      have e := Nat.eq_of_beq_eq_true h2.1
      have k := of_decide_eq_true (List.all_eq_true.mp k3 r hr)
      rw [e] at k
      exfalso
      unfold cx at hc
      simp only [Bool.or_eq_true, Bool.and_eq_true, Nat.beq_eq, Nat.ble_eq] at hc
      omega))
  obtain ⟨q0, q1, q2, q3⟩ := mg_house (tx := fun i => M 68 i) (L := L) (d := 1000) (by decide) W R1.1 (MG_Fr f1 k1 Y) (by rw [f1 60 14 k5, ← T.1]; exact hL) (fun i _ => f1 68 i (k6 i)) e2
  by_cases q : hsN (fun i => M 68 i) L G
  · exact ⟨by rw [p0, q0], ⟨_, XG_Fr f2 k2 (p1 q), q1 q⟩, q3⟩
  · exact ⟨by rw [p0, q0], ⟨_, XG_Fr f2 k2 (p2 q), q2 q⟩, q3⟩
theorem kc_day (R : RI0 M) (C : CI M) (T : TI M) (e1 : xF 1000 13 [.inr 2] M = rI v M1) (f1 : Fr w1 M M1) (k1 : okW cm cmo w1 = true) (k5 : wOK w1 60 14 = false) (k6 : ∀ i, wOK w1 68 i = false) (e2 : xF 1000 219 [.inr 62] M1 = rI y M2) (f2 : Fr w2 M1 M2) (k2 : okW cx cxo w2 = true) : v = y ∧ CI M2 := by
  obtain ⟨G, X, Y⟩ := C
  obtain ⟨W, hn, -⟩ := ci_facts R X Y
  have b0 := gm_i R.1 1 1 (lo := 0) (hi := 80) (by decide +kernel) (by decide +kernel)
  obtain ⟨L, hL⟩ := natI b0.1
  have htx : ∀ i, i < 80 → -128 ≤ M 68 i ∧ M 68 i ≤ 127 := fun i hi => gm_r R.1 (o := 68) (lo := -128) (hi := 127) (by decide +kernel) (by decide +kernel) (show i < 80 from hi)
  obtain ⟨p1, p2⟩ := xg_day (tx := fun i => M 68 i) (L := L) (d := 1000) (by decide) W X hn (by omega) hL T.2 htx e1
  obtain ⟨q1, q2⟩ := mg_day (tx := fun i => M 68 i) (L := L) (d := 1000) (by decide) W (MG_Fr f1 k1 Y) hn (by omega) (by rw [f1 60 14 k5, ← T.1]; exact hL) (fun i _ => f1 68 i (k6 i)) htx e2
  by_cases q : dyF (fun i => M 68 i) L = -1
  · obtain ⟨r0, r1, r2⟩ := p2 q
    obtain ⟨s0, s1, s2⟩ := q2 q
    by_cases z : (dyRun (fun i => M 68 i) ((L + 1) / 4) 0 G).1 = (L + 1) / 4 ∧ lwf (dyRun (fun i => M 68 i) ((L + 1) / 4) 0 G).2 ((dyRun (fun i => M 68 i) ((L + 1) / 4) 0 G).2 6)
    · exact ⟨by rw [r0, s0], _, XG_Fr f2 k2 (r1 z), s1 z⟩
    · exact ⟨by rw [r0, s0], _, XG_Fr f2 k2 (r2 z), s2 z⟩
  · exact ⟨by rw [(p1 q).1, (q1 q).1], _, XG_Fr f2 k2 (p1 q).2, (q1 q).2⟩
/-! strength -/
def gStr (G : pM) (v : Int) : pM := fun o i => if o = 8 ∧ i = 2 then v else G o i
theorem kc_strength (C : CI M) (f1 : Fr [(0, 17)] M M1) (f2 : Fr [(60, 12), (60, 17)] M1 M2) (e : M1 0 17 = M2 60 12) : CI M2 := by
  obtain ⟨G, X, Y⟩ := C
  have e17 : M2 0 17 = M2 60 12 := by rw [f2 0 17 (by decide)]; exact e
  have eM : ∀ o i, ¬ (o = 0 ∧ i = 17) → ¬ (o = 60 ∧ (i = 12 ∨ i = 17)) → M2 o i = M o i := fun o i a b => by
    rw [f2 o i, f1 o i]
    · cases z : wOK [(0, 17)] o i with
      | false => rfl
      | true =>
        obtain ⟨r, hr, h2⟩ := List.any_eq_true.mp z
        rw [Bool.and_eq_true, Bool.or_eq_true] at h2
        rw [List.mem_singleton.mp hr] at h2
        rcases h2.2 with y | y
        · exact absurd ⟨(Nat.eq_of_beq_eq_true h2.1).symm, (Nat.eq_of_beq_eq_true y).symm⟩ a
        · exact absurd y (by decide)
    · cases z : wOK [(60, 12), (60, 17)] o i with
      | false => rfl
      | true =>
        obtain ⟨r, hr, h2⟩ := List.any_eq_true.mp z
        rw [Bool.and_eq_true, Bool.or_eq_true] at h2
        simp only [List.mem_cons, List.not_mem_nil, or_false] at hr
        rcases hr with rfl | rfl
        · rcases h2.2 with y | y
          · exact absurd ⟨(Nat.eq_of_beq_eq_true h2.1).symm, Or.inl (Nat.eq_of_beq_eq_true y).symm⟩ b
          · exact absurd y (by decide)
        · rcases h2.2 with y | y
          · exact absurd ⟨(Nat.eq_of_beq_eq_true h2.1).symm, Or.inr (Nat.eq_of_beq_eq_true y).symm⟩ b
          · exact absurd y (by decide)
  have g : ∀ o i, o ≠ 8 → gStr G (M2 60 12) o i = G o i := fun o i h => if_neg (fun z => h z.1)
  refine ⟨gStr G (M2 60 12), ?_, ?_⟩
  · obtain ⟨H, ⟨d1, d2, d3⟩, ⟨p1, p2⟩, k⟩ := X
    refine ⟨XH_cg (fun o i ho => g o i (by omega)) (XH_eq H (fun o i a b c => eM o i (by omega) (by omega))), ⟨?_, ?_, ?_⟩, ⟨?_, fun j hj => ?_⟩, fun i hi => ?_⟩
    · rw [eM 0 15 (by omega) (by omega)]; exact d1
    · rw [eM 0 16 (by omega) (by omega)]; exact d2
    · rw [e17]; exact (if_pos ⟨rfl, rfl⟩).symm
    · rw [eM 39 3 (by omega) (by omega)]; exact p1
    · rw [eM 40 j (by omega) (by omega), eM 41 j (by omega) (by omega), eM 42 j (by omega) (by omega)]; exact p2 j hj
    · have a : ∀ j, M2 (44 + 2 * i) j = M (44 + 2 * i) j := fun j => eM _ j (by omega) (by omega)
      have b : ∀ j, M2 (45 + 2 * i) j = M (45 + 2 * i) j := fun j => eM _ j (by omega) (by omega)
      have g16 : ∀ j, gStr G (M2 60 12) (16 + i) j = G (16 + i) j := fun j => g _ j (by omega)
      simp only [a, b, g16, g 13 i (by decide), g 14 i (by decide), g 15 i (by decide), g 18 i (by decide), g 19 i (by decide)]
      exact k i hi
  · obtain ⟨H, ⟨d1, d2, d3⟩, ⟨p1, p2⟩, k⟩ := Y
    refine ⟨MH_cg (fun o i ho => g o i (by omega)) ?_, ⟨?_, ?_, (if_pos ⟨rfl, rfl⟩).symm⟩, ⟨?_, fun j hj => ?_⟩, fun i hi => ?_⟩
    · obtain ⟨x1, x2, x3, x4, x5, x6, x7⟩ := H
      exact ⟨by rw [eM 60 0 (by omega) (by omega)]; exact x1, by rw [eM 60 3 (by omega) (by omega)]; exact x2, by rw [eM 60 8 (by omega) (by omega)]; exact x3, fun r hr => by rw [eM 61 r (by omega) (by omega)]; exact x4 r hr, fun p hp => by rw [eM 62 p (by omega) (by omega)]; exact x5 p hp, fun t ht => by rw [eM 63 t (by omega) (by omega), eM 64 t (by omega) (by omega), eM 65 t (by omega) (by omega), eM 66 t (by omega) (by omega)]; exact x6 t ht, fun s hs => by rw [eM 67 s (by omega) (by omega)]; exact x7 s hs⟩
    · rw [eM 60 10 (by omega) (by omega)]; exact d1
    · rw [eM 60 11 (by omega) (by omega)]; exact d2
    · rw [eM 60 33 (by omega) (by omega)]; exact p1
    · rw [eM 75 _ (by omega) (by omega), eM 75 _ (by omega) (by omega), eM 75 _ (by omega) (by omega)]; exact p2 j hj
    · have a : ∀ j, M2 87 j = M 87 j := fun j => eM 87 j (by omega) (by omega)
      have b : ∀ j, M2 88 j = M 88 j := fun j => eM 88 j (by omega) (by omega)
      have c : ∀ j, M2 89 j = M 89 j := fun j => eM 89 j (by omega) (by omega)
      have g16 : ∀ j, gStr G (M2 60 12) (16 + i) j = G (16 + i) j := fun j => g _ j (by omega)
      simp only [a, b, c, eM 60 52 (by omega) (by omega), g16, g 13 i (by decide), g 14 i (by decide), g 15 i (by decide), g 18 i (by decide), g 19 i (by decide)]
      exact k i hi
end CIS
/-! what the small questions are answered: room, set, door -/
section ASK
variable {D d : Nat} {M M' G : pM}
end ASK
/-! the texts and the aim stay the same on both sides -/
def cw (o i : Nat) : Bool := (Nat.beq o 1 && Nat.beq i 1) || Nat.beq o 2 || (Nat.beq o 60 && Nat.beq i 14) || Nat.beq o 68
def cwo (o : Nat) : Bool := Nat.beq o 1 || Nat.beq o 2 || Nat.beq o 60 || Nat.beq o 68
theorem cw_o (o i : Nat) (h : cw o i = true) : cwo o = true := by
  unfold cw at h
  unfold cwo
  simp only [Bool.or_eq_true, Bool.and_eq_true] at h ⊢
  rcases h with ((h | h) | h) | h
  · exact Or.inl (Or.inl (Or.inl h.1))
  · exact Or.inl (Or.inl (Or.inr h))
  · exact Or.inl (Or.inr h.1)
  · exact Or.inr h
def cl (o i : Nat) : Bool := Nat.beq o 2 || Nat.beq o 68
theorem cl_o (o i : Nat) (h : cl o i = true) : (Nat.beq o 2 || Nat.beq o 68) = true := h
/-- the aim is the same, and it is one of rooms that are there -/
def GA (M : pM) : Prop := (M 0 14 = 0 ∧ M 60 44 = 0) ∨ (0 < M 0 14 ∧ M 60 44 = 1 ∧ M 60 43 = M 0 14 ∧ ∀ t : Nat, (t : Int) < M 0 14 → M 58 t = M 81 t ∧ 0 ≤ M 58 t ∧ M 58 t < M 60 0)
def cg (o i : Nat) : Bool := (Nat.beq o 0 && Nat.beq i 14) || Nat.beq o 58 || (Nat.beq o 60 && (Nat.beq i 43 || Nat.beq i 44)) || Nat.beq o 81
def cgo (o : Nat) : Bool := Nat.beq o 0 || Nat.beq o 58 || Nat.beq o 60 || Nat.beq o 81
theorem cg_o (o i : Nat) (h : cg o i = true) : cgo o = true := by
  unfold cg at h
  unfold cgo
  simp only [Bool.or_eq_true, Bool.and_eq_true] at h ⊢
  rcases h with ((h | h) | h) | h
  · exact Or.inl (Or.inl (Or.inl h.1))
  · exact Or.inl (Or.inl (Or.inr h))
  · exact Or.inl (Or.inr h.1)
  · exact Or.inr h
section TXS
variable {M M1 M2 : pM} {w w1 w2 : List (Nat × Nat)} {v y : Int}
theorem TI_Fr (f : Fr w M M1) (h : okW cw cwo w = true) (T : TI M) : TI M1 := by
  have e : ∀ o i, cw o i = true → M1 o i = M o i := fun o i q => f o i (okW_no cw_o h q)
  exact ⟨by rw [e 1 1 rfl, e 60 14 rfl]; exact T.1, fun i hi => by rw [e 2 i rfl, e 68 i rfl]; exact T.2 i hi⟩
theorem TI_0 (T : TI M) (f1 : Fr w1 M M1) (h1 : okW cl (fun o => Nat.beq o 2 || Nat.beq o 68) w1 = true) (k1 : M1 1 1 = 0) (f2 : Fr w2 M1 M2) (h2 : okW cl (fun o => Nat.beq o 2 || Nat.beq o 68) w2 = true) (h3 : wOK w2 1 1 = false) (k2 : M2 60 14 = 0) : TI M2 := by
  have e1 : ∀ o i, cl o i = true → M1 o i = M o i := fun o i q => f1 o i (okW_no cl_o h1 q)
  have e2 : ∀ o i, cl o i = true → M2 o i = M1 o i := fun o i q => f2 o i (okW_no cl_o h2 q)
  exact ⟨by rw [f2 1 1 h3, k1, k2], fun i hi => by rw [e2 2 i rfl, e1 2 i rfl, e2 68 i rfl, e1 68 i rfl]; exact T.2 i hi⟩
theorem GA_Fr (f : Fr w M M1) (h : okW cg cgo w = true) (h0 : M 60 0 ≤ M1 60 0) (A : GA M) : GA M1 := by
  have e : ∀ o i, cg o i = true → M1 o i = M o i := fun o i q => f o i (okW_no cg_o h q)
  unfold GA at A ⊢
  rw [e 0 14 rfl, e 60 43 rfl, e 60 44 rfl]
  rcases A with A | ⟨a1, a2, a3, a4⟩
  · exact Or.inl A
  · refine Or.inr ⟨a1, a2, a3, fun t ht => ?_⟩
    obtain ⟨b1, b2, b3⟩ := a4 t ht
    rw [e 58 t rfl, e 81 t rfl]
    exact ⟨b1, b2, by omega⟩
theorem ge_of (f : Fr w M M1) (h : wOK w 60 0 = false) : M 60 0 ≤ M1 60 0 := by rw [f 60 0 h]; exact Int.le_refl _
theorem kc_sign (R : RI0 M) (T : TI M) {a1 : Int} (e1 : xF 1000 0 [.inr 2, .inl a1] M = rI v M1) (f1 : Fr w1 M M1) (k5 : wOK w1 60 14 = false) (k6 : ∀ i, wOK w1 68 i = false) (e2 : xF 1000 175 [.inr 62, .inl a1] M1 = rI y M2) (f2 : Fr w2 M1 M2) (k1 : wOK w2 1 1 = false) (k2 : ∀ i, wOK w2 2 i = false) : v = y ∧ TI M2 := by
  have b0 := gm_i R.1 1 1 (lo := 0) (hi := 80) (by decide +kernel) (by decide +kernel)
  obtain ⟨L, hL⟩ := natI b0.1
  have t1 := c_sign (d := 1000) (by decide) hL (by omega) (b := a1)
  have hL2 : M1 60 14 = (L : Int) := by rw [f1 60 14 k5, ← T.1]; exact hL
  have t2 := m_sign (d := 1000) (by decide) hL2 (by omega) (b := a1)
  rw [e1] at t1
  rw [e2] at t2
  by_cases q : L + 4 ≤ 80
  · rw [if_pos q] at t1 t2
    refine ⟨by rw [(rI_inj t1).1, (rI_inj t2).1], ?_, fun i hi => ?_⟩
    · rw [f2 1 1 k1, (rI_inj t1).2, (rI_inj t2).2, tapp_len (by decide), tapp_len (by decide)]
    · have m2 : M2 2 i = M1 2 i := f2 2 i (k2 i)
      have m68 : M1 68 i = M 68 i := f1 68 i (k6 i)
      rw [m2, (rI_inj t1).2, (rI_inj t2).2]
      unfold tapp
      by_cases z : L ≤ i ∧ i < L + 4
      · rw [if_pos ⟨rfl, z⟩, if_pos ⟨rfl, z⟩]; exact sg_ux a1 (i - L) (by omega)
      · rw [if_neg (fun y => z y.2), if_neg (fun y => absurd y.1 (by decide)), if_neg (fun y => z y.2), if_neg (fun y => absurd y.1 (by decide)), pset_ne (show 68 ≠ 60 by decide), m68]
        exact T.2 i hi
  · rw [if_neg q] at t1 t2
    refine ⟨by rw [(rI_inj t1).1, (rI_inj t2).1], ?_, fun i hi => ?_⟩
    · rw [f2 1 1 k1, (rI_inj t2).2, pset_ne2 (show 14 ≠ 17 by decide), hL2, (rI_inj t1).2, hL]
    · have m2 : M2 2 i = M1 2 i := f2 2 i (k2 i)
      have m68 : M1 68 i = M 68 i := f1 68 i (k6 i)
      rw [m2, (rI_inj t2).2, pset_ne (show 68 ≠ 60 by decide), m68, (rI_inj t1).2]
      exact T.2 i hi
theorem kc_end (R : RI0 M) (T : TI M) {a1 : Int} (h1 : -2147483648 ≤ a1 ∧ a1 ≤ 2147483647) (e1 : xF 1000 1 [.inr 2, .inl a1] M = rI v M1) (f1 : Fr w1 M M1) (k5 : wOK w1 60 14 = false) (e2 : xF 1000 176 [.inr 62, .inl a1] M1 = rI y M2) (f2 : Fr w2 M1 M2) (k1 : wOK w2 1 1 = false) (l1 : okW cl (fun o => Nat.beq o 2 || Nat.beq o 68) w1 = true) (l2 : okW cl (fun o => Nat.beq o 2 || Nat.beq o 68) w2 = true) : v = y ∧ TI M2 := by
  have b0 := gm_i R.1 1 1 (lo := 0) (hi := 80) (by decide +kernel) (by decide +kernel)
  have k60 : M1 60 14 = M 1 1 := by rw [f1 60 14 k5]; exact T.1.symm
  have g1 : ∀ o i, cl o i = true → M1 o i = M o i := fun o i q => f1 o i (okW_no cl_o l1 q)
  have g2 : ∀ o i, cl o i = true → M2 o i = M1 o i := fun o i q => f2 o i (okW_no cl_o l2 q)
  have lt : ∀ i, i < 80 → M2 2 i = ux (M2 68 i) := fun i hi => by rw [g2 2 i rfl, g1 2 i rfl, g2 68 i rfl, g1 68 i rfl]; exact T.2 i hi
  have t1 : xF (999 + 1) 1 [.inr 2, .inl a1] M = rI v M1 := e1
  have t2 : xF (999 + 1) 176 [.inr 62, .inl a1] M1 = rI y M2 := e2
  rw [T_X_end, x_cut (by decide) h1.1 (by omega) R.1] at t1
  rw [T_M_end, m_in (by decide), pbI_rI, pset_ne2 (show 14 ≠ 17 by decide), k60] at t2
  by_cases q : 0 ≤ a1 ∧ a1 ≤ M 1 1
  · rw [if_pos q, pbI_rI, if_pos (Or.inr rfl)] at t1
    have hz : ¬ (lt32 a1 0 ∨ lt32 (M 1 1) a1) := by
      rw [lt32_iff (by omega) (by omega) (by omega) (by omega), lt32_iff (by omega) (by omega) (by omega) (by omega)]
      omega
    rw [if_neg hz, if_pos (by decide)] at t2
    exact ⟨by rw [← (rI_inj t1).1, ← (rI_inj t2).1], by rw [f2 1 1 k1, ← (rI_inj t1).2, ← (rI_inj t2).2, pset_eq, pset_eq], lt⟩
  · rw [if_neg q, pbI_rI, if_pos (Or.inl rfl)] at t1
    have hz : lt32 a1 0 ∨ lt32 (M 1 1) a1 := by
      rw [lt32_iff (by omega) (by omega) (by omega) (by omega), lt32_iff (by omega) (by omega) (by omega) (by omega)]
      omega
    rw [if_pos hz, if_neg (fun z => z rfl)] at t2
    exact ⟨by rw [← (rI_inj t1).1, ← (rI_inj t2).1], by rw [f2 1 1 k1, ← (rI_inj t2).2, pset_ne2 (show 14 ≠ 17 by decide), k60, ← (rI_inj t1).2], lt⟩
theorem amA_pos {tx : Nat → Int} {L T R : Nat} (hR : R ≤ 6) (h : 0 < amA tx L T R) : L ≠ 0 ∧ amA tx L T R = (L : Int) ∧ ∀ i, i < L → 48 ≤ tx i ∧ tx i ≤ (R : Int) + 47 := by
  by_cases q : L = 0
  · have u : amA tx L T R = 0 := if_pos q
    rw [u] at h; omega
  · have u : amA tx L T R = match amS tx (min L T) R T with
      | .inl p => -1 - (p : Int)
      | .inr _ => if L ≤ T then (L : Int) else -1 - (T : Int) := if_neg q
    cases z : amS tx (min L T) R T with
    | inl p =>
      rw [z] at u
      have u : amA tx L T R = -1 - (p : Int) := u
      omega
    | inr a =>
      rw [z] at u
      have u : amA tx L T R = if L ≤ T then (L : Int) else -1 - (T : Int) := u
      by_cases q2 : L ≤ T
      · rw [if_pos q2] at u
        refine ⟨q, u, fun i hi => ?_⟩
        have := (amS_inr hR T a z).2 i (by omega)
        unfold hc at this
        rw [if_pos (by omega)] at this; exact this
      · rw [if_neg q2] at u; omega
theorem kc_aim (R : RI0 M) (C : CI M) (T : TI M) (A : GA M) (e1 : xF 1000 38 [.inr 2] M = rI v M1) (f1 : Fr [(0, 14), (1, 1), (3, 1), (3, 2), (3, 3), (58, 999)] M M1) (e2 : xF 1000 255 [.inr 62] M1 = rI y M2) (f2 : Fr [(60, 14), (60, 17), (60, 43), (60, 44), (81, 999)] M1 M2) : v = y ∧ GA M2 ∧ M1 1 1 = 0 ∧ M2 60 14 = 0 := by
  obtain ⟨G, X, Y⟩ := C
  obtain ⟨W, -⟩ := ci_facts R X Y
  have b0 := gm_i R.1 1 1 (lo := 0) (hi := 80) (by decide +kernel) (by decide +kernel)
  obtain ⟨L, hL⟩ := natI b0.1
  have htx : ∀ i, i < 80 → -128 ≤ M 68 i ∧ M 68 i ≤ 127 := fun i hi => gm_r R.1 (o := 68) (lo := -128) (hi := 127) (by decide +kernel) (by decide +kernel) (show i < 80 from hi)
  obtain ⟨N1, t1, k1, a1, -⟩ := x_aim (tx := fun i => M 68 i) (R := hR G) (T := hT G) (L := L) (M := M) (d := 1000) (by decide) W.1 W.2.1 (by omega) X.1.1 X.1.2.1 hL T.2 htx
  obtain ⟨rfl, rfl⟩ := rI_inj (e1.symm.trans t1)
  have Y0 : M1 60 0 = (hR G : Int) := by rw [f1 60 0 (by decide)]; exact Y.1.1
  obtain ⟨N2, t2, k2, a2, -⟩ := m_aim (tx := fun i => M 68 i) (R := hR G) (T := hT G) (L := L) (M := M1) (d := 1000) (by decide) W.1 W.2.1 (by omega) Y0 (by rw [f1 60 3 (by decide)]; exact Y.1.2.1) (by rw [f1 60 14 (by decide), ← T.1]; exact hL) (fun i _ => f1 68 i (wOK_no (by decide) i)) htx
  obtain ⟨rfl, rfl⟩ := rI_inj (e2.symm.trans t2)
  refine ⟨rfl, ?_, k1, k2⟩
  have c14 : M2 0 14 = M1 0 14 := f2 0 14 (by decide)
  have c58 : ∀ t, M2 58 t = M1 58 t := fun t => f2 58 t (wOK_no (by decide) t)
  have c0 : M2 60 0 = (hR G : Int) := by rw [f2 60 0 (by decide)]; exact Y0
  have d0 : M 60 0 = (hR G : Int) := Y.1.1
  unfold amX at a1
  unfold amM at a2
  by_cases q : 0 < amA (fun i => M 68 i) L (hT G) (hR G)
  · rw [if_pos q] at a1 a2
    obtain ⟨l1, l2, l3⟩ := amA_pos W.1 q
    refine Or.inr ⟨by rw [c14, a1.1]; omega, a2.2.1, by rw [a2.1, c14, a1.1], fun t ht => ?_⟩
    rw [c14, a1.1] at ht
    have l4 := l3 t (by omega)
    have l4 : 48 ≤ M 68 t ∧ M 68 t ≤ (hR G : Int) + 47 := l4
    rw [c58, a1.2 t (by omega), a2.2.2 t (by omega), c0]
    show M 68 t - 48 = M 68 t - 48 ∧ 0 ≤ M 68 t - 48 ∧ M 68 t - 48 < (hR G : Int)
    exact ⟨rfl, by omega, by omega⟩
  · rw [if_neg q] at a1 a2
    by_cases q2 : L = 0
    · rw [if_pos q2] at a1 a2
      exact Or.inl ⟨by rw [c14]; exact a1, a2⟩
    · rw [if_neg q2] at a1 a2
      have m44 : M1 60 44 = M 60 44 := f1 60 44 (by decide)
      have m43 : M1 60 43 = M 60 43 := f1 60 43 (by decide)
      have m81 : ∀ t, M1 81 t = M 81 t := fun t => f1 81 t (wOK_no (by decide) t)
      unfold GA at A ⊢
      rw [c14, a1.1, a2.1, a2.2.1, m44, m43]
      rcases A with A | ⟨b1, b2, b3, b4⟩
      · exact Or.inl A
      · refine Or.inr ⟨b1, b2, b3, fun t ht => ?_⟩
        have := b4 t ht
        rw [c58, a1.2 t, a2.2.2 t, m81, c0]
        exact ⟨this.1, this.2.1, by omega⟩
end TXS
/-! way, widest, stuck: what they answer, on both sides -/
section WYS
variable {D d : Nat} {M M' G : pM} {w : Int}
end WYS
/-! what it costs to come to another arrangement, on both sides: swap, apart -/
section CTO
variable {D d : Nat} {M M' N G h : pM} {p q : Nat → Int}
end CTO
/-! swap: what it answers, on both sides -/
section SWP
variable {D d : Nat} {M M' N G h : pM} {p q : Nat → Int}
end SWP
/-! apart: what it answers, on both sides -/
section APT
variable {D d : Nat} {M M' N G h : pM} {p q : Nat → Int}
end APT
end
section
/-! the class's sets and clumps -/
theorem me_lt {h : pM} (W : WF h) {s : Nat} (hs : s < hS h) : me h s < 1024 := Nat.lt_of_lt_of_le (W.2.2.2.2.2.2.2.2 s hs) (pow_le_of W.2.1)
theorem pow10 {t : Nat} (ht : t < 10) : 2 ^ t < 1024 := show 2 ^ t < 2 ^ 10 from Nat.pow_lt_pow_right (by decide) ht
theorem jand_lt {a b : Nat} (ha : a < 1024) : (a &&& b) < 1024 := Nat.lt_of_le_of_lt Nat.and_le_left ha
theorem eq32_0 {a : Nat} (ha : a < 2147483648) : eq32 (a : Int) 0 ↔ a = 0 := by
  rw [eq32_iff] <;> omega
section ST
variable {h M : pM} {d : Nat}
/-- what hangs on something: one look at the sets, some looks -/
def hngI (h : pM) (amo sets seen : Nat) : Nat → Nat
  | 0 => seen
  | k + 1 => if sets.testBit k = true ∧ me h k &&& hngI h amo sets seen k ≠ 0 then hngI h amo sets seen k ||| (me h k &&& amo) else hngI h amo sets seen k
def hng (h : pM) (amo sets seen : Nat) : Nat → Nat
  | 0 => seen
  | n + 1 => hngI h amo sets (hng h amo sets seen n) (hS h)
theorem hngI_lt (W : WF h) {amo sets seen : Nat} (hs : seen < 1024) : ∀ k, k ≤ hS h → hngI h amo sets seen k < 1024
  | 0, _ => hs
  | k + 1, hk => by
    have ih := hngI_lt W (amo := amo) (sets := sets) hs k (by omega)
    unfold hngI
    split
    · exact Nat.or_lt_two_pow (n := 10) ih (jand_lt (me_lt W (by omega)))
    · exact ih
theorem hng_lt (W : WF h) {amo sets seen : Nat} (hs : seen < 1024) : ∀ n, hng h amo sets seen n < 1024
  | 0 => hs
  | n + 1 => hngI_lt W (hng_lt W hs n) _ (Nat.le_refl _)
theorem c_hangingOn (hd : 2 ≤ d) (W : WF h) (X : XH M h) {t amo sets : Nat} (ht : t < 10) (ha : amo < 2147483648) (hsets : sets < 2147483648) : xF d 96 [.inr 9, .inl (t : Int), .inl (amo : Int), .inl (sets : Int)] M = rI (hng h amo sets (2 ^ t) (hS h)) M := by
  obtain ⟨D, rfl, hD⟩ := dsucc hd
  have w3 := W.2.2.1
  have ht2 := pow10 ht
  rw [T_House_hangingOn, jshl_one t (by omega)]
  have inner : ∀ (seen : Nat) (n : Nat), seen < 1024 → ∀ k : Nat, k ≤ hS h → xE D 96 12 [.inr 9, .inl (t : Int), .inl (amo : Int), .inl (sets : Int), .inl (seen : Int), .inl (n : Int), .inl 0] [] M = xE D 96 12 [.inr 9, .inl (t : Int), .inl (amo : Int), .inl (sets : Int), .inl (hngI h amo sets seen k : Nat), .inl (n : Int), .inl (k : Int)] [] M := by
    intro seen n hs k
    induction k with
    | zero => intro _; rfl
    | succ k ih =>
      intro hk
      have hm := me_lt W (s := k) (by omega)
      have hi := hngI_lt W (amo := amo) (sets := sets) hs k (by omega)
      rw [ih (by omega), L_House_hangingOn_12, X.2.2.1, if_neg (by rw [le32_iff] <;> omega), c_has hD hsets (by omega), pbI_rI, ite01, hngI]
      cases hb : sets.testBit k with
      | false => rw [if_neg (by simp), if_neg (by simp)]; rfl
      | true =>
        simp only [if_true]
        have hk8 : (0 : Int) ≤ (k : Int) ∧ (k : Int) < 8 := by omega
        rw [if_pos hk8, if_pos hk8, Int.toNat_natCast, X.2.2.2.2.2.2 k (by omega), jand_nat (by omega) (by omega), jand_nat (by omega) ha, jor_nat (by omega) (Nat.lt_trans (jand_lt hm) (by decide))]
        by_cases q : me h k &&& hngI h amo sets seen k = 0
        · rw [if_pos ((eq32_0 (Nat.lt_trans (jand_lt hm) (by decide))).mpr q), if_neg (by simp [q])]; rfl
        · rw [if_neg (fun z => q ((eq32_0 (Nat.lt_trans (jand_lt hm) (by decide))).mp z)), if_pos ⟨trivial, q⟩]; rfl
  have outer : ∀ n : Nat, n ≤ hS h → ∀ y : pV, ∃ y' : pV, xE D 96 6 [.inr 9, .inl (t : Int), .inl (amo : Int), .inl (sets : Int), .inl (2 ^ t : Nat), .inl 0, y] [] M = xE D 96 6 [.inr 9, .inl (t : Int), .inl (amo : Int), .inl (sets : Int), .inl (hng h amo sets (2 ^ t) n : Nat), .inl (n : Int), y'] [] M := by
    intro n
    induction n with
    | zero => intro _ y; exact ⟨y, rfl⟩
    | succ n ih =>
      intro hn y
      obtain ⟨y', e⟩ := ih (by omega) y
      refine ⟨.inl (hS h : Int), ?_⟩
      rw [e, L_House_hangingOn_6, X.2.2.1, if_neg (by rw [le32_iff] <;> omega), inner _ n (hng_lt W ht2 n) (hS h) (Nat.le_refl _), L_House_hangingOn_12, X.2.2.1, if_pos (by rw [le32_iff] <;> omega)]
      rfl
  obtain ⟨y', e⟩ := outer (hS h) (Nat.le_refl _) (.inr 0)
  rw [e, L_House_hangingOn_6, X.2.2.1, if_pos (by rw [le32_iff] <;> omega)]
/-- how many clumps some things make by some sets -/
def cbL (h : pM) (amo sets : Nat) : Nat → Nat × Nat
  | 0 => (0, amo)
  | k + 1 => if (cbL h amo sets k).2.testBit k then ((cbL h amo sets k).1 + 1, nan (cbL h amo sets k).2 (hng h amo sets (2 ^ k) (hS h))) else cbL h amo sets k
theorem cbL_le {amo sets : Nat} : ∀ k, (cbL h amo sets k).1 ≤ k ∧ (cbL h amo sets k).2 ≤ amo
  | 0 => ⟨Nat.le_refl 0, Nat.le_refl _⟩
  | k + 1 => by
    have ih := cbL_le (amo := amo) (sets := sets) k
    unfold cbL
    split
    · exact ⟨Nat.succ_le_succ ih.1, Nat.le_trans (nan_le _ _) ih.2⟩
    · exact ⟨Nat.le_succ_of_le ih.1, ih.2⟩
theorem c_clumpsBy (hd : 3 ≤ d) (W : WF h) (X : XH M h) {amo sets : Nat} (ha : amo < 2147483648) (hsets : sets < 2147483648) : xF d 97 [.inr 9, .inl (amo : Int), .inl (sets : Int)] M = rI ((cbL h amo sets (hT h)).1 : Nat) M := by
  obtain ⟨D, rfl, hD⟩ := dsucc hd
  have w2 := W.2.1
  rw [T_House_clumpsBy]
  have key : ∀ k : Nat, k ≤ hT h → xE D 97 6 [.inr 9, .inl (amo : Int), .inl (sets : Int), .inl 0, .inl (amo : Int), .inl 0] [] M = xE D 97 6 [.inr 9, .inl (amo : Int), .inl (sets : Int), .inl ((cbL h amo sets k).1 : Nat), .inl ((cbL h amo sets k).2 : Nat), .inl (k : Int)] [] M := by
    intro k
    induction k with
    | zero => intro _; rfl
    | succ k ih =>
      intro hk
      have hl := cbL_le (h := h) (amo := amo) (sets := sets) k
      have hh := hng_lt W (amo := amo) (sets := sets) (seen := 2 ^ k) (pow10 (by omega)) (hS h)
      rw [ih (by omega), L_House_clumpsBy_6, X.2.1, if_neg (by rw [le32_iff] <;> omega), c_has (by omega) (by omega) (by omega), pbI_rI, ite01, cbL]
      cases hb : (cbL h amo sets k).2.testBit k with
      | false => rw [if_neg (by simp), if_neg (by simp)]; rfl
      | true =>
        simp only [if_true]
        rw [c_hangingOn hD W X (by omega) ha hsets, pbI_rI, jxor_m1 (by omega), jand_not (by omega) (by omega)]
        rfl
  rw [key _ (Nat.le_refl _), L_House_clumpsBy_6, X.2.1, if_pos (by rw [le32_iff] <;> omega)]
end ST
/-! the class's clumps: hang -/
def aT (h : pM) : Nat := 2 ^ hT h - 1
def aS (h : pM) : Nat := 2 ^ hS h - 1
/-- the walk over the things: how many clumps so far, what is left; the clump that thing k begins -/
def cgA (h : pM) (k : Nat) : Nat × Nat := cbL h (aT h) (aS h) k
def cgM (h : pM) (k : Nat) : Nat := hng h (aT h) (aS h) (2 ^ k) (hS h)
def cmk (h : pM) : Nat → Nat → Nat
  | 0, _ => 0
  | k + 1, i => if (cgA h k).2.testBit k = true ∧ i = (cgA h k).1 then cgM h k else cmk h k i
def own (h : pM) : Nat → Nat → Nat
  | 0, _ => 0
  | k + 1, t => if (cgA h k).2.testBit k = true ∧ (cgM h k).testBit t = true then (cgA h k).1 else own h k t
def nC (h : pM) : Nat := (cgA h (hT h)).1
def CL (M h : pM) : Prop := M 7 12 = nC h ∧ (∀ i, i < nC h → M 15 i = cmk h (hT h) i) ∧ (∀ t, t < hT h → M 16 t = own h (hT h) t)
def agH : Nat → Nat → Bool := fun o i => o == 15 || o == 16 || (o == 7 && i == 12)
theorem aT_lt {h : pM} (W : WF h) : aT h < 1024 := by
  have := p_T W
  have := Nat.two_pow_pos (hT h)
  unfold aT; omega
theorem aS_lt {h : pM} (W : WF h) : aS h < 256 := by
  have := p_S W
  have := Nat.two_pow_pos (hS h)
  unfold aS; omega
section HG
variable {h M : pM} {d : Nat}
theorem cgM_lt (W : WF h) {k : Nat} (hk : k < 10) : cgM h k < 1024 := hng_lt W (pow10 hk) _
theorem cgA_le (k : Nat) : (cgA h k).1 ≤ k ∧ (cgA h k).2 ≤ aT h := cbL_le k
theorem cgA_succ (k : Nat) : cgA h (k + 1) = if (cgA h k).2.testBit k then ((cgA h k).1 + 1, nan (cgA h k).2 (cgM h k)) else cgA h k := rfl
theorem XH_agH {M' : pM} (a : ag agH M M') (X : XH M h) : XH M' h := XH_ag a (fun o i h1 h2 h3 => by
  unfold agH
  have e1 : (o == 15) = false := by simp; omega
  have e2 : (o == 16) = false := by simp; omega
  rw [e1, e2]
  by_cases q : o = 7
  · have h4 := h3 q
    have e3 : (i == 12) = false := by simp; omega
    rw [e3]; simp
  · have e3 : (o == 7) = false := by simpa using q
    rw [e3]; rfl) X
theorem hngI_has {amo sets seen i : Nat} (hb : seen.testBit i = true) : ∀ k, (hngI h amo sets seen k).testBit i = true
  | 0 => hb
  | k + 1 => by
    have ih := hngI_has (amo := amo) (sets := sets) hb k
    unfold hngI
    split
    · rw [Nat.testBit_or, ih]; rfl
    · exact ih
theorem hng_has {amo sets seen i : Nat} (hb : seen.testBit i = true) : ∀ n, (hng h amo sets seen n).testBit i = true
  | 0 => hb
  | n + 1 => hngI_has (hng_has hb n) _
theorem rest_k : ∀ k t, t < k → (cgA h k).2.testBit t = false
  | 0, t, ht => absurd ht (Nat.not_lt_zero t)
  | k + 1, t, ht => by
    rw [cgA_succ]
    cases hb : (cgA h k).2.testBit k with
    | false =>
      rw [if_neg (by decide)]
      rcases Nat.lt_or_ge t k with q | q
      · exact rest_k k t q
      · rw [show t = k by omega]; exact hb
    | true =>
      rw [if_pos rfl]
      show (nan (cgA h k).2 (cgM h k)).testBit t = false
      rw [nan_bit]
      rcases Nat.lt_or_ge t k with q | q
      · rw [rest_k k t q]; rfl
      · rw [show t = k by omega]
        have e : (cgM h k).testBit k = true := hng_has (by rw [Nat.testBit_two_pow_self]) _
        rw [e]; simp
/-- one clump more -/
def adM (M : pM) (mask : Nat) (v : Int) (n : Nat) : pM := fun o i => if o = 16 ∧ i < n ∧ mask.testBit i = true then v else M o i
theorem c_addClump (hd : 2 ≤ d) (W : WF h) (X : XH M h) {n mask : Nat} (hn : n < 10) (hM : M 7 12 = n) (hm : mask < 2147483648) : ∃ M', xF d 99 [.inr 9, .inl (mask : Int)] M = rV M' ∧ ag agH M M' ∧ M' 7 12 = ((n + 1 : Nat) : Int) ∧ (∀ i, M' 15 i = if i = n then (mask : Int) else M 15 i) ∧ (∀ t, t < hT h → M' 16 t = if mask.testBit t then (n : Int) else M 16 t) := by
  obtain ⟨D, rfl, hD⟩ := dsucc hd
  have w2 := W.2.1
  rw [T_House_addClump, hM, if_neg (by rw [lt32_iff] <;> omega), if_neg (by rw [le32_iff] <;> omega), if_pos (by omega), Int.toNat_natCast]
  have key : ∀ k : Nat, k ≤ hT h → xE D 99 15 [.inr 9, .inl (mask : Int), .inl 0] [] (pset M 15 n mask) = xE D 99 15 [.inr 9, .inl (mask : Int), .inl (k : Int)] [] (adM (pset M 15 n mask) mask n k) := by
    intro k
    induction k with
    | zero =>
      intro _
      have e : adM (pset M 15 n mask) mask n 0 = pset M 15 n mask := by
        funext o i
        unfold adM
        rw [if_neg (fun z => absurd z.2.1 (by omega))]
      rw [e]; rfl
    | succ k ih =>
      intro hk
      have e7 : ∀ i, adM (pset M 15 n mask) mask n k 7 i = M 7 i := fun i => by
        unfold adM
        rw [if_neg (fun z => absurd z.1 (by decide)), pset_ne (by decide)]
      rw [ih (by omega), L_House_addClump_15, e7, X.2.1, if_neg (by rw [le32_iff] <;> omega), c_has hD hm (by omega), pbI_rI, ite01]
      cases hb : mask.testBit k with
      | false =>
        have e : adM (pset M 15 n mask) mask n (k + 1) = adM (pset M 15 n mask) mask n k := by
          funext o i
          unfold adM
          by_cases q : o = 16 ∧ i < k ∧ mask.testBit i = true
          · rw [if_pos q, if_pos ⟨q.1, by omega, q.2.2⟩]
          · rw [if_neg q, if_neg (fun z => q ⟨z.1, by
              rcases Nat.lt_or_ge i k with y | y
              · exact y
              · rw [show i = k by omega, hb] at z; exact absurd z.2.2 (by decide), z.2.2⟩)]
        rw [e]; rfl
      | true =>
        have e : pset (adM (pset M 15 n mask) mask n k) 16 k n = adM (pset M 15 n mask) mask n (k + 1) := by
          funext o i
          by_cases q1 : o = 16
          · subst q1
            by_cases q2 : i = k
            · subst q2
              rw [pset_eq]; unfold adM
              rw [if_pos ⟨rfl, by omega, hb⟩]
            · rw [pset_ne2 q2]; unfold adM
              by_cases q : (16 : Nat) = 16 ∧ i < k ∧ mask.testBit i = true
              · rw [if_pos q, if_pos ⟨rfl, by omega, q.2.2⟩]
              · rw [if_neg q, if_neg (fun z => q ⟨rfl, by omega, z.2.2⟩)]
          · rw [pset_ne q1]; unfold adM
            rw [if_neg (fun z => q1 z.1), if_neg (fun z => q1 z.1)]
        simp only [if_true]
        rw [if_pos (by omega), Int.toNat_natCast, e7, hM, e]
        rfl
  have e7 : ∀ i, adM (pset M 15 n mask) mask n (hT h) 7 i = M 7 i := fun i => by
    unfold adM
    rw [if_neg (fun z => absurd z.1 (by decide)), pset_ne (by decide)]
  refine ⟨pset (adM (pset M 15 n mask) mask n (hT h)) 7 12 ((n : Int) + 1), ?_, ?_, ?_, ?_, ?_⟩
  · rw [key _ (Nat.le_refl _), L_House_addClump_15, e7, e7, X.2.1, if_pos (by rw [le32_iff] <;> omega), hM]
  · intro o i hc
    unfold agH at hc
    have h1 : o ≠ 15 := fun z => by rw [z] at hc; simp at hc
    have h2 : o ≠ 16 := fun z => by rw [z] at hc; simp at hc
    by_cases q : o = 7
    · subst q
      have h3 : i ≠ 12 := fun z => by rw [z] at hc; exact absurd hc (by decide)
      rw [pset_ne2 h3, e7]
    · rw [pset_ne q]; unfold adM
      rw [if_neg (fun z => h2 z.1), pset_ne h1]
  · rw [pset_eq]; omega
  · intro i
    rw [pset_ne (by decide)]; unfold adM
    rw [if_neg (fun z => absurd z.1 (by decide))]
    by_cases q : i = n
    · rw [if_pos q, q, pset_eq]
    · rw [if_neg q, pset_ne2 q]
  · intro t ht
    rw [pset_ne (by decide)]; unfold adM
    by_cases q : mask.testBit t = true
    · rw [if_pos ⟨rfl, ht, q⟩, if_pos q]
    · rw [if_neg (fun z => q z.2.2), if_neg q, pset_ne (by decide)]
theorem c_hang (hd : 3 ≤ d) (W : WF h) (X : XH M h) : ∃ M', xF d 98 [.inr 9] M = rV M' ∧ ag agH M M' ∧ CL M' h := by
  obtain ⟨D, rfl, hD⟩ := dsucc hd
  have w2 := W.2.1
  have hA := aT_lt W
  have hS9 := aS_lt W
  have ag0 : ag agH M (pset M 7 12 0) := ag_pset ag_rfl rfl
  rw [T_House_hang, c_allThings (by omega) W (XH_agH ag0 X), pbI_rI]
  have key : ∀ k : Nat, k ≤ hT h → ∃ (M' : pM) (y : pV), xE D 98 8 [.inr 9, .inl (aT h : Int), .inl 0, .inr 0] [] (pset M 7 12 0) = xE D 98 8 [.inr 9, .inl ((cgA h k).2 : Int), .inl (k : Int), y] [] M' ∧ ag agH M M' ∧ M' 7 12 = ((cgA h k).1 : Int) ∧ (∀ i, i < (cgA h k).1 → M' 15 i = cmk h k i) ∧ (∀ t, t < hT h → (cgA h k).2.testBit t = false → M' 16 t = own h k t) := by
    intro k
    induction k with
    | zero =>
      intro _
      refine ⟨_, .inr 0, rfl, ag0, by rw [pset_eq]; rfl, fun i hi => absurd hi (Nat.not_lt_zero i), fun t ht hb => ?_⟩
      have e : (cgA h 0).2.testBit t = true := by
        show (2 ^ hT h - 1).testBit t = true
        rw [Nat.testBit_two_pow_sub_one]
        simpa using ht
      rw [e] at hb
      cases hb
    | succ k ih =>
      intro hk
      obtain ⟨M1, y, e1, a1, c1, c2, c3⟩ := ih (by omega)
      have X1 := XH_agH a1 X
      have hl := cgA_le (h := h) k
      have hg := cgM_lt W (k := k) (by omega)
      rw [e1, L_House_hang_8, X1.2.1, if_neg (by rw [le32_iff] <;> omega), c_has (by omega) (by omega) (by omega), pbI_rI, ite01]
      cases hb : (cgA h k).2.testBit k with
      | false =>
        refine ⟨M1, y, ?_, a1, ?_, ?_, ?_⟩
        · rw [if_neg (by decide), cgA_succ, hb, if_neg (by decide)]; rfl
        · rw [cgA_succ, hb, if_neg (by decide)]; exact c1
        · rw [cgA_succ, hb, if_neg (by decide)]
          intro i hi
          rw [cmk, hb, if_neg (fun z => absurd z.1 (by decide))]
          exact c2 i hi
        · rw [cgA_succ, hb, if_neg (by decide)]
          intro t ht ht2
          rw [own, hb, if_neg (fun z => absurd z.1 (by decide))]
          exact c3 t ht ht2
      | true =>
        obtain ⟨M2, e2, a2, d1, d2, d3⟩ := c_addClump (d := D) (M := M1) hD W X1 (n := (cgA h k).1) (mask := cgM h k) (by omega) c1 (by omega)
        refine ⟨M2, .inl (cgM h k : Int), ?_, ag_trans a1 a2, ?_, ?_, ?_⟩
        · rw [if_pos rfl, c_allThings (by omega) W X1, pbI_rI, c_allSets (by omega) W X1, pbI_rI]
          have e3 := c_hangingOn (d := D) hD W X1 (t := k) (amo := aT h) (sets := aS h) (by omega) (by omega) (by omega)
          unfold aT aS at e3
          rw [e3, pbI_rI]
          have e4 : hng h (2 ^ hT h - 1) (2 ^ hS h - 1) (2 ^ k) (hS h) = cgM h k := rfl
          rw [e4, e2, pbN_rV, jxor_m1 (by omega), jand_not (by omega) (by omega), cgA_succ, hb, if_pos rfl]
          rfl
        · rw [cgA_succ, hb, if_pos rfl]; exact d1
        · rw [cgA_succ, hb, if_pos rfl]
          intro i hi
          rw [d2, cmk, hb]
          by_cases q : i = (cgA h k).1
          · rw [if_pos q, if_pos ⟨rfl, q⟩]
          · rw [if_neg q, if_neg (fun z => q z.2)]
            exact c2 i (by simp only at hi; omega)
        · rw [cgA_succ, hb, if_pos rfl]
          intro t ht ht2
          rw [d3 t ht, own, hb]
          by_cases q : (cgM h k).testBit t = true
          · rw [if_pos q, if_pos ⟨rfl, q⟩]
          · rw [if_neg q, if_neg (fun z => q z.2)]
            refine c3 t ht ?_
            rw [nan_bit] at ht2
            cases e : (cgA h k).2.testBit t with
            | false => rfl
            | true =>
              have q' : (cgM h k).testBit t = false := by simpa using q
              rw [e, q'] at ht2
              cases ht2
  obtain ⟨M1, y, e1, a1, c1, c2, c3⟩ := key _ (Nat.le_refl _)
  refine ⟨M1, ?_, a1, c1, c2, fun t ht => c3 t ht ?_⟩
  · have e2 : xE D 98 8 [.inr 9, .inl ((2 ^ hT h - 1 : Nat) : Int), .inl 0, .inr 0] [] (pset M 7 12 0) = _ := e1
    rw [e2, L_House_hang_8, (XH_agH a1 X).2.1, if_pos (by rw [le32_iff] <;> omega)]
  · exact rest_k _ t ht
end HG
/-! what is asked of the clumps that stand -/
/-- the clump i, and the clump of a thing -/
def cOf (h : pM) (i : Nat) : Nat := cmk h (hT h) i
def oOf (h : pM) (t : Nat) : Nat := own h (hT h) t
theorem nC_le {h : pM} (W : WF h) : nC h ≤ 10 := Nat.le_trans (cgA_le _).1 W.2.1
section OC
variable {h M : pM} {d : Nat}
end OC
/-! what hangs together: both sides find the same -/
section SMC
variable {sv : Nat → Nat} {ns g S b : Nat} {h M : pM}
theorem or_sub {a b : Nat} : a ||| b = b ↔ ∀ i, a.testBit i = true → b.testBit i = true := by
  constructor
  · intro e i hi
    have : (a ||| b).testBit i = b.testBit i := by rw [e]
    rw [Nat.testBit_or, hi] at this
    exact this.symm
  · intro q
    refine Nat.eq_of_testBit_eq fun i => ?_
    rw [Nat.testBit_or]
    cases e : a.testBit i with
    | false => rfl
    | true => rw [q i e]; rfl
theorem fcP_ne : ∀ n, fcP sv ns g b n ≠ b → ∃ k, k < n ∧ ¬ nan (sv k) g ||| b = b ∧ nan (sv k) g ||| fcP sv ns g b n = fcP sv ns g b n
  | 0, q => absurd rfl q
  | n + 1, q => by
    by_cases e : fcP sv ns g b n = b
    · refine ⟨n, Nat.lt_succ_self n, ?_, ?_⟩
      · intro z
        apply q
        unfold fcP
        rw [e]
        split
        · rfl
        · rw [Nat.or_comm]; exact z
      · have q' := q
        unfold fcP at q'
        rw [e] at q'
        have u : fcP sv ns g b (n + 1) = b ||| nan (sv n) g := by
          unfold fcP
          rw [e]
          split
          · rename_i z
            rw [if_pos z] at q'
            exact absurd rfl q'
          · rfl
        rw [u]
        exact or_sub.mpr fun i hi => by rw [Nat.testBit_or, hi, Bool.or_true]
    · obtain ⟨k, k1, k2, k3⟩ := fcP_ne n e
      refine ⟨k, Nat.lt_succ_of_lt k1, k2, or_sub.mpr fun i hi => ?_⟩
      have := or_sub.mp k3 i hi
      unfold fcP
      split
      · exact this
      · rw [Nat.testBit_or, this]; rfl
def abN (sv : Nat → Nat) (g S b : Nat) : Nat := cntTo (fun k => decide (nan (sv k) g ||| b = b)) S
theorem abN_lt (q : fcP sv ns g b S ≠ b) : abN sv g S b + 1 ≤ abN sv g S (fcP sv ns g b S) := by
  obtain ⟨k, k1, k2, k3⟩ := fcP_ne S q
  refine (cntTo_lt (f := fun k => decide (nan (sv k) g ||| b = b)) (g := fun k => decide (nan (sv k) g ||| fcP sv ns g b S = fcP sv ns g b S)) (fun i hi => ?_) (c := k) (decide_eq_false k2) (decide_eq_true k3) S).2 k1
  have := or_sub.mp (of_decide_eq_true hi)
  exact decide_eq_true (or_sub.mpr fun j hj => fcP_bit (this j hj) S)
theorem fcI_fixS : ∀ (n b : Nat), S ≤ n + abN sv g S b → fcP sv ns g (fcI sv ns g S n b) S = fcI sv ns g S n b
  | 0, b, q => by
    show fcP sv ns g b S = b
    apply Classical.byContradiction
    intro z
    have h1 := abN_lt z
    have h2 : abN sv g S (fcP sv ns g b S) ≤ S := cntTo_le _
    omega
  | n + 1, b, q => by
    by_cases e : fcP sv ns g b S = b
    · rw [fcI_fix e]; exact e
    · have h1 := abN_lt e
      exact fcI_fixS n _ (by omega)
theorem fcX_S (hS : S ≤ 1024) : fcX sv ns g S b = fcI sv ns g S S b := by
  have e : fcX sv ns g S b = fcI sv ns g S (S + (1024 - S)) b := by
    unfold fcX
    rw [show S + (1024 - S) = 1024 by omega]
  rw [e, fcI_add, fcI_fix (fcI_fixS S b (by omega))]
theorem hngI_P {amo sets : Nat} (E : ∀ k, k < hS h → sets.testBit k = !ns.testBit k) (A : ∀ k, k < hS h → me h k &&& amo = nan (me h k) g) : ∀ k, k ≤ hS h → hngI h amo sets b k = fcP (me h) ns g b k
  | 0, _ => rfl
  | k + 1, hk => by
    have ih := hngI_P E A k (by omega)
    unfold hngI fcP
    rw [ih, A k (by omega), E k (by omega)]
    cases ns.testBit k with
    | true => rw [if_neg (fun z => by cases z.1), if_pos (Or.inl rfl)]
    | false =>
      by_cases q : me h k &&& fcP (me h) ns g b k = 0
      · rw [if_neg (fun z => z.2 q), if_pos (Or.inr q)]
      · rw [if_pos ⟨rfl, q⟩, if_neg (fun z => z.elim (fun y => by cases y) q)]
theorem hng_I {amo sets : Nat} (E : ∀ k, k < hS h → sets.testBit k = !ns.testBit k) (A : ∀ k, k < hS h → me h k &&& amo = nan (me h k) g) : ∀ n, hng h amo sets b n = fcI (me h) ns g (hS h) n b
  | 0 => rfl
  | n + 1 => by
    show hngI h amo sets (hng h amo sets b n) (hS h) = _
    rw [hngI_P E A _ (Nat.le_refl _), hng_I E A n, fcI_add n 1]
    rfl
theorem hng_X (W : WF h) {amo sets : Nat} (E : ∀ k, k < hS h → sets.testBit k = !ns.testBit k) (A : ∀ k, k < hS h → me h k &&& amo = nan (me h k) g) : hng h amo sets b (hS h) = fcX (me h) ns g (hS h) b := by
  have := W.2.2.1
  rw [hng_I E A, fcX_S (by omega)]
theorem cb_A (W : WF h) {amo sets : Nat} (E : ∀ k, k < hS h → sets.testBit k = !ns.testBit k) (A : ∀ k, k < hS h → me h k &&& amo = nan (me h k) g) (B : ∀ t, t < hT h → amo.testBit t = !g.testBit t) : ∀ k, k ≤ hT h → (cbL h amo sets k).1 = (fcA (me h) ns g (hS h) k).1 ∧ ∀ t, t < hT h → (cbL h amo sets k).2.testBit t = !(fcA (me h) ns g (hS h) k).2.testBit t
  | 0, _ => ⟨rfl, B⟩
  | k + 1, hk => by
    obtain ⟨i1, i2⟩ := cb_A W E A B k (by omega)
    have e := i2 k (by omega)
    rw [fcA_s]
    unfold cbL
    cases q : (fcA (me h) ns g (hS h) k).2.testBit k with
    | true =>
      rw [q] at e
      rw [e, if_pos rfl, if_neg (by decide)]
      exact ⟨i1, i2⟩
    | false =>
      rw [q] at e
      rw [e, Bool.not_false, if_pos rfl, if_neg (by decide)]
      refine ⟨by rw [i1], fun t ht => ?_⟩
      show (nan (cbL h amo sets k).2 (hng h amo sets (2 ^ k) (hS h))).testBit t = !((fcA (me h) ns g (hS h) k).2 ||| fcX (me h) ns g (hS h) (2 ^ k)).testBit t
      rw [nan_bit, i2 t ht, hng_X W E A, Nat.testBit_or, Bool.not_or]
theorem hE (h : pM) : ∀ k, k < hS h → (aS h).testBit k = !(0 : Nat).testBit k := fun k hk => by
  unfold aS
  rw [Nat.testBit_two_pow_sub_one, decide_eq_true hk, Nat.zero_testBit]; rfl
theorem hA (W : WF h) : ∀ k, k < hS h → me h k &&& aT h = nan (me h k) 0 := fun k hk => by
  refine Nat.eq_of_testBit_eq fun i => ?_
  unfold aT
  rw [Nat.testBit_and, nan_bit, Nat.testBit_two_pow_sub_one, Nat.zero_testBit]
  cases e : (me h k).testBit i with
  | false => rfl
  | true => rw [decide_eq_true (bit_lt (W.2.2.2.2.2.2.2.2 k hk) e)]; rfl
theorem hB (h : pM) : ∀ t, t < hT h → (aT h).testBit t = !(0 : Nat).testBit t := fun t ht => by
  unfold aT
  rw [Nat.testBit_two_pow_sub_one, decide_eq_true ht, Nat.zero_testBit]; rfl
theorem cg_A (W : WF h) {k : Nat} (hk : k ≤ hT h) : (cgA h k).1 = (fcA (me h) 0 0 (hS h) k).1 ∧ ∀ t, t < hT h → (cgA h k).2.testBit t = !(fcA (me h) 0 0 (hS h) k).2.testBit t := cb_A W (hE h) (hA W) (hB h) k hk
theorem cg_M (W : WF h) (k : Nat) : cgM h k = fcX (me h) 0 0 (hS h) (2 ^ k) := hng_X W (hE h) (hA W)
theorem cmk_M (W : WF h) {f : Nat → Int} {i : Nat} : ∀ k, k ≤ hT h → i < (cgA h k).1 → fcM (me h) 0 0 (hS h) f k i = (cmk h k i : Int)
  | 0, _, hi => absurd hi (Nat.not_lt_zero i)
  | k + 1, hk, hi => by
    obtain ⟨a1, a2⟩ := cg_A W (k := k) (by omega)
    have e := a2 k (by omega)
    rw [fcM_s]
    unfold cmk
    rw [cgA_succ] at hi
    cases q : (fcA (me h) 0 0 (hS h) k).2.testBit k with
    | true =>
      rw [q] at e
      rw [e, if_neg (by decide)] at hi
      rw [e, if_neg (fun z => by cases z.1), if_neg (fun z => by cases z.1)]
      exact cmk_M W k (by omega) hi
    | false =>
      rw [q] at e
      rw [e, if_pos (by decide)] at hi
      rw [e, ← a1]
      by_cases z : i = (cgA h k).1
      · rw [if_pos ⟨rfl, z⟩, if_pos ⟨rfl, z⟩, cg_M W]
      · rw [if_neg (fun y => z y.2), if_neg (fun y => z y.2)]
        exact cmk_M W k (by omega) (by have : i < (cgA h k).1 + 1 := hi; omega)
theorem own_O (W : WF h) {f : Nat → Int} {o : Nat} (ho : o < hT h) : ∀ k, k ≤ hT h → (cgA h k).2.testBit o = false → fcO (me h) 0 0 (hS h) f k o = (own h k o : Int)
  | 0, _, hi => by
    have : (cgA h 0).2 = aT h := rfl
    rw [this, hB h o ho, Nat.zero_testBit] at hi; cases hi
  | k + 1, hk, hi => by
    obtain ⟨a1, a2⟩ := cg_A W (k := k) (by omega)
    have e := a2 k (by omega)
    rw [fcO_s]
    unfold own
    rw [cgA_succ] at hi
    cases q : (fcA (me h) 0 0 (hS h) k).2.testBit k with
    | true =>
      rw [q] at e
      rw [e, if_neg (by decide)] at hi
      rw [e, if_neg (fun z => by cases z.1), if_neg (fun z => by cases z.1)]
      exact own_O W ho k (by omega) hi
    | false =>
      rw [q] at e
      rw [e, if_pos (by decide)] at hi
      have hi2 : (nan (cgA h k).2 (cgM h k)).testBit o = false := hi
      rw [nan_bit] at hi2
      rw [e, ← a1, ← cg_M W]
      cases z : (cgM h k).testBit o with
      | true => rw [if_pos ⟨rfl, rfl⟩, if_pos ⟨rfl, rfl⟩]
      | false =>
        rw [if_neg (fun y => by cases y.2), if_neg (fun y => by cases y.2)]
        rw [z, Bool.not_false, Bool.and_true] at hi2
        exact own_O W ho k (by omega) hi2
theorem m_fcF {d : Nat} (hd : 2 ≤ d) (hM : gM gAll M) (W : WF h) (X : MH M h) : ∃ M', xF d 200 [.inr 62, .inl 0, .inl 0] M = rV M' ∧ gM gAll M' ∧ Fr FCw M M' ∧ M' 60 30 = (nC h : Int) ∧ (∀ i, i < nC h → M' 73 i = (cOf h i : Int)) ∧ ∀ o, o < hT h → M' 72 o = (oOf h o : Int) := by
  obtain ⟨M', e, g', f, c1, c2, c3⟩ := m_findClumps (ns := 0) (g := 0) hd hM (MH_fc W X) (by decide) (by decide)
  have u := (cg_A W (k := hT h) (Nat.le_refl _)).1
  refine ⟨M', e, g', f, by rw [c1, ← u]; rfl, fun i hi => ?_, fun o ho => ?_⟩
  · rw [c3 i, cmk_M W (hT h) (Nat.le_refl _) hi]; rfl
  · rw [c2 o ho, own_O W ho (hT h) (Nat.le_refl _) (rest_k (hT h) o ho)]; rfl
theorem m_fcN {d ns g : Nat} (hd : 2 ≤ d) (hM : gM gAll M) (W : WF h) (X : MH M h) (hns : ns < 2147483648) (hg : g < 1024) {amo sets : Nat} (E : ∀ k, k < hS h → sets.testBit k = !ns.testBit k) (A : ∀ k, k < hS h → me h k &&& amo = nan (me h k) g) (B : ∀ t, t < hT h → amo.testBit t = !g.testBit t) : ∃ M', xF d 200 [.inr 62, .inl (ns : Int), .inl (g : Int)] M = rV M' ∧ gM gAll M' ∧ Fr FCw M M' ∧ M' 60 30 = ((cbL h amo sets (hT h)).1 : Int) := by
  obtain ⟨M', e, g', f, c1, c2, c3⟩ := m_findClumps hd hM (MH_fc W X) hns hg
  refine ⟨M', e, g', f, by rw [c1, (cb_A W E A B (hT h) (Nat.le_refl _)).1]⟩
end SMC
/-! the class's clumps are those of its sets, whatever is called -/
section CKS
variable {D d L : Nat} {M M' M1 M2 G h h' : pM} {w w1 w2 : List (Nat × Nat)} {v y : Int} {tx : Nat → Int}
def CK (M : pM) : Prop := ∃ h, (M 7 10 = hT h ∧ M 7 11 = hS h ∧ ∀ s, s < hS h → M 14 s = me h s) ∧ CL M h
def cc (o i : Nat) : Bool := (Nat.beq o 7 && (Nat.beq i 10 || Nat.beq i 11 || Nat.beq i 12)) || (Nat.ble 14 o && Nat.ble o 16)
def cco (o : Nat) : Bool := Nat.beq o 7 || (Nat.ble 14 o && Nat.ble o 16)
theorem cc_o (o i : Nat) (h : cc o i = true) : cco o = true := by
  unfold cc at h
  unfold cco
  rw [Bool.or_eq_true] at h
  rcases h with h | h
  · rw [Bool.and_eq_true] at h
    rw [h.1]; rfl
  · rw [h, Bool.or_true]
theorem CK_ag (e : ∀ o i, cc o i = true → M' o i = M o i) (C : CK M) : CK M' := by
  obtain ⟨h, ⟨a1, a2, a3⟩, b1, b2, b3⟩ := C
  exact ⟨h, ⟨by rw [e 7 10 rfl]; exact a1, by rw [e 7 11 rfl]; exact a2, fun s hs => by rw [e 14 s rfl]; exact a3 s hs⟩, by rw [e 7 12 rfl]; exact b1, fun i hi => by rw [e 15 i rfl]; exact b2 i hi, fun t ht => by rw [e 16 t rfl]; exact b3 t ht⟩
theorem CK_Fr (f : Fr w M M') (k : okW cc cco w = true) (C : CK M) : CK M' := CK_ag (fun o i q => f o i (okW_no cc_o k q)) C
theorem hngI_cg (e2 : hS h' = hS h) (e3 : ∀ s, s < hS h → me h' s = me h s) {amo sets seen : Nat} : ∀ k, k ≤ hS h → hngI h' amo sets seen k = hngI h amo sets seen k
  | 0, _ => rfl
  | k + 1, hk => by
    have ih := hngI_cg e2 e3 (amo := amo) (sets := sets) (seen := seen) k (by omega)
    unfold hngI
    rw [ih, e3 k (by omega)]
theorem hng_cg (e2 : hS h' = hS h) (e3 : ∀ s, s < hS h → me h' s = me h s) {amo sets seen : Nat} : ∀ n, hng h' amo sets seen n = hng h amo sets seen n
  | 0 => rfl
  | n + 1 => by
    unfold hng
    rw [hng_cg e2 e3 n, e2, hngI_cg e2 e3 _ (Nat.le_refl _)]
theorem cbL_cg (e2 : hS h' = hS h) (e3 : ∀ s, s < hS h → me h' s = me h s) {amo sets : Nat} : ∀ k, cbL h' amo sets k = cbL h amo sets k
  | 0 => rfl
  | k + 1 => by
    unfold cbL
    rw [cbL_cg e2 e3 k, e2, hng_cg e2 e3]
theorem cgA_cg (e1 : hT h' = hT h) (e2 : hS h' = hS h) (e3 : ∀ s, s < hS h → me h' s = me h s) (k : Nat) : cgA h' k = cgA h k := by
  unfold cgA aT aS
  rw [e1, e2, cbL_cg e2 e3]
theorem cgM_cg (e1 : hT h' = hT h) (e2 : hS h' = hS h) (e3 : ∀ s, s < hS h → me h' s = me h s) (k : Nat) : cgM h' k = cgM h k := by
  unfold cgM aT aS
  rw [e1, e2, hng_cg e2 e3]
theorem cmk_cg (e1 : hT h' = hT h) (e2 : hS h' = hS h) (e3 : ∀ s, s < hS h → me h' s = me h s) (i : Nat) : ∀ k, cmk h' k i = cmk h k i
  | 0 => rfl
  | k + 1 => by
    unfold cmk
    rw [cgA_cg e1 e2 e3, cgM_cg e1 e2 e3, cmk_cg e1 e2 e3 i k]
theorem own_cg (e1 : hT h' = hT h) (e2 : hS h' = hS h) (e3 : ∀ s, s < hS h → me h' s = me h s) (t : Nat) : ∀ k, own h' k t = own h k t
  | 0 => rfl
  | k + 1 => by
    unfold own
    rw [cgA_cg e1 e2 e3, cgM_cg e1 e2 e3, own_cg e1 e2 e3 t k]
theorem CL_cg (e1 : hT h' = hT h) (e2 : hS h' = hS h) (e3 : ∀ s, s < hS h → me h' s = me h s) (C : CL M h) : CL M h' := by
  obtain ⟨b1, b2, b3⟩ := C
  have u : nC h' = nC h := by unfold nC; rw [e1, cgA_cg e1 e2 e3]
  exact ⟨by rw [u]; exact b1, fun i hi => by rw [u] at hi; rw [e1, cmk_cg e1 e2 e3]; exact b2 i hi, fun t ht => by rw [e1] at ht; rw [e1, own_cg e1 e2 e3]; exact b3 t ht⟩
/-- seen from the house that the class holds -/
theorem CK_G (C : CK M) (X : XH M G) : CL M G := by
  obtain ⟨h, ⟨a1, a2, a3⟩, b⟩ := C
  obtain ⟨x1, x2, x3, x4, x5, x6, x7⟩ := X
  have e1 : hT G = hT h := by omega
  have e2 : hS G = hS h := by omega
  refine CL_cg e1 e2 (fun s hs => ?_) b
  have := a3 s hs
  have := x7 s (by omega)
  omega
theorem CK_of (X : XH M G) (C : CL M G) : CK M := ⟨G, ⟨X.2.1, X.2.2.1, X.2.2.2.2.2.2⟩, C⟩
theorem x_houseC {d : Nat} (hd : 10 ≤ d) (hM : gM gAll M) (X : XH M h) (W : BD h) (h1 : M 1 1 = (L : Int)) (ht : ∀ i, i < 80 → M 2 i = ux (tx i)) (hx : ∀ i, i < 80 → -128 ≤ tx i ∧ tx i ≤ 127) (WN : hsN tx L h → WF (hsH tx L h)) {z : Int} (e : xF d 2 [.inr 2] M = rI z M') : (hsN tx L h → CL M' (hsH tx L h)) ∧ (¬ hsN tx L h → ∀ o i, 7 ≤ o → o ≤ 16 → M' o i = M o i) := by
  obtain ⟨D, rfl, hD⟩ := dsucc hd
  have b1 := gm_i hM 1 1 (lo := 0) (hi := 80) (by decide +kernel) (by decide +kernel)
  rw [T_X_house, h1] at e
  by_cases q : L = 0
  · rw [if_neg (fun y => y (by rw [q]; rfl))] at e
    rw [← (rI_inj e).2]
    exact ⟨fun y => absurd q y.1, fun _ _ _ _ _ => rfl⟩
  · obtain ⟨M1, e1, g1, -⟩ := v_copy2 (d := D) (by omega) hM
    obtain ⟨M1', e1', y1, c1⟩ := x_become17 (d := D) (by omega) X W
    obtain rfl := rV_inj (e1.symm.trans e1')
    obtain ⟨v, M2, e2, g2, -⟩ := v_read (d := D) (by omega) g1
    obtain ⟨v', M2', e2', a2, r2⟩ := x_readH (tx := tx) (D := D) (by omega) y1 W (by rw [c1 1 1 (by omega)]; exact h1) (by omega) (fun i hi => by rw [c1 2 i (by omega)]; exact ht i hi) hx
    obtain ⟨rfl, rfl⟩ := rI_inj (e2.symm.trans e2')
    obtain ⟨e3, g3⟩ := x_cut0 (d := D) (by omega) g2
    rw [if_pos (by rw [eq32_iff] <;> omega), e1, pbN_rV, e2, pbI_rI, e3, pbI_rI] at e
    have uH : hsH tx L h = match phE L (phS tx (min L 76) 78 0 h 0).1 with
      | .inl _ => h
      | .inr _ => (phS tx (min L 76) 78 0 h 0).2.1 := if_neg q
    have hn := phS_n tx (min L 76) 78 0 h 0
    unfold rdA at r2
    cases hp : phE L (phS tx (min L 76) 78 0 h 0).1 with
    | inl p =>
      rw [hp] at r2 uH
      obtain ⟨r2, p80⟩ : v = -1 - (p : Int) ∧ p ≤ 80 := r2
      have hp80 : lt32 v 0 := by rw [lt32_iff] <;> omega
      rw [if_pos hp80] at e
      rw [← (rI_inj e).2]
      refine ⟨fun y => ?_, fun _ o i o1 o2 => ?_⟩
      · obtain ⟨-, b, hb⟩ := y
        rw [hp] at hb; cases hb
      · rw [pset_ne (by omega), a2 o i (by omega) (by omega), pset_ne (by omega), pset_ne (by omega), pset_ne (by omega), c1 o i (by omega)]
    | inr b =>
      have hN : hsN tx L h := ⟨q, b, hp⟩
      have WW := WN hN
      rw [hp] at r2 uH
      obtain ⟨r3, r4⟩ := r2
      have hp2 : ∃ c, (phS tx (min L 76) 78 0 h 0).1 = .inr c := by
        cases k : (phS tx (min L 76) 78 0 h 0).1 with
        | inl p => rw [k] at hp; cases hp
        | inr c => exact ⟨c, rfl⟩
      obtain ⟨c, hp3⟩ := hp2
      have W3 := BD_phS 78 0 h 0 c W hp3
      obtain ⟨M4, e4, g4, f4⟩ := v_become (d := D) (by omega) g3
      have y3 : YH (pset M2 1 1 0) (phS tx (min L 76) 78 0 h 0).2.1 := by
        obtain ⟨y1, y2, y3, y4, y5, y6, y7⟩ := r4
        exact ⟨by rw [pset_ne (by decide)]; exact y1, by rw [pset_ne (by decide)]; exact y2, by rw [pset_ne (by decide)]; exact y3, fun r hr => by rw [pset_ne (by decide)]; exact y4 r hr, fun p hp => by rw [pset_ne (by decide)]; exact y5 p hp, fun t ht => by rw [pset_ne (by decide), pset_ne (by decide), pset_ne (by decide), pset_ne (by decide)]; exact y6 t ht, fun s hs => by rw [pset_ne (by decide)]; exact y7 s hs⟩
      obtain ⟨M4', e4', X4⟩ := x_become7 (d := D) (by omega) y3 W3.1 W3.2.1 W3.2.2
      obtain rfl := rV_inj (e4.symm.trans e4')
      have uH' : hsH tx L h = (phS tx (min L 76) 78 0 h 0).2.1 := uH
      rw [uH'] at WW
      obtain ⟨M5, e5, a5, C5⟩ := c_hang (d := D) (by omega) WW X4
      obtain ⟨D', rfl, -⟩ := dsucc (show 1 ≤ D by omega)
      rw [if_neg (by rw [lt32_iff] <;> omega), e4, pbN_rV, e5, pbN_rV, T_Past_forget, pbN_rV] at e
      rw [uH', ← (rI_inj e).2]
      refine ⟨fun _ => ?_, fun y => absurd hN y⟩
      obtain ⟨b1, b2, b3⟩ := C5
      exact ⟨by rw [pset_ne (by decide)]; exact b1, fun i hi => by rw [pset_ne (by decide)]; exact b2 i hi, fun t ht => by rw [pset_ne (by decide)]; exact b3 t ht⟩
theorem x_breaksC (hd : 4 ≤ d) (W : WF G) (hM : gM gAll M) (X : XG M G) (WN : ∀ t, t < hT G → WF (gBr G t)) {b : Int} (hb : -2147483648 ≤ b ∧ b ≤ 2147483647) {v : Int} (ee : xF d 19 [.inr 2, .inl b] M = rI v M') : (0 ≤ b ∧ b < hT G → CL M' (gBr G b.toNat) ∧ v = nC (gBr G b.toNat)) ∧ (¬ (0 ≤ b ∧ b < hT G) → M' = M) := by
  obtain ⟨D, rfl, hD⟩ := dsucc hd
  obtain ⟨D', rfl, -⟩ := dsucc (show 1 ≤ D by omega)
  have w2 := W.2.1
  rw [T_X_breaks, c_isThing7 (by omega) W X.1 (by omega) (by omega), pbI_rI, ite01pn] at ee
  by_cases q : 0 ≤ b ∧ b < hT G
  · obtain ⟨t, rfl⟩ := natI q.1
    obtain ⟨M1, e1, g1, r1, f1⟩ := x_leave (D := D') W (t := t) (by omega) (hS G) 0 M (by omega) hM X.1.2.2.1 (fun i hi => by rw [X.1.2.2.2.2.2.2 i hi, if_neg (Nat.not_lt_zero i)])
    have X1 : XG M1 (gBr G t) := XG_gBr X r1 (fun o i ho _ => f1 o i ho)
    obtain ⟨M2, e2, -, C2⟩ := c_hang (d := D' + 1) (by omega) (WN t (by omega)) X1.1
    rw [if_pos q, T_House_leaveSets, show (.inl 0 : pV) = .inl ((0 : Nat) : Int) from rfl, e1, pbN_rV, e2, pbN_rV] at ee
    refine ⟨fun _ => ?_, fun z => absurd q z⟩
    rw [← (rI_inj ee).2, Int.toNat_natCast, ← (rI_inj ee).1]
    exact ⟨C2, C2.1⟩
  · rw [if_neg q] at ee
    exact ⟨fun z => absurd z q, fun _ => (rI_inj ee).2.symm⟩
end CKS
/-! clumps, heaviest, without, breaks, ties: what they answer, on both sides -/
section CLC
variable {D d : Nat} {M M' M1 M2 G h : pM} {w1 w2 : List (Nat × Nat)} {v y : Int}
theorem WF_cg {h' : pM} (W : WF h) (e : ∀ o i, o < 8 → h' o i = h o i) : WF h' := by
  have r : hR h' = hR h := by unfold hR; rw [e 0 0 (by decide)]
  have t : hT h' = hT h := by unfold hT; rw [e 0 1 (by decide)]
  have s : hS h' = hS h := by unfold hS; rw [e 0 2 (by decide)]
  obtain ⟨a1, a2, a3, a4, a5, a6, a7, a8, a9⟩ := W
  refine ⟨by rw [r]; exact a1, by rw [t]; exact a2, by rw [s]; exact a3, fun i hi => ?_, fun p hp => ?_, fun a b ha hb => ?_, fun a b ha hb q => ?_, fun i hi => ?_, fun i hi => ?_⟩
  · rw [r] at hi; rw [e 1 i (by decide)]; exact a4 i hi
  · rw [e 2 p (by decide)]; exact a5 p hp
  · rw [e 2 _ (by decide), e 2 _ (by decide)]; exact a6 a b ha hb
  · rw [r] at q; rw [e 2 _ (by decide)]; exact a7 a b ha hb q
  · rw [t] at hi; rw [e 3 i (by decide), e 4 i (by decide), e 5 i (by decide), e 6 i (by decide), r]; exact a8 i hi
  · rw [s] at hi; rw [t]
    have := a9 i hi
    unfold me at this ⊢
    rw [e 7 i (by decide)]; exact this
theorem WF_gBr (W : WF G) (t : Nat) : WF (gBr G t) := by
  obtain ⟨a1, a2, a3, a4, a5, a6, a7, a8, a9⟩ := W
  refine ⟨a1, a2, a3, fun i hi => ?_, fun p hp => ?_, fun a b ha hb => ?_, fun a b ha hb q => ?_, fun i hi => ?_, fun i hi => ?_⟩
  · rw [gBr_ne (by decide)]; exact a4 i hi
  · rw [gBr_ne (by decide)]; exact a5 p hp
  · rw [gBr_ne (by decide), gBr_ne (by decide)]; exact a6 a b ha hb
  · rw [gBr_ne (by decide)]; exact a7 a b ha hb q
  · rw [gBr_ne (by decide), gBr_ne (by decide), gBr_ne (by decide), gBr_ne (by decide)]; exact a8 i hi
  · have hi : i < hS G := hi
    rw [gBr_me hi]
    exact Nat.lt_of_le_of_lt (nan_le _ _) (a9 i hi)
theorem kcC_house (R : RI0 M) (C : CI M) (K : CK M) (T : TI M) (R1 : RI0 M1) (R2 : RI0 M2) (e1 : xF 1000 2 [.inr 2] M = rI v M1) (f1 : Fr w1 M M1) (k1 : okW cm cmo w1 = true) (k5 : wOK w1 60 14 = false) (k6 : ∀ i, wOK w1 68 i = false) (e2 : xF 1000 184 [.inr 62] M1 = rI y M2) : CK M1 := by
  obtain ⟨G, X, Y⟩ := C
  obtain ⟨W, -⟩ := ci_facts R X Y
  have b0 := gm_i R.1 1 1 (lo := 0) (hi := 80) (by decide +kernel) (by decide +kernel)
  obtain ⟨L, hL⟩ := natI b0.1
  have htx : ∀ i, i < 80 → -128 ≤ M 68 i ∧ M 68 i ≤ 127 := fun i hi => gm_r R.1 (o := 68) (lo := -128) (hi := 127) (by decide +kernel) (by decide +kernel) (show i < 80 from hi)
  obtain ⟨q0, q1, q2, q3⟩ := mg_house (tx := fun i => M 68 i) (L := L) (d := 1000) (by decide) W R1.1 (MG_Fr f1 k1 Y) (by rw [f1 60 14 k5, ← T.1]; exact hL) (fun i _ => f1 68 i (k6 i)) e2
  have B : BD G := ⟨W.1, W.2.1, W.2.2.1⟩
  obtain ⟨a1, a2⟩ := x_houseC (tx := fun i => M 68 i) (L := L) (d := 1000) (by decide) R.1 X.1 B hL T.2 htx (fun n => WF_cg (WF_MH R2.1 R2.2.2.1 (q1 n).1) (fun o i ho => (gNew_lo ho).symm)) e1
  obtain ⟨p0, p1, -⟩ := x_house (tx := fun i => M 68 i) (L := L) (d := 1000) (by decide) R.1 X.1 B hL T.2 htx e1
  by_cases q : hsN (fun i => M 68 i) L G
  · exact CK_of p1 (a1 q)
  · refine CK_ag (fun o i c => a2 q o i ?_ ?_) K
    · unfold cc at c
      simp only [Bool.or_eq_true, Bool.and_eq_true, Nat.beq_eq, Nat.ble_eq] at c
      omega
    · unfold cc at c
      simp only [Bool.or_eq_true, Bool.and_eq_true, Nat.beq_eq, Nat.ble_eq] at c
      omega
theorem m_breaksV (hd : 3 ≤ d) (W : WF G) (hM : gM gAll M) (X : MG M G) {b : Int} (hb : 0 ≤ b ∧ b < hT G) (ee : xF d 226 [.inr 62, .inl b] M = rI v M') : v = nC (gBr G b.toNat) := by
  obtain ⟨D, rfl, hD⟩ := dsucc hd
  have w2 := W.2.1
  have w3 := W.2.2.1
  have X1 := MG_thr X
  have hM1 := gM_thr hM
  rw [T_M_breaks] at ee
  generalize pset M 60 17 0 = M1 at X1 hM1 ee
  rw [m_isThing (by omega) X1.1.2.1 (by omega) (by omega) (by omega), pbI_rI] at ee
  obtain ⟨t, rfl⟩ := natI hb.1
  obtain ⟨M2, e1, g1, r1, f1⟩ := m_leave (D := D) W (t := t) (by omega) (hS G) 0 M1 (by omega) hM1 X1.1.2.2.1 (fun i hi => by rw [X1.1.2.2.2.2.2.2 i hi, if_neg (Nat.not_lt_zero i)])
  have X2 : MG M2 (gBr G t) := MG_gBr X1 r1 (fun o i ho _ => f1 o i ho)
  obtain ⟨M3, e2, g2, f2, c2, -⟩ := m_fcF (d := D) (by omega) g1 (WF_gBr W t) X2.1
  rw [if_pos hb, if_pos (by decide), show (.inl 0 : pV) = .inl ((0 : Nat) : Int) from rfl, e1, L_M_breaks_11, f1 60 8 (by decide), X1.1.2.2.1, if_pos (by rw [le32_iff] <;> omega), e2, pbN_rV] at ee
  rw [← (rI_inj ee).1, c2, Int.toNat_natCast]
theorem kc_breaksV (R : RI0 M) (C : CI M) (K : CK M) (R1 : RI0 M1) {a1 : Int} (h1 : -2147483648 ≤ a1 ∧ a1 ≤ 2147483647) (e1 : xF 1000 19 [.inr 2, .inl a1] M = rI v M1) (f1 : Fr w1 M M1) (k1 : okW cm cmo w1 = true) (e2 : xF 1000 226 [.inr 62, .inl a1] M1 = rI y M2) : v = y ∧ CK M1 := by
  obtain ⟨G, X, Y⟩ := C
  obtain ⟨W, -⟩ := ci_facts R X Y
  obtain ⟨p1, p2⟩ := xg_breaks (d := 1000) (by decide) W R.1 X h1 e1
  obtain ⟨a, b⟩ := x_breaksC (d := 1000) (by decide) W R.1 X (fun t _ => WF_gBr W t) h1 e1
  obtain ⟨q1, q2⟩ := mg_breaks (d := 1000) (by decide) W R1.1 (MG_Fr f1 k1 Y) h1 e2
  by_cases q : 0 ≤ a1 ∧ a1 < hT G
  · exact ⟨by rw [(a q).2, m_breaksV (d := 1000) (by decide) W R1.1 (MG_Fr f1 k1 Y) q e2], CK_of (p1 q).1 (a q).1⟩
  · rw [b q]
    exact ⟨by rw [(p2 q).1, (q2 q).1], K⟩
def tiB (h : pM) (s : Nat) : Bool := decide (nC h < (cbL h (aT h) (nan (aS h) (2 ^ s)) (hT h)).1)
theorem ti_E (h : pM) (s : Nat) : ∀ k, k < hS h → (nan (aS h) (2 ^ s)).testBit k = !(2 ^ s).testBit k := fun k hk => by
  unfold aS
  rw [nan_bit, Nat.testBit_two_pow_sub_one, decide_eq_true hk, Bool.true_and]
theorem x_ti4 (hD : 4 ≤ D) (W : WF h) (X : XH M h) (C : CL M h) : ∀ (m k : Nat), k + m = hS h → xE D 20 4 [.inr 2, .inl (bitsOf (tiB h) k : Nat), .inl (k : Int)] [] M = rI (bitsOf (tiB h) (hS h) : Nat) M
  | 0, k, hk => by
    have w3 := W.2.2.1
    have e : k = hS h := by omega
    rw [L_X_ties_4, X.2.2.1, if_pos (by rw [le32_iff] <;> omega), e]
  | m + 1, k, hk => by
    have w2 := W.2.1
    have w3 := W.2.2.1
    have n10 := nC_le W
    have aT1 := aT_lt W
    have aS1 := aS_lt W
    have hn := nan_le (aS h) (2 ^ k)
    have cl := (cbL_le (h := h) (amo := aT h) (sets := nan (aS h) (2 ^ k)) (hT h)).1
    have hb : bitsOf (tiB h) k < 2 ^ k := bitsOf_lt _ _
    have e0 : jand ((2 ^ hS h - 1 : Nat) : Int) (jxor (jshl 1 (k : Int)) (-1)) = ((nan (aS h) (2 ^ k) : Nat) : Int) := brk_v (t := k) (v := aS h) (by omega) (by omega)
    have ih := x_ti4 hD W X C m (k + 1) (by omega)
    rw [L_X_ties_4, X.2.2.1, if_neg (by rw [le32_iff] <;> omega), c_allThings (by omega) W X, pbI_rI, c_allSets (by omega) W X, pbI_rI, e0, show ((2 ^ hT h - 1 : Nat) : Int) = (aT h : Int) from rfl, c_clumpsBy (by omega) W X (by omega) (by omega), pbI_rI, C.1, show ((k : Int) + 1) = ((k + 1 : Nat) : Int) by omega]
    have u : bitsOf (tiB h) (k + 1) = if tiB h k then bitsOf (tiB h) k ||| 2 ^ k else bitsOf (tiB h) k := rfl
    rw [u] at ih
    by_cases q : nC h < (cbL h (aT h) (nan (aS h) (2 ^ k)) (hT h)).1
    · rw [if_neg (by rw [le32_iff] <;> omega), jor_shl hb (by omega)]
      rw [if_pos (show tiB h k = true from decide_eq_true q)] at ih
      exact ih
    · rw [if_pos (by rw [le32_iff] <;> omega)]
      rw [if_neg (show ¬ tiB h k = true from fun z => q (of_decide_eq_true z))] at ih
      exact ih
theorem m_ti14 (hD : 2 ≤ D) (W : WF h) : ∀ (m k : Nat) (M : pM), k + m = hS h → gM gAll M → MH M h → ∃ M', xE D 227 14 [.inr 62, .inl (nC h : Int), .inl (bitsOf (tiB h) k : Nat), .inl (k : Int)] [] M = rI (bitsOf (tiB h) (hS h) : Nat) M'
  | 0, k, M, hk, hM, X => by
    have w3 := W.2.2.1
    have e : k = hS h := by omega
    rw [L_M_ties_14, X.2.2.1, if_pos (by rw [le32_iff] <;> omega), e]
    exact ⟨M, rfl⟩
  | m + 1, k, M, hk, hM, X => by
    have w2 := W.2.1
    have w3 := W.2.2.1
    have n10 := nC_le W
    have p10 := pow10 (t := k) (by omega)
    have cl := (cbL_le (h := h) (amo := aT h) (sets := nan (aS h) (2 ^ k)) (hT h)).1
    have hb : bitsOf (tiB h) k < 2 ^ k := bitsOf_lt _ _
    obtain ⟨N, u1, u0, u2, u3⟩ := m_fcN (d := D) (ns := 2 ^ k) (g := 0) (amo := aT h) (sets := nan (aS h) (2 ^ k)) (by omega) hM W X (by omega) (by decide) (ti_E h k) (hA W) (hB h)
    have XN : MH N h := by
      obtain ⟨x1, x2, x3, x4, x5, x6, x7⟩ := X
      exact ⟨by rw [u2 60 0 (by decide)]; exact x1, by rw [u2 60 3 (by decide)]; exact x2, by rw [u2 60 8 (by decide)]; exact x3, fun r hr => by rw [u2 61 r rfl]; exact x4 r hr, fun p hp => by rw [u2 62 p rfl]; exact x5 p hp, fun t ht => by rw [u2 63 t rfl, u2 64 t rfl, u2 65 t rfl, u2 66 t rfl]; exact x6 t ht, fun s hs => by rw [u2 67 s rfl]; exact x7 s hs⟩
    obtain ⟨M', ih⟩ := m_ti14 hD W m (k + 1) N (by omega) u0 XN
    rw [L_M_ties_14, X.2.2.1, if_neg (by rw [le32_iff] <;> omega), jshl_one k (by omega), show (.inl 0 : pV) = .inl ((0 : Nat) : Int) from rfl, u1, pbN_rV, u3, show ((k : Int) + 1) = ((k + 1 : Nat) : Int) by omega]
    refine ⟨M', ?_⟩
    have u : bitsOf (tiB h) (k + 1) = if tiB h k then bitsOf (tiB h) k ||| 2 ^ k else bitsOf (tiB h) k := rfl
    rw [u] at ih
    by_cases q : nC h < (cbL h (aT h) (nan (aS h) (2 ^ k)) (hT h)).1
    · rw [if_neg (by rw [le32_iff] <;> omega), ← jshl_one k (by omega), jor_shl hb (by omega)]
      rw [if_pos (show tiB h k = true from decide_eq_true q)] at ih
      exact ih
    · rw [if_pos (by rw [le32_iff] <;> omega)]
      rw [if_neg (show ¬ tiB h k = true from fun z => q (of_decide_eq_true z))] at ih
      have p2 : 2 ^ k < 1024 := p10
      have z := jor_nat (a := bitsOf (tiB h) k) (b := 0) (by omega) (by omega)
      rw [Nat.or_zero] at z
      rw [show jor ((bitsOf (tiB h) k : Nat) : Int) 0 = ((bitsOf (tiB h) k : Nat) : Int) from z]
      exact ih
theorem kc_ties (R : RI0 M) (C : CI M) (K : CK M) (R1 : RI0 M1) (e1 : xF 1000 20 [.inr 2] M = rI v M1) (f1 : Fr w1 M M1) (k1 : okW cm cmo w1 = true) (e2 : xF 1000 227 [.inr 62] M1 = rI y M2) : v = y := by
  obtain ⟨G, X, Y⟩ := C
  obtain ⟨W, -⟩ := ci_facts R X Y
  have CL1 := CK_G K X.1
  have t1 : xF (999 + 1) 20 [.inr 2] M = rI v M1 := e1
  have t2 : xF (999 + 1) 227 [.inr 62] M1 = rI y M2 := e2
  have Y1 := MG_thr (MG_Fr f1 k1 Y)
  obtain ⟨N, u1, u0, u2, u3, -⟩ := m_fcF (d := 999) (by omega) (gM_thr R1.1) W Y1.1
  have YN : MG N G := MG_Fr u2 (by decide) Y1
  have a := x_ti4 (D := 999) (by decide) W X.1 CL1 (hS G) 0 (by omega)
  obtain ⟨N2, b⟩ := m_ti14 (D := 999) (by decide) W (hS G) 0 N (by omega) u0 YN.1
  rw [T_X_ties] at t1
  rw [T_M_ties, u1, pbN_rV, u3] at t2
  rw [← (rI_inj (a.symm.trans t1)).1, ← (rI_inj (b.symm.trans t2)).1]
end CLC
end
section
/-! the walk over the arrangements, without a machine: codes, digits, what fits -/
section WKA
variable {R n : Nat} {sz bk : Nat → Int} {q q' : Nat → Nat}
end WKA
/-! the walk of the class: shift, next -/
section WKB
variable {R n D d : Nat} {sz bk : Nat → Int} {q q' : Nat → Nat} {M M' N : pM}
end WKB
/-! the walk from outside: is there room enough, the first one, the next one -/
section WKC
variable {R n D d : Nat} {sz bk : Nat → Int} {q q' : Nat → Nat} {M M' N : pM}
end WKC
/-! the walk begins: with some clumps -/
section WKD
variable {D d : Nat} {h M M' N : pM}
end WKD
/-! the clumps part the things; what fits for the reference fits for the class -/
section WKE
variable {sv : Nat → Nat} {S : Nat} {h M M' : pM}
end WKE
/-! the one with the greatest sum: choose -/
section WKF
variable {R n D d : Nat} {sz bk tb : Nat → Int} {M M' N : pM} {fine : Nat → Bool} {val : Nat → Int}
end WKF
/-! the reference's rows, seen as codes that fit; both walks begin -/
section WKG
variable {D d : Nat} {G h M M' N : pM}
end WKG
end
section
/-! fits: what it answers, on both sides -/
section FTS
variable {D d : Nat} {M M' M1 M2 G h : pM} {w1 : List (Nat × Nat)} {v y : Int} {fine : Nat → Bool} {val : Nat → Int}
end FTS
/-! together, may: what they answer, on both sides -/
section TGS
variable {D d R n : Nat} {M M' M1 M2 G h : pM} {w1 : List (Nat × Nat)} {v y : Int} {sz bk : Nat → Int}
end TGS
/-! may: what it answers, on both sides -/
section MAY
variable {D d R n : Nat} {M M' M1 M2 G h : pM} {w1 : List (Nat × Nat)} {v y : Int} {sz bk : Nat → Int}
end MAY
/-! the class chooses by the bulk in a room -/
section BBK
variable {D d R n : Nat} {M M' M1 M2 G h : pM} {w1 : List (Nat × Nat)} {v y : Int} {sz bk : Nat → Int}
end BBK
/-! fullest: what it answers, on both sides -/
section FUL
variable {D d R n : Nat} {M M' M1 M2 G h : pM} {w1 : List (Nat × Nat)} {v y : Int} {sz bk : Nat → Int} {fine : Nat → Bool} {val : Nat → Int}
end FUL
/-! space: what it answers, on both sides -/
section SPC
variable {D d R n : Nat} {M M' M1 M2 G h : pM} {w1 : List (Nat × Nat)} {v y : Int} {fine : Nat → Bool} {val : Nat → Int}
end SPC
/-! near, guest: the least to be carried, on both sides -/
section NEA
variable {D d R n : Nat} {M M' M1 M2 N G h : pM} {w1 : List (Nat × Nat)} {v y : Int} {sz : Nat → Int} {fine : Nat → Bool} {val : Nat → Int}
end NEA
/-! is there an arrangement at all: of some clumps, with other sizes -/
section EXA
variable {D d R n : Nat} {M M' M1 M2 G h N : pM} {w1 : List (Nat × Nat)} {v y : Int} {sz bk : Nat → Int} {q : Nat → Nat}
end EXA
/-! could: what it answers, on both sides -/
section COU
variable {D d R n : Nat} {M M' M1 M2 G h N : pM} {w1 : List (Nat × Nat)} {v y : Int} {sz bk : Nat → Int}
end COU
/-! build: what it answers, on both sides -/
section BLD
variable {D d R n : Nat} {M M' M1 M2 G h N : pM} {w1 : List (Nat × Nat)} {v y : Int} {sz bk : Nat → Int}
end BLD
/-! sell: the reference's rows when some clumps are sold -/
section SLD
variable {D d R n T C s code W : Nat} {M M' M1 M2 G h N : pM}
end SLD
/-! sell: what it answers, on both sides -/
section SEL
variable {D d : Nat} {M M' M1 M2 G h N : pM} {w1 : List (Nat × Nat)} {v y : Int}
end SEL
end
section
/-! which letter a sign is -/
section SIX
variable {D d : Nat} {M : pM}
end SIX
/-! a rule is read -/
section XRU
variable {tx : Nat → Int} {st d D : Nat} {M M' : pM} {lv : Int → Int}
end XRU
/-! rule: what it answers and what it keeps, on both sides -/
section RUL
variable {tx : Nat → Int} {st d D L : Nat} {M M' M1 M2 N : pM} {lv lv' : Int → Int} {w1 : List (Nat × Nat)} {v y : Int}
def X3 (M M' : pM) : Prop := ∀ o i, ¬ (o = 3 ∧ (i = 1 ∨ i = 2 ∨ i = 3)) → M' o i = M o i
end RUL
/-! the reader of the rule that is kept: as 78a and 85b (by program) -/
section YR
variable {tx : Nat → Int} {st d : Nat} {M : pM}
end YR
section YRU
variable {tx : Nat → Int} {st d D : Nat} {M M' : pM} {lv : Int → Int}
end YRU
/-! what a thing is worth in a room, on both sides -/
section WOR
variable {tx : Nat → Int} {d D L : Nat} {M M' M1 M2 N G : pM} {w1 w2 : List (Nat × Nat)} {v y : Int} {lv : Int → Int}
end WOR
/-! thing: what it answers, on both sides -/
section THI
variable {tx : Nat → Int} {d D L : Nat} {M M' M1 M2 N G : pM} {w1 : List (Nat × Nat)} {v y : Int}
end THI
/-! best: what it answers, on both sides -/
section BES
variable {tx : Nat → Int} {d D L : Nat} {M M' M1 M2 N G : pM} {w1 : List (Nat × Nat)} {v y : Int}
end BES
end
section
/-! queue: how many clumps are carried, on both sides -/
section QUA
variable {G : pM} {p q : Nat → Int}
end QUA
section QUM
variable {D d S T R C x1 : Nat} {sv : Nat → Nat} {M M' N G : pM} {p : Nat → Int} {v y : Int}
end QUM
/-! queue: one side's search -/
section QUX
variable {D d : Nat} {M M' M1 N G : pM} {p : Nat → Int} {v y : Int}
end QUX
section QUK
variable {D d : Nat} {M M' M1 M2 N G : pM} {p : Nat → Int} {w1 : List (Nat × Nat)} {v y : Int}
end QUK
/-! the list of the arrangements that are lawful, and what it costs between them -/
section LST
variable {D d : Nat} {M M' N G : pM} {p : Nat → Int} {f g : Nat → Nat} {v y : Int}
end LST
/-! what it costs from one of the list to another, on both sides -/
section CST
variable {D d : Nat} {M M' N G : pM} {p : Nat → Int} {f g : Nat → Nat} {v y : Int}
def c6 (G : pM) (t a b : Nat) : Int := if cst G t a b < 0 then 1000000 else cst G t a b
end CST
/-! the fewest evenings, on one side -/
section FEW
variable {D d : Nat} {M M' M1 N G : pM} {p : Nat → Int} {v y w : Int}
end FEW
/-! the list and its costs on the other side -/
section AIF
variable {D d : Nat} {M M' M1 N G : pM} {p : Nat → Int} {f g : Nat → Nat} {v y w : Int}
end AIF
/-! the fewest evenings on the other side; evenings joined -/
section EVF
variable {D d : Nat} {M M' M1 M2 N G : pM} {p : Nat → Int} {w1 : List (Nat × Nat)} {v y w : Int}
end EVF
/-! evenings: what it answers, on both sides -/
section EVJ
variable {D d : Nat} {M M' M1 M2 N G : pM} {p : Nat → Int} {w1 : List (Nat × Nat)} {v y w : Int}
end EVJ
/-! the least strength, on one side -/
section WEK
variable {D d : Nat} {M M' M1 N G : pM} {p : Nat → Int} {v y w : Int}
end WEK
/-! the least strength, on one side: the search -/
section WEL
variable {D d : Nat} {M M' M1 N N0 G : pM} {p : Nat → Int} {v y w : Int}
end WEL
/-! the least strength, on one side: to its end; what is answered -/
section WEM
variable {D d : Nat} {M M' M1 N N0 G : pM} {p : Nat → Int} {v y w : Int}
end WEM
/-! the least strength on the other side; weakest joined -/
section WEO
variable {D d : Nat} {M M' M1 M2 N G : pM} {p : Nat → Int} {w1 : List (Nat × Nat)} {v y w : Int}
end WEO
end
