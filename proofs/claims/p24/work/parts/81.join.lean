section
/-! what both sides hold stays the same -/
def CI (M : pM) : Prop := ∃ G, XG M G ∧ MG M G
section CIS
variable {M M1 M2 G : pM} {w1 w2 : List (Nat × Nat)} {v y : Int}
theorem ci_Fr {w : List (Nat × Nat)} (f : Fr w M M1) (h1 : okW cx cxo w = true) (h2 : okW cm cmo w = true) (C : CI M) : CI M1 := by
  obtain ⟨G, X, Y⟩ := C
  exact ⟨G, XG_Fr f h1 X, MG_Fr f h2 Y⟩
theorem ci_facts (R : RI0 M) (X : XG M G) (Y : MG M G) : WF G ∧ (0 ≤ G 9 0 ∧ G 9 0 ≤ 20) ∧ (∀ k : Nat, (k : Int) < G 9 0 → 0 ≤ G 10 k ∧ G 10 k ≤ 9) ∧ ∀ i, i < 2 → 0 ≤ G 13 i ∧ G 13 i ≤ 1 := by
  have b33 := gm_i R.1 60 33 (lo := 0) (hi := 20) (by decide +kernel) (by decide +kernel)
  rw [Y.2.2.1.1] at b33
  refine ⟨WF_MH R.1 R.2.2.1 Y.1, b33, fun k hk => ?_, fun i hi => ?_⟩
  · rw [← (Y.2.2.1.2 k hk).1]
    exact gR0 (by rw [← (g75 k (by omega)).1]; exact R.1 75 (3 * k) (p75 (by omega)).1)
  · have := (X.2.2.2 i hi).1
    rw [← this]
    rcases (show i = 0 ∨ i = 1 by omega) with rfl | rfl
    · exact gm_i R.1 44 1 (lo := 0) (hi := 1) (by decide +kernel) (by decide +kernel)
    · exact gm_i R.1 46 1 (lo := 0) (hi := 1) (by decide +kernel) (by decide +kernel)
theorem kc_widen (R : RI0 M) (C : CI M) {a1 a2 a3 : Int} (h1 : -2147483648 ≤ a1 ∧ a1 ≤ 2147483647) (h2 : -2147483648 ≤ a2 ∧ a2 ≤ 2147483647) (h3 : -2147483648 ≤ a3 ∧ a3 ≤ 2147483647) (e1 : xF 1000 8 [.inr 2, .inl a1, .inl a2, .inl a3] M = rI v M1) (f1 : Fr w1 M M1) (k1 : okW cm cmo w1 = true) (e2 : xF 1000 204 [.inr 62, .inl a1, .inl a2, .inl a3] M1 = rI y M2) (f2 : Fr w2 M1 M2) (k2 : okW cx cxo w2 = true) : v = y ∧ CI M2 := by
  obtain ⟨G, X, Y⟩ := C
  obtain ⟨W, -⟩ := ci_facts R X Y
  obtain ⟨p1, p2⟩ := x_widen (d := 1000) (by decide) W X h1 h2 h3 e1
  obtain ⟨q1, q2⟩ := m_widen (d := 1000) (by decide) W (MG_Fr f1 k1 Y) h1 h2 h3 e2
  by_cases q : wdC G a1 a2 a3
  · exact ⟨by rw [(p1 q).1, (q1 q).1], _, XG_Fr f2 k2 (p1 q).2, (q1 q).2⟩
  · exact ⟨by rw [(p2 q).1, (q2 q).1], _, XG_Fr f2 k2 (p2 q).2, (q2 q).2⟩
theorem kc_sheet (R : RI0 M) (C : CI M) {a1 a2 a3 a4 : Int} (h1 : -2147483648 ≤ a1 ∧ a1 ≤ 2147483647) (h2 : -2147483648 ≤ a2 ∧ a2 ≤ 2147483647) (e1 : xF 1000 10 [.inr 2, .inl a1, .inl a2, .inl a3, .inl a4] M = rI v M1) (f1 : Fr w1 M M1) (k1 : okW cm cmo w1 = true) (e2 : xF 1000 206 [.inr 62, .inl a1, .inl a2, .inl a3, .inl a4] M1 = rI y M2) (f2 : Fr w2 M1 M2) (k2 : okW cx cxo w2 = true) : v = y ∧ CI M2 := by
  obtain ⟨G, X, Y⟩ := C
  obtain ⟨W, -⟩ := ci_facts R X Y
  obtain ⟨p1, p2⟩ := xg_sheet (d := 1000) (by decide) W X h1 h2 e1
  obtain ⟨q1, q2⟩ := mg_sheet (d := 1000) (by decide) W (MG_Fr f1 k1 Y) h1 h2 e2
  exact ⟨by rw [p1, q1], _, XG_Fr f2 k2 p2, q2⟩
theorem kc_breaks (R : RI0 M) (C : CI M) (R1 : RI0 M1) {a1 : Int} (h1 : -2147483648 ≤ a1 ∧ a1 ≤ 2147483647) (e1 : xF 1000 19 [.inr 2, .inl a1] M = rI v M1) (f1 : Fr w1 M M1) (k1 : okW cm cmo w1 = true) (e2 : xF 1000 226 [.inr 62, .inl a1] M1 = rI y M2) (f2 : Fr w2 M1 M2) (k2 : okW cx cxo w2 = true) : CI M2 := by
  obtain ⟨G, X, Y⟩ := C
  obtain ⟨W, -⟩ := ci_facts R X Y
  obtain ⟨p1, p2⟩ := xg_breaks (d := 1000) (by decide) W R.1 X h1 e1
  obtain ⟨q1, q2⟩ := mg_breaks (d := 1000) (by decide) W R1.1 (MG_Fr f1 k1 Y) h1 e2
  by_cases q : 0 ≤ a1 ∧ a1 < hT G
  · exact ⟨_, XG_Fr f2 k2 (p1 q), q1 q⟩
  · exact ⟨_, XG_Fr f2 k2 (p2 q).2, (q2 q).2⟩
theorem kc_carry (R : RI0 M) (C : CI M) {a1 a2 : Int} (h1 : -2147483648 ≤ a1 ∧ a1 ≤ 2147483647) (h2 : -2147483648 ≤ a2 ∧ a2 ≤ 2147483647) (e1 : xF 1000 11 [.inr 2, .inl a1, .inl a2] M = rI v M1) (f1 : Fr w1 M M1) (k1 : okW cm cmo w1 = true) (e2 : xF 1000 216 [.inr 62, .inl a1, .inl a2] M1 = rI y M2) (f2 : Fr w2 M1 M2) (k2 : okW cx cxo w2 = true) : v = y ∧ CI M2 := by
  obtain ⟨G, X, Y⟩ := C
  obtain ⟨W, hn, -⟩ := ci_facts R X Y
  obtain ⟨p0, p1, p2⟩ := xg_carry (d := 1000) (by decide) W X hn h1 h2 e1
  obtain ⟨q0, q1, q2⟩ := mg_carry (d := 1000) (by decide) W (MG_Fr f1 k1 Y) hn h1 h2 e2
  by_cases q : 0 ≤ attF G (G 6) (G 8 1) a1 a2
  · exact ⟨by rw [p0, q0], _, XG_Fr f2 k2 (p1 q), q1 q⟩
  · exact ⟨by rw [p0, q0], _, XG_Fr f2 k2 (p2 (by omega)), q2 (by omega)⟩
theorem kc_evening (R : RI0 M) (C : CI M) (e1 : xF 1000 12 [.inr 2] M = rI v M1) (f1 : Fr w1 M M1) (k1 : okW cm cmo w1 = true) (e2 : xF 1000 218 [.inr 62] M1 = rI y M2) (f2 : Fr w2 M1 M2) (k2 : okW cx cxo w2 = true) : v = y ∧ CI M2 := by
  obtain ⟨G, X, Y⟩ := C
  obtain ⟨W, -⟩ := ci_facts R X Y
  obtain ⟨p1, p2⟩ := xg_evening (d := 1000) (by decide) W X e1
  obtain ⟨q1, q2⟩ := mg_evening (d := 1000) (by decide) W (MG_Fr f1 k1 Y) e2
  by_cases q : lwf G (G 6)
  · exact ⟨by rw [(p1 q).1, (q1 q).1], _, XG_Fr f2 k2 (p1 q).2, (q1 q).2⟩
  · exact ⟨by rw [(p2 q).1, (q2 q).1], _, XG_Fr f2 k2 (p2 q).2, (q2 q).2⟩
theorem kc_undo (R : RI0 M) (C : CI M) (e1 : xF 1000 14 [.inr 2] M = rI v M1) (f1 : Fr w1 M M1) (k1 : okW cm cmo w1 = true) (e2 : xF 1000 220 [.inr 62] M1 = rI y M2) (f2 : Fr w2 M1 M2) (k2 : okW cx cxo w2 = true) : v = y ∧ CI M2 := by
  obtain ⟨G, X, Y⟩ := C
  obtain ⟨W, hn, hu, -⟩ := ci_facts R X Y
  obtain ⟨p1, p2⟩ := xg_undo (d := 1000) (by decide) W X hn hu e1
  obtain ⟨q1, q2⟩ := mg_undo (d := 1000) (by decide) (MG_Fr f1 k1 Y) hn hu e2
  by_cases q : G 9 0 = 0
  · exact ⟨by rw [(p2 q).1, (q2 q).1], _, XG_Fr f2 k2 (p2 q).2, (q2 q).2⟩
  · exact ⟨by rw [(p1 q).1, (q1 q).1], _, XG_Fr f2 k2 (p1 q).2, (q1 q).2⟩
theorem kc_judge (R : RI0 M) (C : CI M) {a1 a2 : Int} (h1 : -2147483648 ≤ a1 ∧ a1 ≤ 2147483647) (e1 : xF 1000 15 [.inr 2, .inl a1, .inl a2] M = rI v M1) (f1 : Fr w1 M M1) (k1 : okW cm cmo w1 = true) (k3 : okW cx cxo w1 = true) (e2 : xF 1000 221 [.inr 62, .inl a1, .inl a2] M1 = rI y M2) (f2 : Fr w2 M1 M2) (k2 : okW cx cxo w2 = true) : v = y ∧ CI M2 := by
  obtain ⟨G, X, Y⟩ := C
  obtain ⟨W, -⟩ := ci_facts R X Y
  have p1 := xg_judge (d := 1000) (by decide) W X h1 e1
  obtain ⟨q1, q2⟩ := mg_judge (d := 1000) (by decide) W (MG_Fr f1 k1 Y) h1 e2
  exact ⟨by rw [p1, q1], _, XG_Fr f2 k2 (XG_Fr f1 k3 X), q2⟩
theorem kc_hinge (R : RI0 M) (C : CI M) {a1 : Int} (h1 : -2147483648 ≤ a1 ∧ a1 ≤ 2147483647) (e1 : xF 1000 37 [.inr 2, .inl a1] M = rI v M1) (f1 : Fr w1 M M1) (k1 : okW cm cmo w1 = true) (e2 : xF 1000 254 [.inr 62, .inl a1] M1 = rI y M2) (f2 : Fr w2 M1 M2) (k2 : okW cx cxo w2 = true) : v = y ∧ CI M2 := by
  obtain ⟨G, X, Y⟩ := C
  obtain ⟨W, -⟩ := ci_facts R X Y
  obtain ⟨p1, p2⟩ := xg_hinge (d := 1000) (by decide) W X h1 e1
  obtain ⟨q1, q2⟩ := mg_hinge (d := 1000) (by decide) W (MG_Fr f1 k1 Y) h1 e2
  exact ⟨by rw [p1, q1], _, XG_Fr f2 k2 p2, q2⟩
theorem kc_keep (R : RI0 M) (C : CI M) {a1 : Int} (h1 : -2147483648 ≤ a1 ∧ a1 ≤ 2147483647) (e1 : xF 1000 43 [.inr 2, .inl a1] M = rI v M1) (f1 : Fr w1 M M1) (k1 : okW cm cmo w1 = true) (e2 : xF 1000 266 [.inr 62, .inl a1] M1 = rI y M2) (f2 : Fr w2 M1 M2) (k2 : okW cx cxo w2 = true) : CI M2 := by
  obtain ⟨G, X, Y⟩ := C
  obtain ⟨W, -⟩ := ci_facts R X Y
  obtain ⟨p1, p2⟩ := xg_keep (d := 1000) (by decide) W X h1.1 h1.2 e1
  obtain ⟨q1, q2⟩ := mg_keep (d := 1000) (by decide) W (MG_Fr f1 k1 Y) h1.1 h1.2 e2
  by_cases q : 0 ≤ a1 ∧ a1 ≤ 1
  · exact ⟨_, XG_Fr f2 k2 (p1 q), q1 q⟩
  · exact ⟨_, XG_Fr f2 k2 (p2 q), q2 q⟩
theorem kc_again (R : RI0 M) (C : CI M) (R1 : RI0 M1) {a1 : Int} (h1 : -2147483648 ≤ a1 ∧ a1 ≤ 2147483647) (e1 : xF 1000 44 [.inr 2, .inl a1] M = rI v M1) (f1 : Fr w1 M M1) (k1 : okW cm cmo w1 = true) (e2 : xF 1000 267 [.inr 62, .inl a1] M1 = rI y M2) (f2 : Fr w2 M1 M2) (k2 : okW cx cxo w2 = true) : v = y ∧ CI M2 := by
  obtain ⟨G, X, Y⟩ := C
  obtain ⟨W, -, -, hk⟩ := ci_facts R X Y
  obtain ⟨p1, p2⟩ := xg_again (d := 1000) (by decide) W R.1 X h1.1 h1.2 e1
  obtain ⟨q1, q2⟩ := mg_again (d := 1000) (by decide) W R1 (MG_Fr f1 k1 Y) hk h1.1 h1.2 e2
  by_cases q : agC G a1
  · exact ⟨by rw [(p1 q).1, (q1 q).1], _, XG_Fr f2 k2 (p1 q).2, (q1 q).2⟩
  · exact ⟨by rw [(p2 q).1, (q2 q).1], _, XG_Fr f2 k2 (p2 q).2, (q2 q).2⟩
/-- the texts are the same -/
def TI (M : pM) : Prop := M 1 1 = M 60 14 ∧ ∀ i, i < 80 → M 2 i = ux (M 68 i)
theorem kc_house (R : RI0 M) (C : CI M) (T : TI M) (R1 : RI0 M1) (e1 : xF 1000 2 [.inr 2] M = rI v M1) (f1 : Fr w1 M M1) (k1 : okW cm cmo w1 = true) (k3 : w1.all (fun q => decide (q.1 ≠ 0 ∧ (q.1 < 40 ∨ 47 < q.1))) = true) (k5 : wOK w1 60 14 = false) (k6 : ∀ i, wOK w1 68 i = false) (e2 : xF 1000 184 [.inr 62] M1 = rI y M2) (f2 : Fr w2 M1 M2) (k2 : okW cx cxo w2 = true) : v = y ∧ CI M2 ∧ M1 60 0 ≤ M2 60 0 := by
  obtain ⟨G, X, Y⟩ := C
  obtain ⟨W, -⟩ := ci_facts R X Y
  have b0 := gm_i R.1 1 1 (lo := 0) (hi := 80) (by decide +kernel) (by decide +kernel)
  obtain ⟨L, hL⟩ := natI b0.1
  have htx : ∀ i, i < 80 → -128 ≤ M 68 i ∧ M 68 i ≤ 127 := fun i hi => gm_r R.1 (o := 68) (lo := -128) (hi := 127) (by decide +kernel) (by decide +kernel) (show i < 80 from hi)
  obtain ⟨p0, p1, p2⟩ := xg_house (tx := fun i => M 68 i) (L := L) (d := 1000) (by decide) W R.1 X hL T.2 htx e1 (fun o i hc n1 n2 => f1 o i (by
    cases z : wOK w1 o i with
    | false => rfl
    | true =>
      obtain ⟨r, hr, h2⟩ := List.any_eq_true.mp z
      rw [Bool.and_eq_true] at h2
      have e := Nat.eq_of_beq_eq_true h2.1
      have k := of_decide_eq_true (List.all_eq_true.mp k3 r hr)
      rw [e] at k
      exfalso
      unfold cx at hc
      simp only [Bool.or_eq_true, Bool.and_eq_true, Nat.beq_eq, Nat.ble_eq] at hc
      omega))
  obtain ⟨q0, q1, q2, q3⟩ := mg_house (tx := fun i => M 68 i) (L := L) (d := 1000) (by decide) W R1.1 (MG_Fr f1 k1 Y) (by rw [f1 60 14 k5, ← T.1]; exact hL) (fun i _ => f1 68 i (k6 i)) e2
  by_cases q : hsN (fun i => M 68 i) L G
  · exact ⟨by rw [p0, q0], ⟨_, XG_Fr f2 k2 (p1 q), q1 q⟩, q3⟩
  · exact ⟨by rw [p0, q0], ⟨_, XG_Fr f2 k2 (p2 q), q2 q⟩, q3⟩
theorem kc_day (R : RI0 M) (C : CI M) (T : TI M) (e1 : xF 1000 13 [.inr 2] M = rI v M1) (f1 : Fr w1 M M1) (k1 : okW cm cmo w1 = true) (k5 : wOK w1 60 14 = false) (k6 : ∀ i, wOK w1 68 i = false) (e2 : xF 1000 219 [.inr 62] M1 = rI y M2) (f2 : Fr w2 M1 M2) (k2 : okW cx cxo w2 = true) : v = y ∧ CI M2 := by
  obtain ⟨G, X, Y⟩ := C
  obtain ⟨W, hn, -⟩ := ci_facts R X Y
  have b0 := gm_i R.1 1 1 (lo := 0) (hi := 80) (by decide +kernel) (by decide +kernel)
  obtain ⟨L, hL⟩ := natI b0.1
  have htx : ∀ i, i < 80 → -128 ≤ M 68 i ∧ M 68 i ≤ 127 := fun i hi => gm_r R.1 (o := 68) (lo := -128) (hi := 127) (by decide +kernel) (by decide +kernel) (show i < 80 from hi)
  obtain ⟨p1, p2⟩ := xg_day (tx := fun i => M 68 i) (L := L) (d := 1000) (by decide) W X hn (by omega) hL T.2 htx e1
  obtain ⟨q1, q2⟩ := mg_day (tx := fun i => M 68 i) (L := L) (d := 1000) (by decide) W (MG_Fr f1 k1 Y) hn (by omega) (by rw [f1 60 14 k5, ← T.1]; exact hL) (fun i _ => f1 68 i (k6 i)) htx e2
  by_cases q : dyF (fun i => M 68 i) L = -1
  · obtain ⟨r0, r1, r2⟩ := p2 q
    obtain ⟨s0, s1, s2⟩ := q2 q
    by_cases z : (dyRun (fun i => M 68 i) ((L + 1) / 4) 0 G).1 = (L + 1) / 4 ∧ lwf (dyRun (fun i => M 68 i) ((L + 1) / 4) 0 G).2 ((dyRun (fun i => M 68 i) ((L + 1) / 4) 0 G).2 6)
    · exact ⟨by rw [r0, s0], _, XG_Fr f2 k2 (r1 z), s1 z⟩
    · exact ⟨by rw [r0, s0], _, XG_Fr f2 k2 (r2 z), s2 z⟩
  · exact ⟨by rw [(p1 q).1, (q1 q).1], _, XG_Fr f2 k2 (p1 q).2, (q1 q).2⟩
/-! strength -/
def gStr (G : pM) (v : Int) : pM := fun o i => if o = 8 ∧ i = 2 then v else G o i
theorem kc_strength (C : CI M) (f1 : Fr [(0, 17)] M M1) (f2 : Fr [(60, 12), (60, 17)] M1 M2) (e : M1 0 17 = M2 60 12) : CI M2 := by
  obtain ⟨G, X, Y⟩ := C
  have e17 : M2 0 17 = M2 60 12 := by rw [f2 0 17 (by decide)]; exact e
  have eM : ∀ o i, ¬ (o = 0 ∧ i = 17) → ¬ (o = 60 ∧ (i = 12 ∨ i = 17)) → M2 o i = M o i := fun o i a b => by
    rw [f2 o i, f1 o i]
    · cases z : wOK [(0, 17)] o i with
      | false => rfl
      | true =>
        obtain ⟨r, hr, h2⟩ := List.any_eq_true.mp z
        rw [Bool.and_eq_true, Bool.or_eq_true] at h2
        rw [List.mem_singleton.mp hr] at h2
        rcases h2.2 with y | y
        · exact absurd ⟨(Nat.eq_of_beq_eq_true h2.1).symm, (Nat.eq_of_beq_eq_true y).symm⟩ a
        · exact absurd y (by decide)
    · cases z : wOK [(60, 12), (60, 17)] o i with
      | false => rfl
      | true =>
        obtain ⟨r, hr, h2⟩ := List.any_eq_true.mp z
        rw [Bool.and_eq_true, Bool.or_eq_true] at h2
        simp only [List.mem_cons, List.not_mem_nil, or_false] at hr
        rcases hr with rfl | rfl
        · rcases h2.2 with y | y
          · exact absurd ⟨(Nat.eq_of_beq_eq_true h2.1).symm, Or.inl (Nat.eq_of_beq_eq_true y).symm⟩ b
          · exact absurd y (by decide)
        · rcases h2.2 with y | y
          · exact absurd ⟨(Nat.eq_of_beq_eq_true h2.1).symm, Or.inr (Nat.eq_of_beq_eq_true y).symm⟩ b
          · exact absurd y (by decide)
  have g : ∀ o i, o ≠ 8 → gStr G (M2 60 12) o i = G o i := fun o i h => if_neg (fun z => h z.1)
  refine ⟨gStr G (M2 60 12), ?_, ?_⟩
  · obtain ⟨H, ⟨d1, d2, d3⟩, ⟨p1, p2⟩, k⟩ := X
    refine ⟨XH_cg (fun o i ho => g o i (by omega)) (XH_eq H (fun o i a b c => eM o i (by omega) (by omega))), ⟨?_, ?_, ?_⟩, ⟨?_, fun j hj => ?_⟩, fun i hi => ?_⟩
    · rw [eM 0 15 (by omega) (by omega)]; exact d1
    · rw [eM 0 16 (by omega) (by omega)]; exact d2
    · rw [e17]; exact (if_pos ⟨rfl, rfl⟩).symm
    · rw [eM 39 3 (by omega) (by omega)]; exact p1
    · rw [eM 40 j (by omega) (by omega), eM 41 j (by omega) (by omega), eM 42 j (by omega) (by omega)]; exact p2 j hj
    · have a : ∀ j, M2 (44 + 2 * i) j = M (44 + 2 * i) j := fun j => eM _ j (by omega) (by omega)
      have b : ∀ j, M2 (45 + 2 * i) j = M (45 + 2 * i) j := fun j => eM _ j (by omega) (by omega)
      have g16 : ∀ j, gStr G (M2 60 12) (16 + i) j = G (16 + i) j := fun j => g _ j (by omega)
      simp only [a, b, g16, g 13 i (by decide), g 14 i (by decide), g 15 i (by decide), g 18 i (by decide), g 19 i (by decide)]
      exact k i hi
  · obtain ⟨H, ⟨d1, d2, d3⟩, ⟨p1, p2⟩, k⟩ := Y
    refine ⟨MH_cg (fun o i ho => g o i (by omega)) ?_, ⟨?_, ?_, (if_pos ⟨rfl, rfl⟩).symm⟩, ⟨?_, fun j hj => ?_⟩, fun i hi => ?_⟩
    · obtain ⟨x1, x2, x3, x4, x5, x6, x7⟩ := H
      exact ⟨by rw [eM 60 0 (by omega) (by omega)]; exact x1, by rw [eM 60 3 (by omega) (by omega)]; exact x2, by rw [eM 60 8 (by omega) (by omega)]; exact x3, fun r hr => by rw [eM 61 r (by omega) (by omega)]; exact x4 r hr, fun p hp => by rw [eM 62 p (by omega) (by omega)]; exact x5 p hp, fun t ht => by rw [eM 63 t (by omega) (by omega), eM 64 t (by omega) (by omega), eM 65 t (by omega) (by omega), eM 66 t (by omega) (by omega)]; exact x6 t ht, fun s hs => by rw [eM 67 s (by omega) (by omega)]; exact x7 s hs⟩
    · rw [eM 60 10 (by omega) (by omega)]; exact d1
    · rw [eM 60 11 (by omega) (by omega)]; exact d2
    · rw [eM 60 33 (by omega) (by omega)]; exact p1
    · rw [eM 75 _ (by omega) (by omega), eM 75 _ (by omega) (by omega), eM 75 _ (by omega) (by omega)]; exact p2 j hj
    · have a : ∀ j, M2 87 j = M 87 j := fun j => eM 87 j (by omega) (by omega)
      have b : ∀ j, M2 88 j = M 88 j := fun j => eM 88 j (by omega) (by omega)
      have c : ∀ j, M2 89 j = M 89 j := fun j => eM 89 j (by omega) (by omega)
      have g16 : ∀ j, gStr G (M2 60 12) (16 + i) j = G (16 + i) j := fun j => g _ j (by omega)
      simp only [a, b, c, eM 60 52 (by omega) (by omega), g16, g 13 i (by decide), g 14 i (by decide), g 15 i (by decide), g 18 i (by decide), g 19 i (by decide)]
      exact k i hi
end CIS
/-! what the small questions are answered: room, set, door -/
section ASK
variable {D d : Nat} {M M' G : pM}
end ASK
/-! the texts and the aim stay the same on both sides -/
def cw (o i : Nat) : Bool := (Nat.beq o 1 && Nat.beq i 1) || Nat.beq o 2 || (Nat.beq o 60 && Nat.beq i 14) || Nat.beq o 68
def cwo (o : Nat) : Bool := Nat.beq o 1 || Nat.beq o 2 || Nat.beq o 60 || Nat.beq o 68
theorem cw_o (o i : Nat) (h : cw o i = true) : cwo o = true := by
  unfold cw at h
  unfold cwo
  simp only [Bool.or_eq_true, Bool.and_eq_true] at h ⊢
  rcases h with ((h | h) | h) | h
  · exact Or.inl (Or.inl (Or.inl h.1))
  · exact Or.inl (Or.inl (Or.inr h))
  · exact Or.inl (Or.inr h.1)
  · exact Or.inr h
def cl (o i : Nat) : Bool := Nat.beq o 2 || Nat.beq o 68
theorem cl_o (o i : Nat) (h : cl o i = true) : (Nat.beq o 2 || Nat.beq o 68) = true := h
/-- the aim is the same, and it is one of rooms that are there -/
def GA (M : pM) : Prop := (M 0 14 = 0 ∧ M 60 44 = 0) ∨ (0 < M 0 14 ∧ M 60 44 = 1 ∧ M 60 43 = M 0 14 ∧ ∀ t : Nat, (t : Int) < M 0 14 → M 58 t = M 81 t ∧ 0 ≤ M 58 t ∧ M 58 t < M 60 0)
def cg (o i : Nat) : Bool := (Nat.beq o 0 && Nat.beq i 14) || Nat.beq o 58 || (Nat.beq o 60 && (Nat.beq i 43 || Nat.beq i 44)) || Nat.beq o 81
def cgo (o : Nat) : Bool := Nat.beq o 0 || Nat.beq o 58 || Nat.beq o 60 || Nat.beq o 81
theorem cg_o (o i : Nat) (h : cg o i = true) : cgo o = true := by
  unfold cg at h
  unfold cgo
  simp only [Bool.or_eq_true, Bool.and_eq_true] at h ⊢
  rcases h with ((h | h) | h) | h
  · exact Or.inl (Or.inl (Or.inl h.1))
  · exact Or.inl (Or.inl (Or.inr h))
  · exact Or.inl (Or.inr h.1)
  · exact Or.inr h
section TXS
variable {M M1 M2 : pM} {w w1 w2 : List (Nat × Nat)} {v y : Int}
theorem TI_Fr (f : Fr w M M1) (h : okW cw cwo w = true) (T : TI M) : TI M1 := by
  have e : ∀ o i, cw o i = true → M1 o i = M o i := fun o i q => f o i (okW_no cw_o h q)
  exact ⟨by rw [e 1 1 rfl, e 60 14 rfl]; exact T.1, fun i hi => by rw [e 2 i rfl, e 68 i rfl]; exact T.2 i hi⟩
theorem TI_0 (T : TI M) (f1 : Fr w1 M M1) (h1 : okW cl (fun o => Nat.beq o 2 || Nat.beq o 68) w1 = true) (k1 : M1 1 1 = 0) (f2 : Fr w2 M1 M2) (h2 : okW cl (fun o => Nat.beq o 2 || Nat.beq o 68) w2 = true) (h3 : wOK w2 1 1 = false) (k2 : M2 60 14 = 0) : TI M2 := by
  have e1 : ∀ o i, cl o i = true → M1 o i = M o i := fun o i q => f1 o i (okW_no cl_o h1 q)
  have e2 : ∀ o i, cl o i = true → M2 o i = M1 o i := fun o i q => f2 o i (okW_no cl_o h2 q)
  exact ⟨by rw [f2 1 1 h3, k1, k2], fun i hi => by rw [e2 2 i rfl, e1 2 i rfl, e2 68 i rfl, e1 68 i rfl]; exact T.2 i hi⟩
theorem GA_Fr (f : Fr w M M1) (h : okW cg cgo w = true) (h0 : M 60 0 ≤ M1 60 0) (A : GA M) : GA M1 := by
  have e : ∀ o i, cg o i = true → M1 o i = M o i := fun o i q => f o i (okW_no cg_o h q)
  unfold GA at A ⊢
  rw [e 0 14 rfl, e 60 43 rfl, e 60 44 rfl]
  rcases A with A | ⟨a1, a2, a3, a4⟩
  · exact Or.inl A
  · refine Or.inr ⟨a1, a2, a3, fun t ht => ?_⟩
    obtain ⟨b1, b2, b3⟩ := a4 t ht
    rw [e 58 t rfl, e 81 t rfl]
    exact ⟨b1, b2, by omega⟩
theorem ge_of (f : Fr w M M1) (h : wOK w 60 0 = false) : M 60 0 ≤ M1 60 0 := by rw [f 60 0 h]; exact Int.le_refl _
theorem kc_sign (R : RI0 M) (T : TI M) {a1 : Int} (e1 : xF 1000 0 [.inr 2, .inl a1] M = rI v M1) (f1 : Fr w1 M M1) (k5 : wOK w1 60 14 = false) (k6 : ∀ i, wOK w1 68 i = false) (e2 : xF 1000 175 [.inr 62, .inl a1] M1 = rI y M2) (f2 : Fr w2 M1 M2) (k1 : wOK w2 1 1 = false) (k2 : ∀ i, wOK w2 2 i = false) : v = y ∧ TI M2 := by
  have b0 := gm_i R.1 1 1 (lo := 0) (hi := 80) (by decide +kernel) (by decide +kernel)
  obtain ⟨L, hL⟩ := natI b0.1
  have t1 := c_sign (d := 1000) (by decide) hL (by omega) (b := a1)
  have hL2 : M1 60 14 = (L : Int) := by rw [f1 60 14 k5, ← T.1]; exact hL
  have t2 := m_sign (d := 1000) (by decide) hL2 (by omega) (b := a1)
  rw [e1] at t1
  rw [e2] at t2
  by_cases q : L + 4 ≤ 80
  · rw [if_pos q] at t1 t2
    refine ⟨by rw [(rI_inj t1).1, (rI_inj t2).1], ?_, fun i hi => ?_⟩
    · rw [f2 1 1 k1, (rI_inj t1).2, (rI_inj t2).2, tapp_len (by decide), tapp_len (by decide)]
    · have m2 : M2 2 i = M1 2 i := f2 2 i (k2 i)
      have m68 : M1 68 i = M 68 i := f1 68 i (k6 i)
      rw [m2, (rI_inj t1).2, (rI_inj t2).2]
      unfold tapp
      by_cases z : L ≤ i ∧ i < L + 4
      · rw [if_pos ⟨rfl, z⟩, if_pos ⟨rfl, z⟩]; exact sg_ux a1 (i - L) (by omega)
      · rw [if_neg (fun y => z y.2), if_neg (fun y => absurd y.1 (by decide)), if_neg (fun y => z y.2), if_neg (fun y => absurd y.1 (by decide)), pset_ne (show 68 ≠ 60 by decide), m68]
        exact T.2 i hi
  · rw [if_neg q] at t1 t2
    refine ⟨by rw [(rI_inj t1).1, (rI_inj t2).1], ?_, fun i hi => ?_⟩
    · rw [f2 1 1 k1, (rI_inj t2).2, pset_ne2 (show 14 ≠ 17 by decide), hL2, (rI_inj t1).2, hL]
    · have m2 : M2 2 i = M1 2 i := f2 2 i (k2 i)
      have m68 : M1 68 i = M 68 i := f1 68 i (k6 i)
      rw [m2, (rI_inj t2).2, pset_ne (show 68 ≠ 60 by decide), m68, (rI_inj t1).2]
      exact T.2 i hi
theorem kc_end (R : RI0 M) (T : TI M) {a1 : Int} (h1 : -2147483648 ≤ a1 ∧ a1 ≤ 2147483647) (e1 : xF 1000 1 [.inr 2, .inl a1] M = rI v M1) (f1 : Fr w1 M M1) (k5 : wOK w1 60 14 = false) (e2 : xF 1000 176 [.inr 62, .inl a1] M1 = rI y M2) (f2 : Fr w2 M1 M2) (k1 : wOK w2 1 1 = false) (l1 : okW cl (fun o => Nat.beq o 2 || Nat.beq o 68) w1 = true) (l2 : okW cl (fun o => Nat.beq o 2 || Nat.beq o 68) w2 = true) : v = y ∧ TI M2 := by
  have b0 := gm_i R.1 1 1 (lo := 0) (hi := 80) (by decide +kernel) (by decide +kernel)
  have k60 : M1 60 14 = M 1 1 := by rw [f1 60 14 k5]; exact T.1.symm
  have g1 : ∀ o i, cl o i = true → M1 o i = M o i := fun o i q => f1 o i (okW_no cl_o l1 q)
  have g2 : ∀ o i, cl o i = true → M2 o i = M1 o i := fun o i q => f2 o i (okW_no cl_o l2 q)
  have lt : ∀ i, i < 80 → M2 2 i = ux (M2 68 i) := fun i hi => by rw [g2 2 i rfl, g1 2 i rfl, g2 68 i rfl, g1 68 i rfl]; exact T.2 i hi
  have t1 : xF (999 + 1) 1 [.inr 2, .inl a1] M = rI v M1 := e1
  have t2 : xF (999 + 1) 176 [.inr 62, .inl a1] M1 = rI y M2 := e2
  rw [T_X_end, x_cut (by decide) h1.1 (by omega) R.1] at t1
  rw [T_M_end, m_in (by decide), pbI_rI, pset_ne2 (show 14 ≠ 17 by decide), k60] at t2
  by_cases q : 0 ≤ a1 ∧ a1 ≤ M 1 1
  · rw [if_pos q, pbI_rI, if_pos (Or.inr rfl)] at t1
    have hz : ¬ (lt32 a1 0 ∨ lt32 (M 1 1) a1) := by
      rw [lt32_iff (by omega) (by omega) (by omega) (by omega), lt32_iff (by omega) (by omega) (by omega) (by omega)]
      omega
    rw [if_neg hz, if_pos (by decide)] at t2
    exact ⟨by rw [← (rI_inj t1).1, ← (rI_inj t2).1], by rw [f2 1 1 k1, ← (rI_inj t1).2, ← (rI_inj t2).2, pset_eq, pset_eq], lt⟩
  · rw [if_neg q, pbI_rI, if_pos (Or.inl rfl)] at t1
    have hz : lt32 a1 0 ∨ lt32 (M 1 1) a1 := by
      rw [lt32_iff (by omega) (by omega) (by omega) (by omega), lt32_iff (by omega) (by omega) (by omega) (by omega)]
      omega
    rw [if_pos hz, if_neg (fun z => z rfl)] at t2
    exact ⟨by rw [← (rI_inj t1).1, ← (rI_inj t2).1], by rw [f2 1 1 k1, ← (rI_inj t2).2, pset_ne2 (show 14 ≠ 17 by decide), k60, ← (rI_inj t1).2], lt⟩
theorem amA_pos {tx : Nat → Int} {L T R : Nat} (hR : R ≤ 6) (h : 0 < amA tx L T R) : L ≠ 0 ∧ amA tx L T R = (L : Int) ∧ ∀ i, i < L → 48 ≤ tx i ∧ tx i ≤ (R : Int) + 47 := by
  by_cases q : L = 0
  · have u : amA tx L T R = 0 := if_pos q
    rw [u] at h; omega
  · have u : amA tx L T R = match amS tx (min L T) R T with
      | .inl p => -1 - (p : Int)
      | .inr _ => if L ≤ T then (L : Int) else -1 - (T : Int) := if_neg q
    cases z : amS tx (min L T) R T with
    | inl p =>
      rw [z] at u
      have u : amA tx L T R = -1 - (p : Int) := u
      omega
    | inr a =>
      rw [z] at u
      have u : amA tx L T R = if L ≤ T then (L : Int) else -1 - (T : Int) := u
      by_cases q2 : L ≤ T
      · rw [if_pos q2] at u
        refine ⟨q, u, fun i hi => ?_⟩
        have := (amS_inr hR T a z).2 i (by omega)
        unfold hc at this
        rw [if_pos (by omega)] at this; exact this
      · rw [if_neg q2] at u; omega
theorem kc_aim (R : RI0 M) (C : CI M) (T : TI M) (A : GA M) (e1 : xF 1000 38 [.inr 2] M = rI v M1) (f1 : Fr [(0, 14), (1, 1), (3, 1), (3, 2), (3, 3), (58, 999)] M M1) (e2 : xF 1000 255 [.inr 62] M1 = rI y M2) (f2 : Fr [(60, 14), (60, 17), (60, 43), (60, 44), (81, 999)] M1 M2) : v = y ∧ GA M2 ∧ M1 1 1 = 0 ∧ M2 60 14 = 0 := by
  obtain ⟨G, X, Y⟩ := C
  obtain ⟨W, -⟩ := ci_facts R X Y
  have b0 := gm_i R.1 1 1 (lo := 0) (hi := 80) (by decide +kernel) (by decide +kernel)
  obtain ⟨L, hL⟩ := natI b0.1
  have htx : ∀ i, i < 80 → -128 ≤ M 68 i ∧ M 68 i ≤ 127 := fun i hi => gm_r R.1 (o := 68) (lo := -128) (hi := 127) (by decide +kernel) (by decide +kernel) (show i < 80 from hi)
  obtain ⟨N1, t1, k1, a1, -⟩ := x_aim (tx := fun i => M 68 i) (R := hR G) (T := hT G) (L := L) (M := M) (d := 1000) (by decide) W.1 W.2.1 (by omega) X.1.1 X.1.2.1 hL T.2 htx
  obtain ⟨rfl, rfl⟩ := rI_inj (e1.symm.trans t1)
  have Y0 : M1 60 0 = (hR G : Int) := by rw [f1 60 0 (by decide)]; exact Y.1.1
  obtain ⟨N2, t2, k2, a2, -⟩ := m_aim (tx := fun i => M 68 i) (R := hR G) (T := hT G) (L := L) (M := M1) (d := 1000) (by decide) W.1 W.2.1 (by omega) Y0 (by rw [f1 60 3 (by decide)]; exact Y.1.2.1) (by rw [f1 60 14 (by decide), ← T.1]; exact hL) (fun i _ => f1 68 i (wOK_no (by decide) i)) htx
  obtain ⟨rfl, rfl⟩ := rI_inj (e2.symm.trans t2)
  refine ⟨rfl, ?_, k1, k2⟩
  have c14 : M2 0 14 = M1 0 14 := f2 0 14 (by decide)
  have c58 : ∀ t, M2 58 t = M1 58 t := fun t => f2 58 t (wOK_no (by decide) t)
  have c0 : M2 60 0 = (hR G : Int) := by rw [f2 60 0 (by decide)]; exact Y0
  have d0 : M 60 0 = (hR G : Int) := Y.1.1
  unfold amX at a1
  unfold amM at a2
  by_cases q : 0 < amA (fun i => M 68 i) L (hT G) (hR G)
  · rw [if_pos q] at a1 a2
    obtain ⟨l1, l2, l3⟩ := amA_pos W.1 q
    refine Or.inr ⟨by rw [c14, a1.1]; omega, a2.2.1, by rw [a2.1, c14, a1.1], fun t ht => ?_⟩
    rw [c14, a1.1] at ht
    have l4 := l3 t (by omega)
    have l4 : 48 ≤ M 68 t ∧ M 68 t ≤ (hR G : Int) + 47 := l4
    rw [c58, a1.2 t (by omega), a2.2.2 t (by omega), c0]
    show M 68 t - 48 = M 68 t - 48 ∧ 0 ≤ M 68 t - 48 ∧ M 68 t - 48 < (hR G : Int)
    exact ⟨rfl, by omega, by omega⟩
  · rw [if_neg q] at a1 a2
    by_cases q2 : L = 0
    · rw [if_pos q2] at a1 a2
      exact Or.inl ⟨by rw [c14]; exact a1, a2⟩
    · rw [if_neg q2] at a1 a2
      have m44 : M1 60 44 = M 60 44 := f1 60 44 (by decide)
      have m43 : M1 60 43 = M 60 43 := f1 60 43 (by decide)
      have m81 : ∀ t, M1 81 t = M 81 t := fun t => f1 81 t (wOK_no (by decide) t)
      unfold GA at A ⊢
      rw [c14, a1.1, a2.1, a2.2.1, m44, m43]
      rcases A with A | ⟨b1, b2, b3, b4⟩
      · exact Or.inl A
      · refine Or.inr ⟨b1, b2, b3, fun t ht => ?_⟩
        have := b4 t ht
        rw [c58, a1.2 t, a2.2.2 t, m81, c0]
        exact ⟨this.1, this.2.1, by omega⟩
end TXS
/-! way, widest, stuck: what they answer, on both sides -/
section WYS
variable {D d : Nat} {M M' G : pM} {w : Int}
end WYS
/-! what it costs to come to another arrangement, on both sides: swap, apart -/
section CTO
variable {D d : Nat} {M M' N G h : pM} {p q : Nat → Int}
end CTO
/-! swap: what it answers, on both sides -/
section SWP
variable {D d : Nat} {M M' N G h : pM} {p q : Nat → Int}
end SWP
/-! apart: what it answers, on both sides -/
section APT
variable {D d : Nat} {M M' N G h : pM} {p q : Nat → Int}
end APT
end
section
/-! the class's sets and clumps -/
theorem me_lt {h : pM} (W : WF h) {s : Nat} (hs : s < hS h) : me h s < 1024 := Nat.lt_of_lt_of_le (W.2.2.2.2.2.2.2.2 s hs) (pow_le_of W.2.1)
/-- sets of a thing; sets that have none of some things -/
def sOf (h : pM) (t : Nat) : Nat := bitsOf (fun s => (me h s).testBit t) (hS h)
theorem sOf_lt {h : pM} (t : Nat) : sOf h t < 2 ^ hS h := bitsOf_lt _ _
section ST
variable {h M : pM} {d : Nat}
theorem c_setsOf (hd : 2 ≤ d) (W : WF h) (X : XH M h) {t : Nat} (ht : t < 32) : xF d 93 [.inr 9, .inl (t : Int)] M = rI (sOf h t) M := by
  obtain ⟨D, rfl, hD⟩ := dsucc hd
  have w3 := W.2.2.1
  rw [T_House_setsOf]
  have key := bits_loop (fun b k => xE D 93 4 [.inr 9, .inl (t : Int), .inl b, .inl k] [] M) (hS h) (fun s => (me h s).testBit t) (fun k b hk hb => by
    have hm := me_lt W hk
    rw [L_House_setsOf_4, X.2.2.1, if_neg (by rw [le32_iff] <;> omega), if_pos (by omega), Int.toNat_natCast, X.2.2.2.2.2.2 k hk, c_has hD (by omega) ht, pbI_rI, ite01]
    cases (me h k).testBit t with
    | false => rfl
    | true => simp only [if_true]; rw [jor_shl hb (by omega)])
  rw [key, L_House_setsOf_4, X.2.2.1, if_pos (by rw [le32_iff] <;> omega)]
  rfl
/-- what hangs on something: one look at the sets, some looks -/
def hngI (h : pM) (amo sets seen : Nat) : Nat → Nat
  | 0 => seen
  | k + 1 => if sets.testBit k = true ∧ me h k &&& hngI h amo sets seen k ≠ 0 then hngI h amo sets seen k ||| (me h k &&& amo) else hngI h amo sets seen k
def hng (h : pM) (amo sets seen : Nat) : Nat → Nat
  | 0 => seen
  | n + 1 => hngI h amo sets (hng h amo sets seen n) (hS h)
/-- how many clumps some things make by some sets -/
def cbL (h : pM) (amo sets : Nat) : Nat → Nat × Nat
  | 0 => (0, amo)
  | k + 1 => if (cbL h amo sets k).2.testBit k then ((cbL h amo sets k).1 + 1, nan (cbL h amo sets k).2 (hng h amo sets (2 ^ k) (hS h))) else cbL h amo sets k
end ST
/-! the class's clumps: hang -/
def aT (h : pM) : Nat := 2 ^ hT h - 1
def aS (h : pM) : Nat := 2 ^ hS h - 1
/-- the walk over the things: how many clumps so far, what is left; the clump that thing k begins -/
def cgA (h : pM) (k : Nat) : Nat × Nat := cbL h (aT h) (aS h) k
def cgM (h : pM) (k : Nat) : Nat := hng h (aT h) (aS h) (2 ^ k) (hS h)
def own (h : pM) : Nat → Nat → Nat
  | 0, _ => 0
  | k + 1, t => if (cgA h k).2.testBit k = true ∧ (cgM h k).testBit t = true then (cgA h k).1 else own h k t
section HG
variable {h M : pM} {d : Nat}
end HG
/-! what is asked of the clumps that stand -/
section OC
variable {h M : pM} {d : Nat}
end OC
/-! what hangs together: both sides find the same -/
section SMC
variable {sv : Nat → Nat} {ns g S b : Nat} {h M : pM}
theorem hE (h : pM) : ∀ k, k < hS h → (aS h).testBit k = !(0 : Nat).testBit k := fun k hk => by
  unfold aS
  rw [Nat.testBit_two_pow_sub_one, decide_eq_true hk, Nat.zero_testBit]; rfl
theorem hA (W : WF h) : ∀ k, k < hS h → me h k &&& aT h = nan (me h k) 0 := fun k hk => by
  refine Nat.eq_of_testBit_eq fun i => ?_
  unfold aT
  rw [Nat.testBit_and, nan_bit, Nat.testBit_two_pow_sub_one, Nat.zero_testBit]
  cases e : (me h k).testBit i with
  | false => rfl
  | true => rw [decide_eq_true (bit_lt (W.2.2.2.2.2.2.2.2 k hk) e)]; rfl
theorem hB (h : pM) : ∀ t, t < hT h → (aT h).testBit t = !(0 : Nat).testBit t := fun t ht => by
  unfold aT
  rw [Nat.testBit_two_pow_sub_one, decide_eq_true ht, Nat.zero_testBit]; rfl
end SMC
/-! the class's clumps are those of its sets, whatever is called -/
section CKS
variable {D d L : Nat} {M M' M1 M2 G h h' : pM} {w w1 w2 : List (Nat × Nat)} {v y : Int} {tx : Nat → Int}
def cc (o i : Nat) : Bool := (Nat.beq o 7 && (Nat.beq i 10 || Nat.beq i 11 || Nat.beq i 12)) || (Nat.ble 14 o && Nat.ble o 16)
end CKS
/-! clumps, heaviest, without, breaks, ties: what they answer, on both sides -/
section CLC
variable {D d : Nat} {M M' M1 M2 G h : pM} {w1 w2 : List (Nat × Nat)} {v y : Int}
end CLC
end
section
/-! the walk over the arrangements, without a machine: codes, digits, what fits -/
section WKA
variable {R n : Nat} {sz bk : Nat → Int} {q q' : Nat → Nat}
end WKA
/-! the walk of the class: shift, next -/
section WKB
variable {R n D d : Nat} {sz bk : Nat → Int} {q q' : Nat → Nat} {M M' N : pM}
end WKB
/-! the walk from outside: is there room enough, the first one, the next one -/
section WKC
variable {R n D d : Nat} {sz bk : Nat → Int} {q q' : Nat → Nat} {M M' N : pM}
end WKC
/-! the walk begins: with some clumps -/
section WKD
variable {D d : Nat} {h M M' N : pM}
end WKD
/-! the clumps part the things; what fits for the reference fits for the class -/
section WKE
variable {sv : Nat → Nat} {S : Nat} {h M M' : pM}
end WKE
/-! the one with the greatest sum: choose -/
section WKF
variable {R n D d : Nat} {sz bk tb : Nat → Int} {M M' N : pM} {fine : Nat → Bool} {val : Nat → Int}
end WKF
/-! the reference's rows, seen as codes that fit; both walks begin -/
section WKG
variable {D d : Nat} {G h M M' N : pM}
def MHc (M M' : pM) : Prop := ∀ o i, (60 ≤ o ∧ o ≤ 67) → ¬ (o = 60 ∧ i ≠ 0 ∧ i ≠ 3 ∧ i ≠ 8) → M' o i = M o i
theorem MH_c (e : MHc M M') (X : MH M G) : MH M' G := by
  obtain ⟨x1, x2, x3, x4, x5, x6, x7⟩ := X
  exact ⟨by rw [e 60 0 (by omega) (by omega)]; exact x1, by rw [e 60 3 (by omega) (by omega)]; exact x2, by rw [e 60 8 (by omega) (by omega)]; exact x3, fun r hr => by rw [e 61 r (by omega) (by omega)]; exact x4 r hr, fun p hp => by rw [e 62 p (by omega) (by omega)]; exact x5 p hp, fun t ht => by rw [e 63 t (by omega) (by omega), e 64 t (by omega) (by omega), e 65 t (by omega) (by omega), e 66 t (by omega) (by omega)]; exact x6 t ht, fun s hs => by rw [e 67 s (by omega) (by omega)]; exact x7 s hs⟩
end WKG
end
section
/-! fits: what it answers, on both sides -/
section FTS
variable {D d : Nat} {M M' M1 M2 G h : pM} {w1 : List (Nat × Nat)} {v y : Int} {fine : Nat → Bool} {val : Nat → Int}
end FTS
/-! together, may: what they answer, on both sides -/
section TGS
variable {D d R n : Nat} {M M' M1 M2 G h : pM} {w1 : List (Nat × Nat)} {v y : Int} {sz bk : Nat → Int}
end TGS
/-! may: what it answers, on both sides -/
section MAY
variable {D d R n : Nat} {M M' M1 M2 G h : pM} {w1 : List (Nat × Nat)} {v y : Int} {sz bk : Nat → Int}
end MAY
/-! the class chooses by the bulk in a room -/
section BBK
variable {D d R n : Nat} {M M' M1 M2 G h : pM} {w1 : List (Nat × Nat)} {v y : Int} {sz bk : Nat → Int}
end BBK
/-! fullest: what it answers, on both sides -/
section FUL
variable {D d R n : Nat} {M M' M1 M2 G h : pM} {w1 : List (Nat × Nat)} {v y : Int} {sz bk : Nat → Int} {fine : Nat → Bool} {val : Nat → Int}
end FUL
/-! space: what it answers, on both sides -/
section SPC
variable {D d R n : Nat} {M M' M1 M2 G h : pM} {w1 : List (Nat × Nat)} {v y : Int} {fine : Nat → Bool} {val : Nat → Int}
end SPC
/-! near, guest: the least to be carried, on both sides -/
section NEA
variable {D d R n : Nat} {M M' M1 M2 N G h : pM} {w1 : List (Nat × Nat)} {v y : Int} {sz : Nat → Int} {fine : Nat → Bool} {val : Nat → Int}
end NEA
/-! is there an arrangement at all: of some clumps, with other sizes -/
section EXA
variable {D d R n : Nat} {M M' M1 M2 G h N : pM} {w1 : List (Nat × Nat)} {v y : Int} {sz bk : Nat → Int} {q : Nat → Nat}
end EXA
/-! could: what it answers, on both sides -/
section COU
variable {D d R n : Nat} {M M' M1 M2 G h N : pM} {w1 : List (Nat × Nat)} {v y : Int} {sz bk : Nat → Int}
end COU
/-! build: what it answers, on both sides -/
section BLD
variable {D d R n : Nat} {M M' M1 M2 G h N : pM} {w1 : List (Nat × Nat)} {v y : Int} {sz bk : Nat → Int}
end BLD
/-! sell: the reference's rows when some clumps are sold -/
section SLD
variable {D d R n T C s code W : Nat} {M M' M1 M2 G h N : pM}
end SLD
/-! sell: what it answers, on both sides -/
section SEL
variable {D d : Nat} {M M' M1 M2 G h N : pM} {w1 : List (Nat × Nat)} {v y : Int}
end SEL
end
section
/-! which letter a sign is -/
def ixc (c : Int) : Int := if c = 105 then 0 else if c = 98 then 1 else if c = 119 then 2 else if c = 103 then 3 else if c = 107 then 4 else if c = 114 then 5 else if c = 122 then 6 else if c = 100 then 7 else if c = 104 then 8 else -1
theorem ixc_L (c : Int) : (isL c = true ∧ 0 ≤ ixc c ∧ ixc c ≤ 8) ∨ (isL c = false ∧ ixc c = -1) := by
  unfold ixc isL
  by_cases h0 : c = 105
  · subst h0; exact Or.inl (by decide)
  by_cases h1 : c = 98
  · subst h1; exact Or.inl (by decide)
  by_cases h2 : c = 119
  · subst h2; exact Or.inl (by decide)
  by_cases h3 : c = 103
  · subst h3; exact Or.inl (by decide)
  by_cases h4 : c = 107
  · subst h4; exact Or.inl (by decide)
  by_cases h5 : c = 114
  · subst h5; exact Or.inl (by decide)
  by_cases h6 : c = 122
  · subst h6; exact Or.inl (by decide)
  by_cases h7 : c = 100
  · subst h7; exact Or.inl (by decide)
  by_cases h8 : c = 104
  · subst h8; exact Or.inl (by decide)
  refine Or.inr ⟨decide_eq_false (by omega), ?_⟩
  rw [if_neg h0, if_neg h1, if_neg h2, if_neg h3, if_neg h4, if_neg h5, if_neg h6, if_neg h7, if_neg h8]
theorem ixc_hi {c : Int} (h : 128 ≤ c ∨ c < 0) : ixc c = -1 := by
  unfold ixc
  rw [if_neg (by omega), if_neg (by omega), if_neg (by omega), if_neg (by omega), if_neg (by omega), if_neg (by omega), if_neg (by omega), if_neg (by omega), if_neg (by omega)]
theorem jc_dec : ((List.range 256).all fun n => decide (jc (n : Int) = (n : Int))) = true := by decide +kernel
theorem jb_dec : ((List.range 256).all fun n => decide (jb (n : Int) = if n < 128 then (n : Int) else (n : Int) - 256)) = true := by decide +kernel
theorem sby_dec : ((List.range 9).all fun n => decide (-128 ≤ (sbyt.getD n 0).toInt ∧ (sbyt.getD n 0).toInt ≤ 127)) = true := by decide +kernel
section SIX
variable {D d : Nat} {M : pM}
theorem s_ixS {x1 x2 y : Int} {i : Nat} (hi : i < 9) (hy : -128 ≤ y ∧ y ≤ 127) : xE D 279 5 [.inr 94, .inl x1, .inl x2, .inl 9, .inl y, .inl (i : Int)] [] M = if y = (sbyt.getD i 0).toInt then rI (i : Int) M else xE D 279 5 [.inr 94, .inl x1, .inl x2, .inl 9, .inl y, .inl ((i + 1 : Nat) : Int)] [] M := by
  have b := of_decide_eq_true (List.all_eq_true.mp sby_dec i (List.mem_range.mpr hi))
  rw [L_L_indexOfChar_5, if_neg (by rw [le32_iff] <;> omega), if_pos (by omega), Int.toNat_natCast, show ((i : Int) + 1) = ((i + 1 : Nat) : Int) by omega]
  by_cases z : y = (sbyt.getD i 0).toInt
  · rw [if_pos z, if_neg (fun w => w (by rw [z]))]
  · rw [if_neg z, if_pos (by rw [eq32_iff] <;> omega)]
theorem s_ix (hd : 8 ≤ d) {v : Int} (hv : 0 ≤ v ∧ v ≤ 255) : xF d 272 [.inr 93, .inl (jc v)] M = rI (ixc v) M := by
  obtain ⟨n, rfl⟩ := natI hv.1
  have ec : jc (n : Int) = (n : Int) := of_decide_eq_true (List.all_eq_true.mp jc_dec n (List.mem_range.mpr (by omega)))
  have eb : jb (n : Int) = if n < 128 then (n : Int) else (n : Int) - 256 := of_decide_eq_true (List.all_eq_true.mp jb_dec n (List.mem_range.mpr (by omega)))
  obtain ⟨D1, rfl, h1⟩ := dsucc hd
  obtain ⟨D2, rfl, h2⟩ := dsucc (show 1 ≤ D1 by omega)
  obtain ⟨D3, rfl, h3⟩ := dsucc (show 1 ≤ D2 by omega)
  obtain ⟨D4, rfl, h4⟩ := dsucc (show 1 ≤ D3 by omega)
  have by' : -128 ≤ jb (n : Int) ∧ jb (n : Int) ≤ 127 := by
    rw [eb]
    split <;> omega
  have key : ∀ D, xE D 279 5 [.inr 94, .inl (n : Int), .inl 0, .inl 9, .inl (jb (n : Int)), .inl ((0 : Nat) : Int)] [] M = rI (ixc (n : Int)) M := fun D => by
    have e9 : xE D 279 5 [.inr 94, .inl (n : Int), .inl 0, .inl 9, .inl (jb (n : Int)), .inl ((8 + 1 : Nat) : Int)] [] M = rI (-1) M := by
      rw [L_L_indexOfChar_5, if_pos (by decide)]
    rw [s_ixS (by decide) by', s_ixS (by decide) by', s_ixS (by decide) by', s_ixS (by decide) by', s_ixS (by decide) by', s_ixS (by decide) by', s_ixS (by decide) by', s_ixS (by decide) by', s_ixS (by decide) by', e9]
    rw [show (sbyt.getD 0 0).toInt = 105 by decide, show (sbyt.getD (0 + 1) 0).toInt = 98 by decide, show (sbyt.getD (0 + 1 + 1) 0).toInt = 119 by decide, show (sbyt.getD (0 + 1 + 1 + 1) 0).toInt = 103 by decide, show (sbyt.getD (0 + 1 + 1 + 1 + 1) 0).toInt = 107 by decide, show (sbyt.getD (0 + 1 + 1 + 1 + 1 + 1) 0).toInt = 114 by decide, show (sbyt.getD (0 + 1 + 1 + 1 + 1 + 1 + 1) 0).toInt = 122 by decide, show (sbyt.getD (0 + 1 + 1 + 1 + 1 + 1 + 1 + 1) 0).toInt = 100 by decide, show (sbyt.getD (0 + 1 + 1 + 1 + 1 + 1 + 1 + 1 + 1) 0).toInt = 104 by decide]
    by_cases q : n < 128
    · rw [if_pos q] at eb
      rw [eb]
      unfold ixc
      by_cases k0 : (n : Int) = 105
      · rw [if_pos k0, if_pos k0]; rfl
      rw [if_neg k0, if_neg k0]
      by_cases k1 : (n : Int) = 98
      · rw [if_pos k1, if_pos k1]; rfl
      rw [if_neg k1, if_neg k1]
      by_cases k2 : (n : Int) = 119
      · rw [if_pos k2, if_pos k2]; rfl
      rw [if_neg k2, if_neg k2]
      by_cases k3 : (n : Int) = 103
      · rw [if_pos k3, if_pos k3]; rfl
      rw [if_neg k3, if_neg k3]
      by_cases k4 : (n : Int) = 107
      · rw [if_pos k4, if_pos k4]; rfl
      rw [if_neg k4, if_neg k4]
      by_cases k5 : (n : Int) = 114
      · rw [if_pos k5, if_pos k5]; rfl
      rw [if_neg k5, if_neg k5]
      by_cases k6 : (n : Int) = 122
      · rw [if_pos k6, if_pos k6]; rfl
      rw [if_neg k6, if_neg k6]
      by_cases k7 : (n : Int) = 100
      · rw [if_pos k7, if_pos k7]; rfl
      rw [if_neg k7, if_neg k7]
      by_cases k8 : (n : Int) = 104
      · rw [if_pos k8, if_pos k8]; rfl
      rw [if_neg k8, if_neg k8]
    · rw [if_neg q] at eb
      rw [eb, ixc_hi (Or.inl (by omega)), if_neg (by omega), if_neg (by omega), if_neg (by omega), if_neg (by omega), if_neg (by omega), if_neg (by omega), if_neg (by omega), if_neg (by omega), if_neg (by omega)]
  obtain ⟨D5, rfl, h5⟩ := dsucc (show 1 ≤ D4 by omega)
  rw [ec, T_S_indexOf, T_S_indexOf2, T_S_isLatin1, if_neg (by decide), if_neg (by decide), pbI_rI, if_neg (by decide), T_S_length, T_S_coder, if_neg (by decide), pbI_rI, pbI_rI, show jshr 9 0 = 9 by decide, T_L_indexOf, T_L_canEncode, if_neg (by rw [lt32_iff] <;> omega), if_neg (by rw [lt32_iff] <;> omega), pbI_rI, if_pos (by decide), show jmax 0 0 = 0 by decide, show jmin 9 9 = 9 by decide, if_pos (by decide), T_L_indexOfChar]
  have k := key (D5 + 1)
  have k : xE (D5 + 1) 279 5 [.inr 94, .inl (n : Int), .inl 0, .inl 9, .inl (jb (n : Int)), .inl 0] [] M = rI (ixc (n : Int)) M := k
  rw [k, pbI_rI, pbI_rI, pbI_rI]
end SIX
/-! a rule is read -/
section XRU
variable {tx : Nat → Int} {st d D : Nat} {M M' : pM} {lv : Int → Int}
theorem x_dig1 (hd : 3 ≤ d) {a : Nat} (h : XSt tx st M (.inr a)) (g : 48 ≤ hc tx st a ∧ hc tx st a ≤ 57) : ∃ M', xF d 139 [.inr 5, .inl 0, .inl 10] M = rI (hc tx st a - 48) M' ∧ XSt tx st M' (.inr (a + 1)) ∧ AGx M M' := by
  obtain ⟨v, M1, e1, r1, a1, -, i1, -⟩ := x_digit hd h (lo := 0) (hi := 9) (by decide) (by decide) (by decide) (by decide)
  have g1 : sgD tx st 0 9 (.inr a) = .inr (a + 1) := if_pos ⟨g.1, g.2, by omega, by omega⟩
  have g2 : sgV tx st 0 9 (.inr a) = hc tx st a - 48 := if_pos ⟨g.1, g.2, by omega, by omega⟩
  rw [g1] at r1
  have hv := i1 (a + 1) g1
  rw [g2] at hv
  have e1' : xF d 139 [.inr 5, .inl 0, .inl 10] M = rI v M1 := e1
  exact ⟨M1, by rw [e1', hv], r1, a1⟩
theorem x_nS (hD : 3 ≤ D) {a k : Nat} (hk : k < 3) (h : XSt tx st M (.inr a)) (g : 48 ≤ hc tx st a ∧ hc tx st a ≤ 57) (x2 : Int) : ∃ M', xE D 151 4 [.inr 29, .inr 5, .inl x2, .inl (k : Int)] [] M = xE D 151 4 [.inr 29, .inr 5, .inl (x2 * 10 + (hc tx st a - 48)), .inl ((k + 1 : Nat) : Int)] [] M' ∧ XSt tx st M' (.inr (a + 1)) ∧ AGx M M' := by
  obtain ⟨M1, e1, r1, a1⟩ := x_dig1 hD h g
  refine ⟨M1, ?_, r1, a1⟩
  rw [L_Rule_number_3_4, if_neg (by rw [le32_iff] <;> omega), x_seesG (by omega) h, pbI_rI, if_pos g, if_neg (by decide), e1, pbI_rI, show ((k : Int) + 1) = ((k + 1 : Nat) : Int) by omega]
theorem x_nT (hD : 3 ≤ D) {a k : Nat} (hk : k ≤ 3) (h : XSt tx st M (.inr a)) (g : k = 3 ∨ ¬ (48 ≤ hc tx st a ∧ hc tx st a ≤ 57)) (x2 : Int) : xE D 151 4 [.inr 29, .inr 5, .inl x2, .inl (k : Int)] [] M = rI x2 M := by
  by_cases z : k = 3
  · rw [L_Rule_number_3_4, if_pos (by rw [le32_iff] <;> omega)]
  · rw [L_Rule_number_3_4, if_neg (by rw [le32_iff] <;> omega), x_seesG (by omega) h, pbI_rI, if_neg (g.resolve_left z), if_pos (by decide)]
theorem x_num (hd : 4 ≤ d) {a : Nat} (h : XSt tx st M (.inr a)) (g : 48 ≤ hc tx st a ∧ hc tx st a ≤ 57) : ∃ M', xF d 151 [.inr 29, .inr 5] M = rI (ndV tx st a) M' ∧ XSt tx st M' (.inr (a + ndS tx st a)) ∧ AGx M M' := by
  obtain ⟨D, rfl, hD⟩ := dsucc hd
  obtain ⟨M1, e1, r1, a1⟩ := x_nS (D := D) hD (k := 0) (by decide) h g 0
  rw [T_Rule_number_3, show (.inl 0 : pV) = .inl ((0 : Nat) : Int) from rfl]
  have e1 : xE D 151 4 [.inr 29, .inr 5, .inl ((0 : Nat) : Int), .inl ((0 : Nat) : Int)] [] M = xE D 151 4 [.inr 29, .inr 5, .inl (0 * 10 + (hc tx st a - 48)), .inl ((0 + 1 : Nat) : Int)] [] M1 := e1
  rw [e1]
  unfold ndS ndV
  by_cases g1 : 48 ≤ hc tx st (a + 1) ∧ hc tx st (a + 1) ≤ 57
  · obtain ⟨M2, e2, r2, a2⟩ := x_nS (D := D) hD (k := 0 + 1) (by decide) r1 g1 (0 * 10 + (hc tx st a - 48))
    rw [if_pos g1, if_pos g1, e2]
    by_cases g2 : 48 ≤ hc tx st (a + 2) ∧ hc tx st (a + 2) ≤ 57
    · obtain ⟨M3, e3, r3, a3⟩ := x_nS (D := D) hD (k := 0 + 1 + 1) (by decide) r2 g2 ((0 * 10 + (hc tx st a - 48)) * 10 + (hc tx st (a + 1) - 48))
      rw [if_pos g2, if_pos g2, e3, x_nT hD (by decide) r3 (Or.inl rfl)]
      refine ⟨M3, ?_, r3, AGx_tr a1 (AGx_tr a2 a3)⟩
      exact congrArg (fun z => rI z M3) (by rw [show a + 1 + 1 = a + 2 from rfl]; omega)
    · rw [if_neg g2, if_neg g2, x_nT hD (by decide) r2 (Or.inr g2)]
      exact ⟨M2, congrArg (fun z => rI z M2) (by omega), r2, AGx_tr a1 a2⟩
  · rw [if_neg g1, if_neg g1, x_nT hD (by decide) r1 (Or.inr g1)]
    exact ⟨M1, congrArg (fun z => rI z M1) (by omega), r1, a1⟩
def Xout (tx : Nat → Int) (st : Nat) (M : pM) (r : Option pR) (p : rgs × Int) : Prop := ∃ M', r = rI p.2 M' ∧ XSt tx st M' p.1 ∧ AGx M M'
theorem Xout_tr {r : Option pR} {p : rgs × Int} (e : AGx M M') (h : Xout tx st M' r p) : Xout tx st M r p := by
  obtain ⟨N, h1, h2, h3⟩ := h
  exact ⟨N, h1, h2, AGx_tr e h3⟩
/-- the letters' values -/
def XHv (lv : Int → Int) (M : pM) : Prop := ∀ c, isL c = true → M 31 (ixc c).toNat = lv c
theorem XHv_ag (h : XHv lv M) (e : AGx M M') : XHv lv M' := fun c hl => by rw [e 31 _ (by omega)]; exact h c hl
def XPn (n : Nat) : rgs → Prop
  | .inl _ => n ≤ 40
  | .inr a => n ≤ a
theorem XSt_le {a : Nat} (h : XSt tx st M (.inr a)) : a ≤ st := h.2.2.2.2.2.2.2.1
def XRP (tx : Nat → Int) (st : Nat) (lv : Int → Int) (f : Nat) : Prop := ∀ (b : Nat) (s : rgs) (M : pM) (d : Nat), b ≤ 4 → XSt tx st M s → XHv lv M →
  (rmu st 0 s < f → rmu st 0 s + 14 ≤ d → Xout tx st M (xF d 146 [.inr 29, .inr 5, .inl (b : Int)] M) (rp tx st lv f 0 b 0 s)) ∧
  (rmu st 1 s < f → rmu st 1 s + 14 ≤ d → Xout tx st M (xF d 147 [.inr 29, .inr 5, .inl (b : Int)] M) (rp tx st lv f 1 b 0 s)) ∧
  (rmu st 2 s < f → rmu st 2 s + 14 ≤ d → Xout tx st M (xF d 148 [.inr 29, .inr 5, .inl (b : Int)] M) (rp tx st lv f 2 b 0 s)) ∧
  (rmu st 3 s < f → rmu st 3 s + 13 ≤ d → ∀ (n : Nat) (fl : Int), (fl = 0 ∨ fl = 1) → XPn n s → Xout tx st M (xE d 149 4 [.inr 29, .inr 5, .inl (b : Int), .inl fl, .inl (n : Int)] [] M) ((rp tx st lv f 3 b 0 s).1, if fl = 0 then (rp tx st lv f 3 b 0 s).2 else -(rp tx st lv f 3 b 0 s).2)) ∧
  (rmu st 4 s < f → rmu st 4 s + 14 ≤ d → ∀ (x : Int) (n : Nat) (y5 y6 : pV), XPn n s → Xout tx st M (xE d 147 7 [.inr 29, .inr 5, .inl (b : Int), .inl x, .inl (n : Int), y5, y6] [] M) (rp tx st lv f 4 b x s)) ∧
  (rmu st 5 s < f → rmu st 5 s + 14 ≤ d → ∀ (x : Int) (n : Nat) (y5 y6 : pV), XPn n s → Xout tx st M (xE d 148 7 [.inr 29, .inr 5, .inl (b : Int), .inl x, .inl (n : Int), y5, y6] [] M) (rp tx st lv f 5 b x s))
theorem XP_all (h40 : st ≤ 40) : ∀ f, XRP tx st lv f
  | 0 => fun b s M d _ _ _ => ⟨fun h => absurd h (Nat.not_lt_zero _), fun h => absurd h (Nat.not_lt_zero _), fun h => absurd h (Nat.not_lt_zero _), fun h => absurd h (Nat.not_lt_zero _), fun h => absurd h (Nat.not_lt_zero _), fun h => absurd h (Nat.not_lt_zero _)⟩
  | f + 1 => fun b s M d hb R H => by
    have ih := XP_all h40 f
    -- a step on from a good place
    have go : ∀ (m : Nat) (a : Nat) (N : pM), XSt tx st N (.inr a) → a < st → XSt tx st (pset N 3 1 ((a : Int) + 1)) (.inr (a + 1)) ∧ ∀ m', rpk m' ≤ 4 ∧ rmu st m' (.inr (a + 1) : rgs) < rmu st m (.inr a : rgs) := fun m a N r h => ⟨XSt_next r h, fun m' => ⟨by unfold rpk; split <;> omega, by
      have k4 : rpk m' ≤ 4 := by unfold rpk; split <;> omega
      show 8 * (st + 1 - (a + 1)) + rpk m' < 8 * (st + 1 - a) + rpk m
      omega⟩⟩
    have ltc : ∀ {a : Nat} {c : Int}, hc tx st a = c → 0 ≤ c → a < st := fun {a c} h1 h2 => hc_lt (tx := tx) (st := st) (by rw [h1]; omega)
    have at1 : ∀ {N : pM}, AGx N N := AGx_rfl
    -- what comes behind something that was read
    have aft : ∀ {g m : Nat} {x : Int} (m' : Nat) {s : rgs} {N N' : pM}, m ≤ 3 → rpk m' < rpk m → XSt tx st N s → XSt tx st N' (rp tx st lv g m b x s).1 → rmu st m' (rp tx st lv g m b x s).1 < rmu st m s := fun {g m x} m' {s N N'} hm hk r1 r2 => rmu_lt hm (fun c e => by rw [e] at r2; exact XSt_le r2) (Or.inl hk) (fun _ _ => hk)
    -- how far the loops' counters are
    have cnt : ∀ {g m n a : Nat} {x : Int}, m ≤ 3 → n < 40 → n ≤ a → XPn (n + 1) (rp tx st lv g m b x (.inr (a + 1))).1 := fun {g m n a x} hm h1 h2 => by
      cases e : (rp tx st lv g m b x (.inr (a + 1))).1 with
      | inl q => exact (show n + 1 ≤ 40 by omega)
      | inr c =>
        obtain ⟨a', ea, h3, h4⟩ := rp_up g m b x _ c e
        cases ea
        exact (show n + 1 ≤ c by omega)
    refine ⟨fun hf hd => ?_, fun hf hd => ?_, fun hf hd => ?_, fun hf hd n fl hfl hn => ?_, fun hf hd x n y5 y6 hn => ?_, fun hf hd x n y5 y6 hn => ?_⟩
    · -- compared
      obtain ⟨D, rfl, hD⟩ := dsucc (show 1 ≤ d by omega)
      have k : rmu st 1 s + 1 = rmu st 0 s := by cases s <;> rfl
      obtain ⟨M1, e1, R1, A1⟩ := (ih b s M D hb R H).2.1 (by omega) (by omega)
      have H1 := XHv_ag H A1
      show Xout tx st M _ (rpH tx st (rp tx st lv f) b s)
      rw [T_Rule_compared_3, e1, pbI_rI]
      unfold rpH
      have lt1 := aft (m := 1) (m' := 2) (g := f) (x := 0) (N := M) (N' := M1) (by decide) (by decide) R R1
      cases e : (rp tx st lv f 1 b 0 s).1 with
      | inl p =>
        rw [e] at R1
        rw [x_peekB (by omega) R1, pbI_rI, if_neg (by decide), if_neg (by decide), if_neg (by decide)]
        exact ⟨M1, rfl, by rw [e]; exact R1, A1⟩
      | inr a =>
        rw [e] at R1 lt1
        have lt1 : 8 * (st + 1 - a) + 2 < rmu st 1 s := lt1
        have la := XSt_le R1
        have hr := hx_range R1 a
        have hat := XSt_at R1
        dsimp only
        have nx : ∀ c : Int, 0 ≤ c → hc tx st a = c → ∃ M2, xF D 147 [.inr 29, .inr 5, .inl (b : Int)] (pset M1 3 1 ((a : Int) + 1)) = rI (rp tx st lv f 1 b 0 (.inr (a + 1))).2 M2 ∧ XSt tx st M2 (rp tx st lv f 1 b 0 (.inr (a + 1))).1 ∧ AGx M M2 := fun c c0 hc' => by
          obtain ⟨R2, g2⟩ := go 2 a M1 R1 (ltc hc' c0)
          have g3 : rmu st 1 (.inr (a + 1) : rgs) < 8 * (st + 1 - a) + 2 := (g2 1).2
          obtain ⟨M2, e2, R3, A3⟩ := (ih b (.inr (a + 1)) _ D hb R2 (XHv_ag H1 (AGx_set at1 (Or.inl rfl)))).2.1 (by omega) (by omega)
          exact ⟨M2, e2, R3, AGx_tr (AGx_set A1 (Or.inl rfl)) A3⟩
        rw [x_peekG (by omega) R1, pbI_rI, hat]
        by_cases k1 : hc tx st a = 60
        · obtain ⟨M2, e2, R2, A2⟩ := nx 60 (by decide) k1
          have q1 := (hx_is R1 (by decide) (by decide)).mpr k1
          rw [q1, if_pos (by decide), if_pos k1, e2, pbI_rI, if_neg (by decide)]
          refine ⟨M2, ?_, R2, A2⟩
          by_cases z : le32 (rp tx st lv f 1 b 0 (.inr (a + 1))).2 (rp tx st lv f 1 b 0 s).2
          · rw [if_pos z, if_pos z, if_pos (by decide)]
          · rw [if_neg z, if_neg z, if_neg (by decide)]
        · have q1 : hx tx st a ≠ 60 := fun z => k1 ((hx_is R1 (by decide) (by decide)).mp z)
          rw [if_neg (by rw [eq32_iff] <;> omega), if_neg k1]
          by_cases k2 : hc tx st a = 62
          · obtain ⟨M2, e2, R2, A2⟩ := nx 62 (by decide) k2
            have q2 := (hx_is R1 (by decide) (by decide)).mpr k2
            rw [q2, if_pos (by decide), if_pos k2, e2, pbI_rI, if_pos (by decide), if_neg (by decide)]
            refine ⟨M2, ?_, R2, A2⟩
            by_cases z : le32 (rp tx st lv f 1 b 0 s).2 (rp tx st lv f 1 b 0 (.inr (a + 1))).2
            · rw [if_pos z, if_pos z, if_pos (by decide)]
            · rw [if_neg z, if_neg z, if_neg (by decide)]
          · have q2 : hx tx st a ≠ 62 := fun z => k2 ((hx_is R1 (by decide) (by decide)).mp z)
            rw [if_neg (by rw [eq32_iff] <;> omega), if_neg k2]
            by_cases k3 : hc tx st a = 61
            · obtain ⟨M2, e2, R2, A2⟩ := nx 61 (by decide) k3
              have q3 := (hx_is R1 (by decide) (by decide)).mpr k3
              rw [q3, if_pos (by decide), if_pos k3, e2, pbI_rI, if_pos (by decide), if_pos (by decide)]
              refine ⟨M2, ?_, R2, A2⟩
              by_cases z : eq32 (rp tx st lv f 1 b 0 s).2 (rp tx st lv f 1 b 0 (.inr (a + 1))).2
              · rw [if_neg (fun w => w z), if_neg (by decide), if_neg (fun w => w z)]
              · rw [if_pos z, if_pos z, if_pos (by decide)]
            · have q3 : hx tx st a ≠ 61 := fun z => k3 ((hx_is R1 (by decide) (by decide)).mp z)
              rw [if_neg (by rw [eq32_iff] <;> omega), if_neg k3]
              exact ⟨M1, rfl, by rw [e]; exact R1, A1⟩
    · -- summed
      obtain ⟨D, rfl, hD⟩ := dsucc (show 1 ≤ d by omega)
      have k : rmu st 2 s + 1 = rmu st 1 s := by cases s <;> rfl
      obtain ⟨M1, e1, R1, A1⟩ := (ih b s M D hb R H).2.2.1 (by omega) (by omega)
      have lt1 := aft (m := 2) (m' := 4) (g := f) (x := 0) (N := M) (N' := M1) (by decide) (by decide) R R1
      rw [T_Rule_summed_3, e1, pbI_rI]
      exact Xout_tr A1 ((ih b _ M1 D hb R1 (XHv_ag H A1)).2.2.2.2.1 (by omega) (by omega) _ 0 _ _ (by
        cases (rp tx st lv f 2 b 0 s).1
        · exact Nat.zero_le _
        · exact Nat.zero_le _))
    · -- multiplied
      obtain ⟨D, rfl, hD⟩ := dsucc (show 1 ≤ d by omega)
      obtain ⟨D', rfl, hD'⟩ := dsucc (show 1 ≤ D by omega)
      have k : rmu st 3 s + 1 = rmu st 2 s := by cases s <;> rfl
      obtain ⟨M1, e1, R1, A1⟩ := (ih b s M D' hb R H).2.2.2.1 (by omega) (by omega) 0 0 (Or.inl rfl) (by
        cases s
        · exact Nat.zero_le _
        · exact Nat.zero_le _)
      have e1 : xE D' 149 4 [.inr 29, .inr 5, .inl (b : Int), .inl 0, .inl 0] [] M = rI (rp tx st lv f 3 b 0 s).2 M1 := e1
      have R1 : XSt tx st M1 (rp tx st lv f 3 b 0 s).1 := R1
      have lt1 := aft (m := 3) (m' := 5) (g := f) (x := 0) (N := M) (N' := M1) (by decide) (by decide) R R1
      rw [T_Rule_multiplied_3, T_Rule_negated_3, e1, pbI_rI]
      exact Xout_tr A1 ((ih b _ M1 (D' + 1) hb R1 (XHv_ag H A1)).2.2.2.2.2 (by omega) (by omega) _ 0 _ _ (by
        cases (rp tx st lv f 3 b 0 s).1
        · exact Nat.zero_le _
        · exact Nat.zero_le _))
    · -- negated
      show Xout tx st M _ ((rpF tx st lv (rp tx st lv f) b s).1, if fl = 0 then (rpF tx st lv (rp tx st lv f) b s).2 else -(rpF tx st lv (rp tx st lv f) b s).2)
      -- a thing without a minus ahead of it
      have sg : (∀ a, s = .inr a → hc tx st a ≠ 45) → Xout tx st M (xF d 150 [.inr 29, .inr 5, .inl (b : Int)] M) (rpF tx st lv (rp tx st lv f) b s) := fun h45 => by
        obtain ⟨D, rfl, hD⟩ := dsucc (show 1 ≤ d by omega)
        cases s with
        | inl p =>
          rw [T_Rule_single_3, x_peekB (by omega) R, pbI_rI, x_seesB (by omega) R, pbI_rI, if_pos (by decide), if_neg (by decide), if_pos (by decide), if_pos (by decide), x_failB (by omega) R, pbN_rV]
          exact ⟨M, rfl, R, AGx_rfl⟩
        | inr a =>
          have la := XSt_le R
          have hr := hx_range R a
          have hat := XSt_at R
          have m0 : rmu st 3 (.inr a : rgs) = 8 * (st + 1 - a) + 1 := rfl
          have n45 := h45 a rfl
          obtain ⟨ef, rf⟩ := x_failG (d := D) (by omega) R (p := a) (by omega)
          have bad : AGx M (pset M 3 3 (a : Int)) := AGx_set AGx_rfl (Or.inr rfl)
          unfold rpF
          dsimp only
          rw [T_Rule_single_3, x_peekG (by omega) R, pbI_rI, x_seesG (by omega) R, pbI_rI, if_neg n45]
          by_cases k3 : 48 ≤ hc tx st a ∧ hc tx st a ≤ 57
          · obtain ⟨M2, e2, R2, A2⟩ := x_num (d := D) (by omega) R k3
            rw [if_pos k3, if_neg (by decide), if_neg (show ¬ (hc tx st a = 40 ∧ b < 4) by omega), if_pos k3, e2, pbI_rI]
            exact ⟨M2, rfl, R2, A2⟩
          · rw [if_neg k3, if_pos (by decide)]
            by_cases z : hx tx st a < 0
            · have hn : hc tx st a = -1 := by
                unfold hx at z
                unfold hc
                by_cases y : a < st
                · rw [if_pos y] at z
                  unfold ux at z
                  have := R.2.2.2.1 a (by have := R.2.1; omega)
                  split at z <;> omega
                · rw [if_neg y]
              rw [if_neg (by rw [le32_iff] <;> omega), if_pos (by decide), if_pos (by rw [eq32_iff] <;> omega), hat, ef, pbN_rV, if_neg (by omega), if_neg (by omega), hn, if_neg (by decide)]
              exact ⟨_, rfl, rf, bad⟩
            · rw [if_pos (by rw [le32_iff] <;> omega), s_ix (by omega) (by omega), pbI_rI, hat]
              by_cases k2 : hc tx st a = 40
              · have q2 := (hx_is R (by decide) (by decide)).mpr k2
                rw [q2, show ixc 40 = -1 by decide, if_pos (by decide), if_neg (by decide)]
                by_cases k4 : b < 4
                · obtain ⟨R2, g2⟩ := go 3 a M R (ltc k2 (by decide))
                  have g3 := (g2 0).2
                  have m1 : rmu st 0 (.inr (a + 1) : rgs) = 8 * (st + 1 - (a + 1)) + 4 := rfl
                  have lt := ltc k2 (by decide)
                  obtain ⟨M2, e2, R3, A3⟩ := (ih (b + 1) (.inr (a + 1)) _ D (by omega) R2 (XHv_ag H (AGx_set at1 (Or.inl rfl)))).1 (by omega) (by omega)
                  obtain ⟨M3, e3, R4, A4⟩ := x_take (d := D) (by omega) R3 (c := 41) (by decide) (by decide)
                  rw [if_pos (by rw [lt32_iff] <;> omega), if_pos ⟨k2, k4⟩, show ((b : Int) + 1) = ((b + 1 : Nat) : Int) by omega, e2, pbI_rI, e3, pbN_rV]
                  exact ⟨M3, rfl, R4, AGx_tr (AGx_tr (AGx_set AGx_rfl (Or.inl rfl)) A3) A4⟩
                · rw [if_neg (by rw [lt32_iff] <;> omega), if_neg (fun w => k4 w.2), ef, pbN_rV, if_neg k3, k2, if_neg (by decide)]
                  exact ⟨_, rfl, rf, bad⟩
              · have q2 : hx tx st a ≠ 40 := fun w => k2 ((hx_is R (by decide) (by decide)).mp w)
                rw [if_neg (show ¬ (hc tx st a = 40 ∧ b < 4) from fun w => k2 w.1), if_neg k3]
                have same : isL (hc tx st a) = true → hx tx st a = hc tx st a := fun hl => hx_same R (by
                  have := of_decide_eq_true hl
                  omega)
                rcases ixc_L (hx tx st a) with ⟨l1, l2, l3⟩ | ⟨l1, l2⟩
                · have l4 := of_decide_eq_true l1
                  have e4 : hx tx st a = hc tx st a := by
                    have := (hx_hc R (a := a) (lo := 0) (hi := 127) (by decide) (by decide)).mp (by omega)
                    exact hx_same R this.1
                  have lt : a < st := hc_lt (tx := tx) (st := st) (by rw [← e4]; omega)
                  rw [if_neg (by rw [lt32_iff] <;> omega), if_neg (by rw [le32_iff] <;> omega), if_pos (by omega), pset_ne (by decide), e4]
                  rw [e4] at l1
                  rw [H _ l1, if_pos l1]
                  exact ⟨_, rfl, XSt_next R lt, AGx_set AGx_rfl (Or.inl rfl)⟩
                · have l5 : ¬ isL (hc tx st a) = true := fun hl => by
                    rw [same hl] at l1
                    rw [l1] at hl; cases hl
                  rw [l2, if_pos (by decide), if_pos (by rw [eq32_iff] <;> omega), ef, pbN_rV, if_neg l5]
                  exact ⟨_, rfl, rf, bad⟩
      have fin : Xout tx st M (xF d 150 [.inr 29, .inr 5, .inl (b : Int)] M) (rpF tx st lv (rp tx st lv f) b s) → Xout tx st M (pbI (xF d 150 [.inr 29, .inr 5, .inl (b : Int)] M) fun v2 M1 => if eq32 fl 0 then rI v2 M1 else some (some (.inl (-v2)), M1)) ((rpF tx st lv (rp tx st lv f) b s).1, if fl = 0 then (rpF tx st lv (rp tx st lv f) b s).2 else -(rpF tx st lv (rp tx st lv f) b s).2) := fun h => by
        obtain ⟨M2, e2, R2, A2⟩ := h
        rw [e2, pbI_rI]
        rcases hfl with rfl | rfl
        · rw [if_pos (by decide), if_pos rfl]
          exact ⟨M2, rfl, R2, A2⟩
        · rw [if_neg (by decide), if_neg (by decide)]
          exact ⟨M2, rfl, R2, A2⟩
      rw [L_Rule_negated_3_4]
      cases s with
      | inl p =>
        have hn : n ≤ 40 := hn
        by_cases z : n = 40
        · rw [if_pos (by rw [le32_iff] <;> omega)]
          exact fin (sg (fun a h => by cases h))
        · rw [if_neg (by rw [le32_iff] <;> omega), x_peekB (by omega) R, pbI_rI, if_pos (by decide)]
          exact fin (sg (fun a h => by cases h))
      | inr a =>
        have hn : n ≤ a := hn
        have la := XSt_le R
        have hr := hx_range R a
        by_cases z : n = 40
        · have h1 : hc tx st a = -1 := by
            unfold hc
            rw [if_neg (by omega)]
          rw [if_pos (by rw [le32_iff] <;> omega)]
          exact fin (sg (fun a' h => by cases h; rw [h1]; decide))
        · rw [if_neg (by rw [le32_iff] <;> omega), x_peekG (by omega) R, pbI_rI]
          by_cases k1 : hc tx st a = 45
          · have q1 := (hx_is R (by decide) (by decide)).mpr k1
            obtain ⟨R2, g2⟩ := go 3 a M R (ltc k1 (by decide))
            have g3 := (g2 3).2
            have cn : XPn (n + 1) (.inr (a + 1) : rgs) := Nat.succ_le_succ hn
            have e3 : rpF tx st lv (rp tx st lv f) b (.inr a) = ((rp tx st lv f 3 b 0 (.inr (a + 1))).1, -(rp tx st lv f 3 b 0 (.inr (a + 1))).2) := by
              unfold rpF
              dsimp only
              rw [if_pos k1]
            rw [q1, if_neg (by decide), XSt_at R, e3, show ((n : Int) + 1) = ((n + 1 : Nat) : Int) by omega]
            have A2 : AGx M (pset M 3 1 ((a : Int) + 1)) := AGx_set AGx_rfl (Or.inl rfl)
            rcases hfl with rfl | rfl
            · obtain ⟨M3, e4, R3, A3⟩ := (ih b (.inr (a + 1)) _ d hb R2 (XHv_ag H A2)).2.2.2.1 (by omega) (by omega) (n + 1) 1 (Or.inr rfl) cn
              rw [if_neg (by decide), e4]
              exact ⟨M3, rfl, R3, AGx_tr A2 A3⟩
            · obtain ⟨M3, e4, R3, A3⟩ := (ih b (.inr (a + 1)) _ d hb R2 (XHv_ag H A2)).2.2.2.1 (by omega) (by omega) (n + 1) 0 (Or.inl rfl) cn
              rw [if_pos (by decide), e4]
              refine ⟨M3, ?_, R3, AGx_tr A2 A3⟩
              show rI (rp tx st lv f 3 b 0 (.inr (a + 1))).2 M3 = rI (- -(rp tx st lv f 3 b 0 (.inr (a + 1))).2) M3
              rw [Int.neg_neg]
          · have q1 : hx tx st a ≠ 45 := fun w => k1 ((hx_is R (by decide) (by decide)).mp w)
            rw [if_pos (by rw [eq32_iff] <;> omega)]
            exact fin (sg (fun a' h => by cases h; exact k1))
    · -- on with a sum
      show Xout tx st M _ (rpA tx st (rp tx st lv f) b x s)
      unfold rpA
      rw [L_Rule_summed_3_7]
      cases s with
      | inl p =>
        have hn : n ≤ 40 := hn
        by_cases z : n = 40
        · rw [if_pos (by rw [le32_iff] <;> omega)]
          exact ⟨M, rfl, R, AGx_rfl⟩
        · rw [if_neg (by rw [le32_iff] <;> omega), x_peekB (by omega) R, pbI_rI, if_neg (by decide), if_neg (by decide)]
          exact ⟨M, rfl, R, AGx_rfl⟩
      | inr a =>
        have hn : n ≤ a := hn
        have la := XSt_le R
        have hr := hx_range R a
        have hat := XSt_at R
        have m0 : rmu st 4 (.inr a : rgs) = 8 * (st + 1 - a) := rfl
        dsimp only
        by_cases z : n = 40
        · have h1 : hc tx st a = -1 := by
            unfold hc
            rw [if_neg (by omega)]
          rw [if_pos (by rw [le32_iff] <;> omega), h1, if_neg (by decide), if_neg (by decide)]
          exact ⟨M, rfl, R, AGx_rfl⟩
        · have nx : ∀ c : Int, 0 ≤ c → hc tx st a = c → ∃ M2, xF d 148 [.inr 29, .inr 5, .inl (b : Int)] (pset M 3 1 ((a : Int) + 1)) = rI (rp tx st lv f 2 b 0 (.inr (a + 1))).2 M2 ∧ ∀ (x : Int) (y5 y6 : pV), Xout tx st M (xE d 147 7 [.inr 29, .inr 5, .inl (b : Int), .inl x, .inl ((n + 1 : Nat) : Int), y5, y6] [] M2) (rp tx st lv f 4 b x (rp tx st lv f 2 b 0 (.inr (a + 1))).1) := fun c c0 hc' => by
            obtain ⟨R2, g2⟩ := go 4 a M R (ltc hc' c0)
            have g3 := (g2 2).2
            have A2 : AGx M (pset M 3 1 ((a : Int) + 1)) := AGx_set AGx_rfl (Or.inl rfl)
            obtain ⟨M2, e2, R3, A3⟩ := (ih b (.inr (a + 1)) _ d hb R2 (XHv_ag H A2)).2.2.1 (by omega) (by omega)
            have lt1 := aft (m := 2) (m' := 4) (g := f) (x := 0) (by decide) (by decide) R2 R3
            have A4 : AGx M M2 := AGx_tr A2 A3
            exact ⟨M2, e2, fun x y5 y6 => Xout_tr A4 ((ih b _ M2 d hb R3 (XHv_ag H A4)).2.2.2.2.1 (by omega) (by omega) x (n + 1) y5 y6 (cnt (by decide) (by omega) hn))⟩
          rw [if_neg (by rw [le32_iff] <;> omega), x_peekG (by omega) R, pbI_rI, hat, show ((n : Int) + 1) = ((n + 1 : Nat) : Int) by omega]
          by_cases k1 : hc tx st a = 43
          · obtain ⟨M2, e2, h2⟩ := nx 43 (by decide) k1
            have q1 := (hx_is R (by decide) (by decide)).mpr k1
            rw [q1, if_pos (by decide), e2, pbI_rI, if_neg (by decide), if_pos k1]
            exact h2 _ _ _
          · have q1 : hx tx st a ≠ 43 := fun w => k1 ((hx_is R (by decide) (by decide)).mp w)
            rw [if_neg (by rw [eq32_iff] <;> omega), if_neg k1]
            by_cases k2 : hc tx st a = 45
            · obtain ⟨M2, e2, h2⟩ := nx 45 (by decide) k2
              have q2 := (hx_is R (by decide) (by decide)).mpr k2
              rw [q2, if_pos (by decide), e2, pbI_rI, if_pos (by decide), if_pos k2]
              exact h2 _ _ _
            · have q2 : hx tx st a ≠ 45 := fun w => k2 ((hx_is R (by decide) (by decide)).mp w)
              rw [if_neg (by rw [eq32_iff] <;> omega), if_neg k2]
              exact ⟨M, rfl, R, AGx_rfl⟩
    · -- on with a product
      show Xout tx st M _ (rpT tx st (rp tx st lv f) b x s)
      unfold rpT
      rw [L_Rule_multiplied_3_7]
      cases s with
      | inl p =>
        have hn : n ≤ 40 := hn
        by_cases z : n = 40
        · rw [if_pos (by rw [le32_iff] <;> omega)]
          exact ⟨M, rfl, R, AGx_rfl⟩
        · rw [if_neg (by rw [le32_iff] <;> omega), x_peekB (by omega) R, pbI_rI, if_neg (by decide), if_neg (by decide)]
          exact ⟨M, rfl, R, AGx_rfl⟩
      | inr a =>
        have hn : n ≤ a := hn
        have la := XSt_le R
        have hr := hx_range R a
        have hat := XSt_at R
        have m0 : rmu st 5 (.inr a : rgs) = 8 * (st + 1 - a) := rfl
        dsimp only
        by_cases z : n = 40
        · have h1 : hc tx st a = -1 := by
            unfold hc
            rw [if_neg (by omega)]
          rw [if_pos (by rw [le32_iff] <;> omega), h1, if_neg (by decide), if_neg (by decide)]
          exact ⟨M, rfl, R, AGx_rfl⟩
        · have nx : ∀ c : Int, 0 ≤ c → hc tx st a = c → ∃ M2, xF d 149 [.inr 29, .inr 5, .inl (b : Int)] (pset M 3 1 ((a : Int) + 1)) = rI (rp tx st lv f 3 b 0 (.inr (a + 1))).2 M2 ∧ ∀ (x : Int) (y5 y6 : pV), Xout tx st M (xE d 148 7 [.inr 29, .inr 5, .inl (b : Int), .inl x, .inl ((n + 1 : Nat) : Int), y5, y6] [] M2) (rp tx st lv f 5 b x (rp tx st lv f 3 b 0 (.inr (a + 1))).1) := fun c c0 hc' => by
            obtain ⟨R2, g2⟩ := go 5 a M R (ltc hc' c0)
            have g3 := (g2 3).2
            have A2 : AGx M (pset M 3 1 ((a : Int) + 1)) := AGx_set AGx_rfl (Or.inl rfl)
            obtain ⟨D, hDd, -⟩ := dsucc (show 1 ≤ d by omega)
            obtain ⟨M2, e2, R3, A3⟩ := (ih b (.inr (a + 1)) _ D hb R2 (XHv_ag H A2)).2.2.2.1 (by omega) (by omega) 0 0 (Or.inl rfl) (Nat.zero_le _)
            have e2 : xE D 149 4 [.inr 29, .inr 5, .inl (b : Int), .inl 0, .inl 0] [] (pset M 3 1 ((a : Int) + 1)) = rI (rp tx st lv f 3 b 0 (.inr (a + 1))).2 M2 := e2
            have R3 : XSt tx st M2 (rp tx st lv f 3 b 0 (.inr (a + 1))).1 := R3
            have lt1 := aft (m := 3) (m' := 5) (g := f) (x := 0) (by decide) (by decide) R2 R3
            have A4 : AGx M M2 := AGx_tr A2 A3
            refine ⟨M2, ?_, fun x y5 y6 => Xout_tr A4 ((ih b _ M2 d hb R3 (XHv_ag H A4)).2.2.2.2.2 (by omega) (by omega) x (n + 1) y5 y6 (cnt (by decide) (by omega) hn))⟩
            rw [hDd, T_Rule_negated_3, e2]
          rw [if_neg (by rw [le32_iff] <;> omega), x_peekG (by omega) R, pbI_rI, hat, show ((n : Int) + 1) = ((n + 1 : Nat) : Int) by omega]
          by_cases k1 : hc tx st a = 42
          · obtain ⟨M2, e2, h2⟩ := nx 42 (by decide) k1
            have q1 := (hx_is R (by decide) (by decide)).mpr k1
            rw [q1, if_pos (by decide), e2, pbI_rI, if_neg (by decide), if_pos k1]
            exact h2 _ _ _
          · have q1 : hx tx st a ≠ 42 := fun w => k1 ((hx_is R (by decide) (by decide)).mp w)
            rw [if_neg (by rw [eq32_iff] <;> omega), if_neg k1]
            by_cases k2 : hc tx st a = 47
            · obtain ⟨M2, e2, h2⟩ := nx 47 (by decide) k2
              have q2 := (hx_is R (by decide) (by decide)).mpr k2
              rw [q2, if_pos (by decide), e2, pbI_rI, if_pos (by decide), if_pos k2]
              by_cases z : eq32 (rp tx st lv f 3 b 0 (.inr (a + 1))).2 0
              · rw [if_neg (fun w => w z), if_pos z]
                exact h2 _ _ _
              · rw [if_pos z, if_neg z, if_neg z]
                exact h2 _ _ _
            · have q2 : hx tx st a ≠ 47 := fun w => k2 ((hx_is R (by decide) (by decide)).mp w)
              rw [if_neg (by rw [eq32_iff] <;> omega), if_neg k2]
              exact ⟨M, rfl, R, AGx_rfl⟩
end XRU
/-! rule: what it answers and what it keeps, on both sides -/
section RUL
variable {tx : Nat → Int} {st d D L : Nat} {M M' M1 M2 N : pM} {lv lv' : Int → Int} {w1 : List (Nat × Nat)} {v y : Int}
/-- what is read does not hang on what the letters are worth -/
theorem rp_fst : ∀ f m b (x x' : Int) s, (rp tx st lv f m b x s).1 = (rp tx st lv' f m b x' s).1
  | 0, _, _, _, _, _ => rfl
  | f + 1, m, b, x, x', s => by
    have ih := rp_fst f
    rcases m with _ | _ | _ | _ | _ | m
    · show (rpH tx st (rp tx st lv f) b s).1 = (rpH tx st (rp tx st lv' f) b s).1
      unfold rpH
      have e := ih 1 b 0 0 s
      cases e1 : (rp tx st lv f 1 b 0 s).1 with
      | inl q =>
        have e2 : (rp tx st lv' f 1 b 0 s).1 = .inl q := e.symm.trans e1
        rw [e2]
        exact e
      | inr a =>
        have e2 : (rp tx st lv' f 1 b 0 s).1 = .inr a := e.symm.trans e1
        rw [e2]
        dsimp only
        by_cases k1 : hc tx st a = 60
        · rw [if_pos k1, if_pos k1]; exact ih 1 b 0 0 _
        rw [if_neg k1, if_neg k1]
        by_cases k2 : hc tx st a = 62
        · rw [if_pos k2, if_pos k2]; exact ih 1 b 0 0 _
        rw [if_neg k2, if_neg k2]
        by_cases k3 : hc tx st a = 61
        · rw [if_pos k3, if_pos k3]; exact ih 1 b 0 0 _
        rw [if_neg k3, if_neg k3]
        exact e
    · show (rp tx st lv f 4 b _ (rp tx st lv f 2 b 0 s).1).1 = (rp tx st lv' f 4 b _ (rp tx st lv' f 2 b 0 s).1).1
      rw [ih 2 b 0 0 s]
      exact ih 4 b _ _ _
    · show (rp tx st lv f 5 b _ (rp tx st lv f 3 b 0 s).1).1 = (rp tx st lv' f 5 b _ (rp tx st lv' f 3 b 0 s).1).1
      rw [ih 3 b 0 0 s]
      exact ih 5 b _ _ _
    · show (rpF tx st lv (rp tx st lv f) b s).1 = (rpF tx st lv' (rp tx st lv' f) b s).1
      unfold rpF
      cases s with
      | inl q => rfl
      | inr a =>
        dsimp only
        by_cases k1 : hc tx st a = 45
        · rw [if_pos k1, if_pos k1]; exact ih 3 b 0 0 _
        rw [if_neg k1, if_neg k1]
        by_cases k2 : hc tx st a = 40 ∧ b < 4
        · rw [if_pos k2, if_pos k2]
          show sgN tx st 41 (rp tx st lv f 0 (b + 1) 0 (.inr (a + 1))).1 = sgN tx st 41 (rp tx st lv' f 0 (b + 1) 0 (.inr (a + 1))).1
          rw [ih 0 (b + 1) 0 0 _]
        rw [if_neg k2, if_neg k2]
        by_cases k3 : 48 ≤ hc tx st a ∧ hc tx st a ≤ 57
        · rw [if_pos k3, if_pos k3]
        rw [if_neg k3, if_neg k3]
        by_cases k4 : isL (hc tx st a) = true
        · rw [if_pos k4, if_pos k4]
        rw [if_neg k4, if_neg k4]
    · show (rpA tx st (rp tx st lv f) b x s).1 = (rpA tx st (rp tx st lv' f) b x' s).1
      unfold rpA
      cases s with
      | inl q => rfl
      | inr a =>
        dsimp only
        by_cases k1 : hc tx st a = 43
        · rw [if_pos k1, if_pos k1, ih 2 b 0 0 _]; exact ih 4 b _ _ _
        rw [if_neg k1, if_neg k1]
        by_cases k2 : hc tx st a = 45
        · rw [if_pos k2, if_pos k2, ih 2 b 0 0 _]; exact ih 4 b _ _ _
        rw [if_neg k2, if_neg k2]
    · show (rpT tx st (rp tx st lv f) b x s).1 = (rpT tx st (rp tx st lv' f) b x' s).1
      unfold rpT
      cases s with
      | inl q => rfl
      | inr a =>
        dsimp only
        by_cases k1 : hc tx st a = 42
        · rw [if_pos k1, if_pos k1, ih 3 b 0 0 _]; exact ih 5 b _ _ _
        rw [if_neg k1, if_neg k1]
        by_cases k2 : hc tx st a = 47
        · rw [if_pos k2, if_pos k2, ih 3 b 0 0 _]; exact ih 5 b _ _ _
        rw [if_neg k2, if_neg k2]
/-- where the reading of a text as a rule comes to -/
noncomputable def ruS (tx : Nat → Int) (L : Nat) : rgs := (rp tx (min L 40) (fun _ => 0) 400 0 0 0 (.inr 0)).1
noncomputable def ruA (tx : Nat → Int) (L : Nat) : Int := if L = 0 then 0 else match ruS tx L with
  | .inl p => -1 - (p : Int)
  | .inr a => if a < L then -1 - (a : Int) else 0
theorem x_startR (hd : 1 ≤ d) (h1 : M 1 1 = (L : Int)) (hL : L ≤ 80) (ht : ∀ i, i < 80 → M 2 i = ux (tx i)) (hx : ∀ i, i < 80 → -128 ≤ tx i ∧ tx i ≤ 127) : ∃ M', xF d 132 [.inr 5, .inl 40] M = rV M' ∧ XSt tx (min L 40) M' (.inr 0) ∧ ∀ o i, ¬ (o = 3 ∧ (i = 1 ∨ i = 2 ∨ i = 3)) → M' o i = M o i := by
  obtain ⟨D, rfl, -⟩ := dsucc hd
  have e11 : pset (pset M 3 1 0) 3 3 (-1) 1 1 = (L : Int) := by rw [pset_ne (by decide), pset_ne (by decide)]; exact h1
  have em : jmin (L : Int) 40 = ((min L 40 : Nat) : Int) := by
    rw [jmin_eq (by omega) (by omega) (by omega) (by omega)]
    omega
  refine ⟨_, T_Reader_start_3 D 40 M, ?_, fun o i h => ?_⟩
  · rw [e11, em]
    refine ⟨pset_eq, by omega, fun i hi => by rw [pset_ne (by decide), pset_ne (by decide), pset_ne (by decide)]; exact ht i hi, hx, ?_, ?_, ?_, Nat.zero_le _, ?_⟩
    · rw [pset_ne2 (by decide), pset_ne2 (by decide), pset_eq]; omega
    · rw [pset_ne2 (by decide), pset_ne2 (by decide), pset_eq]; omega
    · rw [pset_ne2 (by decide), pset_ne2 (by decide), pset_eq]; rfl
    · rw [pset_ne2 (by decide), pset_eq]
  · unfold pset
    rw [if_neg (fun z => h ⟨z.1, by omega⟩), if_neg (fun z => h ⟨z.1, by omega⟩), if_neg (fun z => h ⟨z.1, by omega⟩)]
def X3 (M M' : pM) : Prop := ∀ o i, ¬ (o = 3 ∧ (i = 1 ∨ i = 2 ∨ i = 3)) → M' o i = M o i
theorem x_ruleF (hd : 350 ≤ d) (h1 : M 1 1 = (L : Int)) (hL : L ≤ 80) (ht : ∀ i, i < 80 → M 2 i = ux (tx i)) (hx : ∀ i, i < 80 → -128 ≤ tx i ∧ tx i ≤ 127) : ∃ M', xF d 143 [.inr 29, .inr 5] M = rI (if L = 0 then -1 else match ruS tx L with
    | .inl p => (p : Int)
    | .inr a => if a < L then (a : Int) else -1) M' ∧ X3 M M' := by
  obtain ⟨D, rfl, hD⟩ := dsucc (show 1 ≤ d by omega)
  obtain ⟨M1, e1, R1, A1⟩ := x_startR (d := D) (by omega) h1 hL ht hx
  have l1 : M1 1 1 = (L : Int) := by rw [A1 1 1 (by omega)]; exact h1
  rw [T_Rule_fault, e1, pbN_rV, l1]
  by_cases q : L = 0
  · rw [if_pos (by rw [le32_iff] <;> omega), x_faultG (by omega) R1 l1 hL, pbI_rI, if_pos (by omega), if_pos q]
    exact ⟨M1, rfl, A1⟩
  · rw [if_neg (by rw [le32_iff] <;> omega), if_neg q]
    obtain ⟨D', rfl, hD'⟩ := dsucc (show 1 ≤ D by omega)
    have mu : rmu (min L 40) 0 (.inr 0 : rgs) = 8 * (min L 40 + 1 - 0) + 4 := rfl
    have H : XHv (fun c => M1 31 (ixc c).toNat) M1 := fun c _ => rfl
    obtain ⟨M2, e2, R2, A2⟩ := (XP_all (tx := tx) (lv := fun c => M1 31 (ixc c).toNat) (show min L 40 ≤ 40 by omega) 400 0 (.inr 0) M1 D' (by decide) R1 H).1 (by omega) (by omega)
    have es : (rp tx (min L 40) (fun c => M1 31 (ixc c).toNat) 400 0 0 0 (.inr 0)).1 = ruS tx L := rp_fst 400 0 0 0 0 _
    rw [es] at R2
    have A3 : X3 M M2 := fun o i h => by rw [A2 o i (fun z => h ⟨z.1, by omega⟩), A1 o i h]
    have l2 : M2 1 1 = (L : Int) := by rw [A3 1 1 (by omega)]; exact h1
    have e2 : xF D' 146 [.inr 29, .inr 5, .inl 0] M1 = rI (rp tx (min L 40) (fun c => M1 31 (ixc c).toNat) 400 0 0 0 (.inr 0)).2 M2 := e2
    rw [T_Rule_whole_3, e2, pbI_rI]
    cases e : ruS tx L with
    | inl p =>
      rw [e] at R2
      rw [x_goesB (by omega) R2, pbI_rI, if_pos (by decide), pbI_rI, x_faultB (by omega) R2, pbI_rI]
      exact ⟨M2, rfl, A3⟩
    | inr a =>
      rw [e] at R2
      have la := XSt_le R2
      rw [x_goesG (by omega) R2, pbI_rI]
      dsimp only
      by_cases z : a < min L 40
      · obtain ⟨ef, rf⟩ := x_failG (d := D') (by omega) R2 (p := a) (by omega)
        rw [if_pos z, if_neg (by decide), XSt_at R2, ef, pbN_rV, pbI_rI, x_faultB (by omega) rf, pbI_rI, if_pos (by omega)]
        exact ⟨_, rfl, fun o i h => by
          rw [← A3 o i h]
          unfold pset
          rw [if_neg (fun w => h ⟨w.1, by omega⟩)]⟩
      · rw [if_neg z, if_pos (by decide), pbI_rI, x_faultG (by omega) R2 l2 hL, pbI_rI]
        by_cases z2 : L ≤ 40
        · rw [if_pos (by omega), if_neg (by omega)]
          exact ⟨M2, rfl, A3⟩
        · rw [if_neg (by omega), if_pos (by omega), show min L 40 = a by omega]
          exact ⟨M2, rfl, A3⟩
theorem ruS_ok (h1 : M 1 1 = (L : Int)) (hL : L ≤ 80) (ht : ∀ i, i < 80 → M 2 i = ux (tx i)) (hx : ∀ i, i < 80 → -128 ≤ tx i ∧ tx i ≤ 127) : (∀ p, ruS tx L = .inl p → p ≤ 80) ∧ ∀ a, ruS tx L = .inr a → a ≤ min L 40 := by
  obtain ⟨M2, e2, R2, A2⟩ := x_startR (d := 1) (M := M) (by decide) h1 hL ht hx
  have mu : rmu (min L 40) 0 (.inr 0 : rgs) = 8 * (min L 40 + 1 - 0) + 4 := rfl
  obtain ⟨M3, e3, R3, A3⟩ := (XP_all (tx := tx) (lv := fun c => M2 31 (ixc c).toNat) (show min L 40 ≤ 40 by omega) 400 0 (.inr 0) M2 400 (by decide) R2 (fun c _ => rfl)).1 (by omega) (by omega)
  have es : (rp tx (min L 40) (fun c => M2 31 (ixc c).toNat) 400 0 0 0 (.inr 0)).1 = ruS tx L := rp_fst 400 0 0 0 0 _
  rw [es] at R3
  refine ⟨fun p hp => ?_, fun a ha => ?_⟩
  · rw [hp] at R3
    exact R3.2.2.2.2.2.2.2
  · rw [ha] at R3
    exact XSt_le R3
theorem x_rule (hd : 360 ≤ d) (h1 : M 1 1 = (L : Int)) (hL : L ≤ 80) (ht : ∀ i, i < 80 → M 2 i = ux (tx i)) (hx : ∀ i, i < 80 → -128 ≤ tx i ∧ tx i ≤ 127) : ∃ M', xF d 3 [.inr 2] M = rI (ruA tx L) M' ∧ (ruA tx L = 0 → L ≤ 40 ∧ M' 28 1 = (L : Int) ∧ ∀ i, i < 80 → M' 29 i = ux (tx i)) ∧ (ruA tx L ≠ 0 → ∀ i, M' 28 i = M 28 i ∧ M' 29 i = M 29 i) := by
  obtain ⟨D, rfl, hD⟩ := dsucc (show 1 ≤ d by omega)
  obtain ⟨D', rfl, hD'⟩ := dsucc (show 1 ≤ D by omega)
  obtain ⟨w, M1, e1, A1, w0, wl, wr⟩ : ∃ w M1, xF (D' + 1) 143 [.inr 29, .inr 5] M = rI w M1 ∧ X3 M M1 ∧ (L = 0 → w = -1) ∧ (L ≠ 0 → ∀ p, ruS tx L = .inl p → w = (p : Int)) ∧ (L ≠ 0 → ∀ a, ruS tx L = .inr a → w = if a < L then (a : Int) else -1) := by
    obtain ⟨M1, e1, A1⟩ := x_ruleF (d := D' + 1) (by omega) h1 hL ht hx
    exact ⟨_, M1, e1, A1, fun q => if_pos q, fun q p e => by rw [if_neg q, e], fun q a e => by rw [if_neg q, e]⟩
  have l1 : M1 1 1 = (L : Int) := by rw [A1 1 1 (by omega)]; exact h1
  have ec : ∀ N : pM, N 1 1 = (L : Int) → xF (D' + 1) 153 [.inr 3, .inl 0] N = rI 1 (pset N 1 1 0) := fun N hN => x_cutL (by omega) hN hL
  have eb : xF (D' + 1) 155 [.inr 30, .inr 3] M1 = rV (pset (pcp M1 2 29 80) 28 1 (L : Int)) := by
    rw [T_Text_become, c_copy_2_29 (by omega), pbN_rV, pcp_ne (by decide), l1]
  have good : (∃ M', (pbN (xF (D' + 1) 155 [.inr 30, .inr 3] M1) fun M5 => pbI (xF (D' + 1) 153 [.inr 3, .inl 0] M5) fun v7 M6 => if ¬ eq32 (-1) (-1) then rI ((-1) - (-1)) M6 else some (some (.inl 0), M6)) = rI 0 M' ∧ M' 28 1 = (L : Int) ∧ ∀ i, i < 80 → M' 29 i = ux (tx i)) := by
    rw [eb, pbN_rV, ec _ (by rw [pset_ne (by decide), pcp_ne (by decide)]; exact l1), pbI_rI, if_neg (by decide)]
    refine ⟨_, rfl, by rw [pset_ne (by decide), pset_eq], fun i hi => ?_⟩
    rw [pset_ne (by decide), pset_ne (by decide), pcp_eq hi, A1 2 i (by omega)]
    exact ht i hi
  have bad : ∀ p : Nat, p ≤ 80 → ∃ M', (pbI (xF (D' + 1) 153 [.inr 3, .inl 0] M1) fun v4 M3 => if ¬ eq32 (p : Int) (-1) then rI ((-1) - (p : Int)) M3 else some (some (.inl 0), M3)) = rI (-1 - (p : Int)) M' ∧ ∀ i, M' 28 i = M 28 i ∧ M' 29 i = M 29 i := fun p hp => by
    rw [ec M1 l1, pbI_rI, if_pos (by rw [eq32_iff] <;> omega)]
    exact ⟨_, rfl, fun i => ⟨by rw [pset_ne (by decide), A1 28 i (by omega)], by rw [pset_ne (by decide), A1 29 i (by omega)]⟩⟩
  have ok := ruS_ok h1 hL ht hx
  rw [T_X_rule, e1, pbI_rI]
  unfold ruA
  by_cases q : L = 0
  · obtain ⟨M', g1, g2, g3⟩ := good
    rw [w0 q, if_pos q, if_neg (by decide)]
    exact ⟨M', g1, fun _ => ⟨by omega, g2, g3⟩, fun h => absurd rfl h⟩
  · rw [if_neg q]
    cases e : ruS tx L with
    | inl p =>
      have hp := ok.1 p e
      obtain ⟨M', g1, g2⟩ := bad p hp
      dsimp only
      rw [wl q p e, if_pos (by rw [eq32_iff] <;> omega)]
      exact ⟨M', g1, fun h => by omega, fun _ => g2⟩
    | inr a =>
      dsimp only
      by_cases z : a < L
      · have la := ok.2 a e
        obtain ⟨M', g1, g2⟩ := bad a (by omega)
        rw [(wr q a e).trans (if_pos z), if_pos z, if_pos (by rw [eq32_iff] <;> omega)]
        exact ⟨M', g1, fun h => by omega, fun _ => g2⟩
      · obtain ⟨M', g1, g2, g3⟩ := good
        have la := ok.2 a e
        rw [(wr q a e).trans (if_neg z), if_neg z, if_neg (by decide)]
        exact ⟨M', g1, fun _ => ⟨by omega, g2, g3⟩, fun h => absurd rfl h⟩
theorem m_ru42 (hx : ∀ i, i < 80 → -128 ≤ tx i ∧ tx i ≤ 127) : ∀ (m k : Nat) (M : pM), k + m = L → L ≤ 40 → (∀ i, i < 80 → M 68 i = tx i) → (∀ i, i < k → M 71 i = tx i) → ∃ M', xE D 193 42 [.inr 62, .inl (L : Int), .inl (k : Int)] [] M = rI 0 M' ∧ M' 60 25 = (L : Int) ∧ ∀ i, i < L → M' 71 i = tx i
  | 0, k, M, hk, hL, h68, h71 => by
    rw [L_M_rule_42, if_pos (by rw [le32_iff] <;> omega)]
    exact ⟨_, rfl, pset_eq, fun i hi => by rw [pset_ne (by decide)]; exact h71 i (by omega)⟩
  | m + 1, k, M, hk, hL, h68, h71 => by
    have r := hx k (by omega)
    rw [L_M_rule_42, if_neg (by rw [le32_iff] <;> omega), if_pos (by omega), if_pos (by omega), Int.toNat_natCast, h68 k (by omega), jb_id (by omega) (by omega), show ((k : Int) + 1) = ((k + 1 : Nat) : Int) by omega]
    exact m_ru42 hx m (k + 1) _ (by omega) hL (fun i hi => by rw [pset_ne (by decide)]; exact h68 i hi) (fun i hi => by
      by_cases z : i = k
      · rw [z, pset_eq]
      · rw [pset_ne2 z]; exact h71 i (by omega))
theorem m_rule (hd : 360 ≤ d) (hM : gM gAll M) (h14 : M 60 14 = (L : Int)) (hL : L ≤ 80) (ht : ∀ i, i < 80 → M 68 i = tx i) (hx : ∀ i, i < 80 → -128 ≤ tx i ∧ tx i ≤ 127) : ∃ M', xF d 193 [.inr 62] M = rI (ruA tx L) M' ∧ (ruA tx L = 0 → M' 60 25 = (L : Int) ∧ ∀ i, i < L → M' 71 i = tx i) ∧ (ruA tx L ≠ 0 → M' 60 25 = M 60 25 ∧ ∀ i, M' 71 i = M 71 i) := by
  obtain ⟨D, rfl, hD⟩ := dsucc (show 1 ≤ d by omega)
  obtain ⟨D', rfl, hD'⟩ := dsucc (show 1 ≤ D by omega)
  have k14 : pset M 60 17 0 60 14 = (L : Int) := by rw [pset_ne2 (by decide)]; exact h14
  have gB : gM gAll (pset (pset (pset (pset (pset (pset (pset (pset M 60 17 0) 60 18 70) 60 19 (L : Int)) 60 20 40) 60 21 0) 60 22 (-1)) 60 14 0) 60 26 (-1)) := gM_f (gM_f (gM_f (gM_f (gM_f (gM_f (gM_f (gM_thr hM) (lo := 0) (hi := 200) (by decide +kernel) (by omega) (by omega)) (lo := 0) (hi := 80) (by decide +kernel) (by omega) (by omega)) (lo := 0) (hi := 80) (by decide +kernel) (by omega) (by omega)) (lo := 0) (hi := 80) (by decide +kernel) (by omega) (by omega)) (lo := -1) (hi := 80) (by decide +kernel) (by omega) (by omega)) (lo := 0) (hi := 80) (by decide +kernel) (by omega) (by omega)) (lo := -1) (hi := 9) (by decide +kernel) (by omega) (by omega)
  have fB : ∀ o i, ¬ (o = 60 ∧ (i = 14 ∨ i = 17 ∨ i = 18 ∨ i = 19 ∨ i = 20 ∨ i = 21 ∨ i = 22 ∨ i = 26)) → pset (pset (pset (pset (pset (pset (pset (pset M 60 17 0) 60 18 70) 60 19 (L : Int)) 60 20 40) 60 21 0) 60 22 (-1)) 60 14 0) 60 26 (-1) o i = M o i := fun o i h => by
    unfold pset
    rw [if_neg (fun z => h ⟨z.1, by omega⟩), if_neg (fun z => h ⟨z.1, by omega⟩), if_neg (fun z => h ⟨z.1, by omega⟩), if_neg (fun z => h ⟨z.1, by omega⟩), if_neg (fun z => h ⟨z.1, by omega⟩), if_neg (fun z => h ⟨z.1, by omega⟩), if_neg (fun z => h ⟨z.1, by omega⟩), if_neg (fun z => h ⟨z.1, by omega⟩)]
  have RB : RSq tx L 70 (pset (pset (pset (pset (pset (pset (pset (pset M 60 17 0) 60 18 70) 60 19 (L : Int)) 60 20 40) 60 21 0) 60 22 (-1)) 60 14 0) 60 26 (-1)) (.inr 0) := by
    refine ⟨?_, ?_, ?_, hL, Or.inl rfl, fun i hi => ⟨fun _ => by rw [fB 68 i (by omega)]; exact ht i hi, fun z => by cases z⟩, hx, ?_, ?_, ?_, Nat.zero_le _, ?_⟩
    · rw [pset_ne2 (by decide), pset_ne2 (by decide), pset_ne2 (by decide), pset_ne2 (by decide), pset_ne2 (by decide), pset_ne2 (by decide), pset_eq]; rfl
    · rw [pset_ne2 (by decide), pset_ne2 (by decide), pset_ne2 (by decide), pset_ne2 (by decide), pset_ne2 (by decide), pset_eq]
    · rw [pset_ne2 (by decide), pset_ne2 (by decide), pset_ne2 (by decide), pset_ne2 (by decide), pset_eq]
    · rw [pset_ne2 (by decide), pset_ne2 (by decide), pset_ne2 (by decide), pset_eq]; omega
    · rw [pset_ne2 (by decide), pset_ne2 (by decide), pset_ne2 (by decide), pset_eq]; omega
    · rw [pset_ne2 (by decide), pset_ne2 (by decide), pset_ne2 (by decide), pset_eq]; rfl
    · rw [pset_ne2 (by decide), pset_ne2 (by decide), pset_eq]
  rw [T_M_rule, T_M_begin_68, pbN_rV, k14]
  generalize pset (pset (pset (pset (pset (pset (pset (pset M 60 17 0) 60 18 70) 60 19 (L : Int)) 60 20 40) 60 21 0) 60 22 (-1)) 60 14 0) 60 26 (-1) = MB at gB fB RB
  have good : ∀ N : pM, L ≤ 40 → (∀ i, N 68 i = MB 68 i) → ∃ M', xE (D' + 1) 193 42 [.inr 62, .inl (L : Int), .inl 0] [] N = rI 0 M' ∧ M' 60 25 = (L : Int) ∧ ∀ i, i < L → M' 71 i = tx i := fun N h40 h68 => m_ru42 hx L 0 N (by omega) h40 (fun i hi => by rw [h68 i, fB 68 i (by omega)]; exact ht i hi) (fun i hi => absurd hi (Nat.not_lt_zero i))
  unfold ruA
  by_cases q : L = 0
  · rw [if_pos (by rw [le32_iff] <;> omega), if_pos q]
    obtain ⟨M', g1, g2, g3⟩ := good MB (by omega) (fun _ => rfl)
    exact ⟨M', g1, fun _ => ⟨g2, g3⟩, fun h => absurd rfl h⟩
  · rw [if_neg (by rw [le32_iff] <;> omega), if_neg q]
    have mu : rmu (min L 40) 0 (.inr 0 : rgs) = 8 * (min L 40 + 1 - 0) + 4 := rfl
    obtain ⟨lv, H⟩ := z_HLv gB
    obtain ⟨M2, e2, R2, A2⟩ := (RP_all 400 0 (.inr 0) MB (D' + 1) (by decide) RB H).1 (by omega) (by omega)
    have es : (rp tx (min L 40) lv 400 0 0 0 (.inr 0)).1 = ruS tx L := rp_fst 400 0 0 0 0 _
    rw [es] at R2
    have e2 : xF (D' + 1) 188 [.inr 62, .inl 0] MB = rI (rp tx (min L 40) lv 400 0 0 0 (.inr 0)).2 M2 := e2
    have keep : ∀ N : pM, AGr M2 N → N 60 25 = M 60 25 ∧ ∀ i, N 71 i = M 71 i := fun N hN => ⟨by rw [hN 60 25 (by omega), A2 60 25 (by omega), fB 60 25 (by omega)], fun i => by rw [hN 71 i (by omega), A2 71 i (by omega), fB 71 i (by omega)]⟩
    rw [e2, pbI_rI]
    cases e : ruS tx L with
    | inl p =>
      rw [e] at R2
      have k22 := R2.2.2.2.2.2.2.2.2.2.1
      have out : ∃ M', (pbI (xF (D' + 1) 179 [.inr 62] M2) fun v5 M4 => if ¬ eq32 v5 0 then xE (D' + 1) 193 42 [.inr 62, .inl (L : Int), .inl 0] [] M4 else some (some (.inl ((-1) - (M4 60 22))), M4)) = rI (-1 - (p : Int)) M' ∧ (-1 - (p : Int) = 0 → M' 60 25 = (L : Int) ∧ ∀ i, i < L → M' 71 i = tx i) ∧ (-1 - (p : Int) ≠ 0 → M' 60 25 = M 60 25 ∧ ∀ i, M' 71 i = M 71 i) := by
        rw [q_fineB (by omega) R2, pbI_rI, if_neg (fun z => z rfl), k22]
        exact ⟨M2, rfl, fun h => by omega, fun _ => keep M2 AGr_rfl⟩
      dsimp only
      by_cases z : le32 (L : Int) (M2 60 21)
      · rw [if_pos z]; exact out
      · rw [if_neg z, q_faultB (by omega) R2, pbN_rV]; exact out
    | inr a =>
      rw [e] at R2
      have hat := R2.2.2.2.2.2.2.2.2.2.1
      have la := RSq_le R2
      dsimp only
      rw [hat]
      by_cases z : a < L
      · obtain ⟨ef, rf⟩ := q_faultG (d := D' + 1) (by omega) R2 (p := a) (by omega)
        have k22 := rf.2.2.2.2.2.2.2.2.2.1
        rw [if_neg (by rw [le32_iff] <;> omega), ef, pbN_rV, q_fineB (by omega) rf, pbI_rI, if_neg (fun z => z rfl), k22, if_pos z]
        exact ⟨_, rfl, fun h => by omega, fun _ => keep _ (AGr_bad AGr_rfl)⟩
      · obtain ⟨M', g1, g2, g3⟩ := good M2 (by omega) (fun i => A2 68 i (by omega))
        rw [if_pos (by rw [le32_iff] <;> omega), q_fineG (by omega) R2, pbI_rI, if_pos (by decide), if_neg z]
        exact ⟨M', g1, fun _ => ⟨g2, g3⟩, fun h => absurd rfl h⟩
end RUL
/-! the reader of the rule that is kept: as 78a and 85b (by program) -/
def YSt (tx : Nat → Int) (st : Nat) (M : pM) (s : rgs) : Prop := M 30 2 = (st : Int) ∧ st ≤ 76 ∧ (∀ i, i < st → M 29 i = ux (tx i)) ∧ (∀ i, i < 80 → -128 ≤ tx i ∧ tx i ≤ 127) ∧ 0 ≤ M 30 1 ∧ M 30 1 ≤ 80 ∧ (match s with
  | .inl p => M 30 3 = (p : Int) ∧ p ≤ 80
  | .inr a => M 30 1 = (a : Int) ∧ a ≤ st ∧ M 30 3 = -1)
/-- all but where the reader stands is the same -/
def AGyo (M M' : pM) : Prop := ∀ o i, ¬ (o = 30 ∧ (i = 1 ∨ i = 3)) → M' o i = M o i
theorem AGyo_rfl {M : pM} : AGyo M M := fun _ _ _ => rfl
theorem AGyo_tr {M M1 M2 : pM} (h1 : AGyo M M1) (h2 : AGyo M1 M2) : AGyo M M2 := fun o i h => (h2 o i h).trans (h1 o i h)
theorem AGyo_set {M M' : pM} (h : AGyo M M') {k : Nat} {v : Int} (hk : k = 1 ∨ k = 3) : AGyo M (pset M' 30 k v) := fun o i q => by
  unfold pset
  rw [if_neg (fun z => q ⟨z.1, by omega⟩)]
  exact h o i q
section YR
variable {tx : Nat → Int} {st d : Nat} {M : pM}
theorem yh_range {s : rgs} (h : YSt tx st M s) (a : Nat) : -1 ≤ hx tx st a ∧ hx tx st a ≤ 255 := by
  have h4 := h.2.2.2.1
  have h2 := h.2.1
  unfold hx ux
  by_cases q : a < st
  · have := h4 a (by omega)
    rw [if_pos q]; split <;> omega
  · rw [if_neg q]; omega
/-- a sign of 0 to 127 is the same on both sides -/
theorem yh_hc {s : rgs} (h : YSt tx st M s) {a : Nat} {lo hi : Int} (h1 : 0 ≤ lo) (h2 : hi ≤ 127) : (lo ≤ hx tx st a ∧ hx tx st a ≤ hi) ↔ (lo ≤ hc tx st a ∧ hc tx st a ≤ hi) := by
  have h4 := h.2.2.2.1
  have h3 := h.2.1
  unfold hx hc ux
  by_cases q : a < st
  · have := h4 a (by omega)
    rw [if_pos q, if_pos q]; split <;> omega
  · rw [if_neg q, if_neg q]
theorem yh_same {s : rgs} (h : YSt tx st M s) {a : Nat} (h1 : 0 ≤ hc tx st a) : hx tx st a = hc tx st a := by
  unfold hx
  unfold hc at h1 ⊢
  by_cases q : a < st
  · rw [if_pos q] at h1 ⊢
    rw [if_pos q]; unfold ux; rw [if_neg (by omega)]
  · rw [if_neg q, if_neg q]
theorem yh_is {s : rgs} (h : YSt tx st M s) {a : Nat} {c : Int} (h1 : 0 ≤ c) (h2 : c ≤ 127) : hx tx st a = c ↔ hc tx st a = c := by
  have := yh_hc h (a := a) h1 h2
  constructor
  · intro e
    have := this.mp ⟨by omega, by omega⟩; omega
  · intro e
    have := this.mpr ⟨by omega, by omega⟩; omega
theorem yo_peekG (hd : 1 ≤ d) {a : Nat} (h : YSt tx st M (.inr a)) : xF d 133 [.inr 32] M = rI (hx tx st a) M := by
  obtain ⟨D, rfl, -⟩ := dsucc hd
  obtain ⟨h2, h3, h4, h5, h6, h7, h8, h9, h10⟩ := h
  rw [T_Reader_peek_30, h10, h8, h2, if_neg (fun z => z rfl), if_neg (by rw [lt32_iff] <;> omega)]
  unfold hx
  by_cases q : a < st
  · rw [if_neg (by rw [le32_iff] <;> omega), if_neg (by rw [le32_iff] <;> omega), if_pos (by omega), Int.toNat_natCast, h4 a (by omega), if_pos q]
  · rw [if_pos (by rw [le32_iff] <;> omega), if_neg q]
theorem yo_peekB (hd : 1 ≤ d) {p : Nat} (h : YSt tx st M (.inl p)) : xF d 133 [.inr 32] M = rI (-1) M := by
  obtain ⟨D, rfl, -⟩ := dsucc hd
  obtain ⟨h2, h3, h4, h5, h6, h7, h8, h9⟩ := h
  rw [T_Reader_peek_30, h8, if_pos (by rw [eq32_iff] <;> omega)]
theorem yo_goesG (hd : 1 ≤ d) {a : Nat} (h : YSt tx st M (.inr a)) : xF d 134 [.inr 32] M = rI (if a < st then 1 else 0) M := by
  obtain ⟨D, rfl, -⟩ := dsucc hd
  obtain ⟨h2, h3, h4, h5, h6, h7, h8, h9, h10⟩ := h
  rw [T_Reader_goesOn_30, h10, h8, h2, if_neg (fun z => z rfl)]
  by_cases q : a < st
  · rw [if_neg (by rw [le32_iff] <;> omega), if_pos q]
  · rw [if_pos (by rw [le32_iff] <;> omega), if_neg q]
theorem yo_goesB (hd : 1 ≤ d) {p : Nat} (h : YSt tx st M (.inl p)) : xF d 134 [.inr 32] M = rI 0 M := by
  obtain ⟨D, rfl, -⟩ := dsucc hd
  obtain ⟨h2, h3, h4, h5, h6, h7, h8, h9⟩ := h
  rw [T_Reader_goesOn_30, h8, if_pos (by rw [eq32_iff] <;> omega)]
theorem yo_failB (hd : 1 ≤ d) {p : Nat} (h : YSt tx st M (.inl p)) (v : Int) : xF d 135 [.inr 32, .inl v] M = rV M := by
  obtain ⟨D, rfl, -⟩ := dsucc hd
  obtain ⟨h2, h3, h4, h5, h6, h7, h8, h9⟩ := h
  rw [T_Reader_fail_30, h8, if_pos (by rw [eq32_iff] <;> omega)]
theorem yo_failG (hd : 1 ≤ d) {a : Nat} (h : YSt tx st M (.inr a)) {p : Nat} (hp : p ≤ 80) : xF d 135 [.inr 32, .inl (p : Int)] M = rV (pset M 30 3 p) ∧ YSt tx st (pset M 30 3 p) (.inl p) := by
  obtain ⟨D, rfl, -⟩ := dsucc hd
  obtain ⟨h2, h3, h4, h5, h6, h7, h8, h9, h10⟩ := h
  rw [T_Reader_fail_30, h10, if_neg (fun z => z rfl)]
  exact ⟨rfl, by rw [pset_ne2 (by decide)]; exact h2, h3, fun i hi => by rw [pset_ne (by decide)]; exact h4 i hi, h5, by rw [pset_ne2 (by decide)]; exact h6, by rw [pset_ne2 (by decide)]; exact h7, pset_eq, hp⟩
theorem YSt_next {a : Nat} (h : YSt tx st M (.inr a)) (ha : a < st) : YSt tx st (pset M 30 1 ((a : Int) + 1)) (.inr (a + 1)) := by
  obtain ⟨h2, h3, h4, h5, h6, h7, h8, h9, h10⟩ := h
  exact ⟨by rw [pset_ne2 (by decide)]; exact h2, h3, fun i hi => by rw [pset_ne (by decide)]; exact h4 i hi, h5, by rw [pset_eq]; omega, by rw [pset_eq]; omega, by rw [pset_eq]; omega, by omega, by rw [pset_ne2 (by decide)]; exact h10⟩
theorem YSt_at {a : Nat} (h : YSt tx st M (.inr a)) : M 30 1 = (a : Int) := h.2.2.2.2.2.2.1
theorem yo_take (hd : 2 ≤ d) {s : rgs} (h : YSt tx st M s) {c : Int} (hc0 : 0 ≤ c) (hc1 : c ≤ 127) : ∃ M', xF d 137 [.inr 32, .inl c] M = rV M' ∧ YSt tx st M' (sgN tx st c s) ∧ AGyo M M' := by
  obtain ⟨D, rfl, hD⟩ := dsucc hd
  rw [T_Reader_take_30]
  cases s with
  | inl p =>
    have h8 := h.2.2.2.2.2.2.1
    have h9 := h.2.2.2.2.2.2.2
    rw [h8, if_pos (by rw [eq32_iff] <;> omega), yo_failB (by omega) h, pbN_rV]
    exact ⟨M, rfl, h, AGyo_rfl⟩
  | inr a =>
    have h10 := h.2.2.2.2.2.2.2.2
    have ha := h.2.2.2.2.2.2.2.1
    have hr := yh_range h a
    have h3 := h.2.1
    rw [h10, if_neg (fun z => z rfl), yo_peekG (by omega) h, pbI_rI, YSt_at h]
    show ∃ M', _ ∧ YSt tx st M' (if hc tx st a = c then .inr (a + 1) else .inl a) ∧ AGyo M M'
    by_cases q : hc tx st a = c
    · have q2 := (yh_is h hc0 hc1).mpr q
      have hl : a < st := hc_lt (tx := tx) (st := st) (by rw [q]; omega)
      rw [if_neg (fun z => z (by rw [q2])), if_pos q]
      exact ⟨_, rfl, YSt_next h hl, AGyo_set AGyo_rfl (Or.inl rfl)⟩
    · have q2 : hx tx st a ≠ c := fun z => q ((yh_is h hc0 hc1).mp z)
      obtain ⟨e, r⟩ := yo_failG (d := D) (by omega) h (p := a) (by omega)
      rw [if_pos (by rw [eq32_iff] <;> omega), e, pbN_rV, if_neg q]
      exact ⟨_, rfl, r, AGyo_set AGyo_rfl (Or.inr rfl)⟩
/-- a digit of lo to hi: what it is when all is good -/
theorem yo_digit (hd : 3 ≤ d) {s : rgs} (h : YSt tx st M s) {lo hi : Int} (h1 : 0 ≤ lo) (h2 : lo ≤ 9) (h3 : -1 ≤ hi) (h4 : hi ≤ 9) : ∃ v M', xF d 139 [.inr 32, .inl lo, .inl (hi + 1)] M = rI v M' ∧ YSt tx st M' (sgD tx st lo hi s) ∧ AGyo M M' ∧ (-1 ≤ v ∧ v ≤ 9) ∧ (∀ b, sgD tx st lo hi s = .inr b → v = sgV tx st lo hi s) ∧ (∀ p, sgD tx st lo hi s = .inl p → v = -1) := by
  obtain ⟨D, rfl, hD⟩ := dsucc hd
  obtain ⟨D', rfl, hD'⟩ := dsucc (show 1 ≤ D by omega)
  rw [T_Reader_digit_30]
  cases s with
  | inl p =>
    rw [yo_peekB (by omega) h, pbI_rI, T_Reader_counted_30, if_pos (by rw [lt32_iff] <;> omega), yo_failB (by omega) h, pbN_rV, pbI_rI]
    exact ⟨_, M, rfl, h, AGyo_rfl, by decide, fun b hb => (by cases hb), fun _ _ => rfl⟩
  | inr a =>
    have ha := h.2.2.2.2.2.2.2.1
    have hr := yh_range h a
    have hst := h.2.1
    rw [yo_peekG (by omega) h, pbI_rI, T_Reader_counted_30, YSt_at h]
    show ∃ v M', _ ∧ YSt tx st M' (if 48 ≤ hc tx st a ∧ hc tx st a ≤ 57 ∧ lo ≤ hc tx st a - 48 ∧ hc tx st a - 48 ≤ hi then .inr (a + 1) else .inl a) ∧ AGyo M M' ∧ (-1 ≤ v ∧ v ≤ 9) ∧ (∀ b, (if 48 ≤ hc tx st a ∧ hc tx st a ≤ 57 ∧ lo ≤ hc tx st a - 48 ∧ hc tx st a - 48 ≤ hi then (.inr (a + 1) : rgs) else .inl a) = .inr b → v = if 48 ≤ hc tx st a ∧ hc tx st a ≤ 57 ∧ lo ≤ hc tx st a - 48 ∧ hc tx st a - 48 ≤ hi then hc tx st a - 48 else 0) ∧ (∀ p, (if 48 ≤ hc tx st a ∧ hc tx st a ≤ 57 ∧ lo ≤ hc tx st a - 48 ∧ hc tx st a - 48 ≤ hi then (.inr (a + 1) : rgs) else .inl a) = .inl p → v = -1)
    by_cases q : 48 ≤ hc tx st a ∧ hc tx st a ≤ 57 ∧ lo ≤ hc tx st a - 48 ∧ hc tx st a - 48 ≤ hi
    · have q2 := yh_same h (a := a) (by omega)
      have hl : a < st := hc_lt (tx := tx) (st := st) (by omega)
      rw [q2, if_neg (by rw [lt32_iff] <;> omega), if_pos (by rw [lt32_iff] <;> omega), pbI_rI, if_pos q, if_pos q]
      exact ⟨_, _, rfl, YSt_next h hl, AGyo_set AGyo_rfl (Or.inl rfl), by omega, fun _ _ => rfl, fun p hp => (by cases hp)⟩
    · have q2 : ¬ (lo + 48 ≤ hx tx st a ∧ hx tx st a ≤ hi + 48) := fun z => by
        have := (yh_hc h (a := a) (lo := lo + 48) (hi := hi + 48) (by omega) (by omega)).mp z
        omega
      obtain ⟨e, r⟩ := yo_failG (d := D') (by omega) h (p := a) (by omega)
      rw [if_neg q, if_neg q]
      by_cases q3 : hx tx st a - 48 < lo
      · rw [if_pos (by rw [lt32_iff] <;> omega), e, pbN_rV, pbI_rI]
        exact ⟨_, _, rfl, r, AGyo_set AGyo_rfl (Or.inr rfl), by decide, fun b hb => (by cases hb), fun _ _ => rfl⟩
      · rw [if_neg (by rw [lt32_iff] <;> omega), if_neg (by rw [lt32_iff] <;> omega), e, pbN_rV, pbI_rI]
        exact ⟨_, _, rfl, r, AGyo_set AGyo_rfl (Or.inr rfl), by decide, fun b hb => (by cases hb), fun _ _ => rfl⟩
theorem yo_seesG (hd : 2 ≤ d) {a : Nat} (h : YSt tx st M (.inr a)) : xF d 138 [.inr 32] M = rI (if 48 ≤ hc tx st a ∧ hc tx st a ≤ 57 then 1 else 0) M := by
  obtain ⟨D, rfl, hD⟩ := dsucc hd
  have hr := yh_range h a
  have e := yh_hc h (a := a) (lo := 48) (hi := 57) (by decide) (by decide)
  rw [T_Reader_seesDigit_30, yo_peekG (by omega) h, pbI_rI]
  by_cases q : 48 ≤ hc tx st a ∧ hc tx st a ≤ 57
  · have := e.mpr q
    rw [if_neg (by rw [lt32_iff] <;> omega), if_neg (by rw [lt32_iff] <;> omega), if_pos q]
  · have q2 : ¬ (48 ≤ hx tx st a ∧ hx tx st a ≤ 57) := fun z => q (e.mp z)
    rw [if_neg q]
    by_cases q3 : hx tx st a < 48
    · rw [if_pos (by rw [lt32_iff] <;> omega)]
    · rw [if_neg (by rw [lt32_iff] <;> omega), if_pos (by rw [lt32_iff] <;> omega)]
theorem yo_seesB (hd : 2 ≤ d) {p : Nat} (h : YSt tx st M (.inl p)) : xF d 138 [.inr 32] M = rI 0 M := by
  obtain ⟨D, rfl, hD⟩ := dsucc hd
  rw [T_Reader_seesDigit_30, yo_peekB (by omega) h, pbI_rI, if_pos (by decide)]
end YR
section YRU
variable {tx : Nat → Int} {st d D : Nat} {M M' : pM} {lv : Int → Int}
theorem yo_dig1 (hd : 3 ≤ d) {a : Nat} (h : YSt tx st M (.inr a)) (g : 48 ≤ hc tx st a ∧ hc tx st a ≤ 57) : ∃ M', xF d 139 [.inr 32, .inl 0, .inl 10] M = rI (hc tx st a - 48) M' ∧ YSt tx st M' (.inr (a + 1)) ∧ AGyo M M' := by
  obtain ⟨v, M1, e1, r1, a1, -, i1, -⟩ := yo_digit hd h (lo := 0) (hi := 9) (by decide) (by decide) (by decide) (by decide)
  have g1 : sgD tx st 0 9 (.inr a) = .inr (a + 1) := if_pos ⟨g.1, g.2, by omega, by omega⟩
  have g2 : sgV tx st 0 9 (.inr a) = hc tx st a - 48 := if_pos ⟨g.1, g.2, by omega, by omega⟩
  rw [g1] at r1
  have hv := i1 (a + 1) g1
  rw [g2] at hv
  have e1' : xF d 139 [.inr 32, .inl 0, .inl 10] M = rI v M1 := e1
  exact ⟨M1, by rw [e1', hv], r1, a1⟩
theorem yo_nS (hD : 3 ≤ D) {a k : Nat} (hk : k < 3) (h : YSt tx st M (.inr a)) (g : 48 ≤ hc tx st a ∧ hc tx st a ≤ 57) (x2 : Int) : ∃ M', xE D 151 4 [.inr 29, .inr 32, .inl x2, .inl (k : Int)] [] M = xE D 151 4 [.inr 29, .inr 32, .inl (x2 * 10 + (hc tx st a - 48)), .inl ((k + 1 : Nat) : Int)] [] M' ∧ YSt tx st M' (.inr (a + 1)) ∧ AGyo M M' := by
  obtain ⟨M1, e1, r1, a1⟩ := yo_dig1 hD h g
  refine ⟨M1, ?_, r1, a1⟩
  rw [L_Rule_number_30_4, if_neg (by rw [le32_iff] <;> omega), yo_seesG (by omega) h, pbI_rI, if_pos g, if_neg (by decide), e1, pbI_rI, show ((k : Int) + 1) = ((k + 1 : Nat) : Int) by omega]
theorem yo_nT (hD : 3 ≤ D) {a k : Nat} (hk : k ≤ 3) (h : YSt tx st M (.inr a)) (g : k = 3 ∨ ¬ (48 ≤ hc tx st a ∧ hc tx st a ≤ 57)) (x2 : Int) : xE D 151 4 [.inr 29, .inr 32, .inl x2, .inl (k : Int)] [] M = rI x2 M := by
  by_cases z : k = 3
  · rw [L_Rule_number_30_4, if_pos (by rw [le32_iff] <;> omega)]
  · rw [L_Rule_number_30_4, if_neg (by rw [le32_iff] <;> omega), yo_seesG (by omega) h, pbI_rI, if_neg (g.resolve_left z), if_pos (by decide)]
theorem yo_num (hd : 4 ≤ d) {a : Nat} (h : YSt tx st M (.inr a)) (g : 48 ≤ hc tx st a ∧ hc tx st a ≤ 57) : ∃ M', xF d 151 [.inr 29, .inr 32] M = rI (ndV tx st a) M' ∧ YSt tx st M' (.inr (a + ndS tx st a)) ∧ AGyo M M' := by
  obtain ⟨D, rfl, hD⟩ := dsucc hd
  obtain ⟨M1, e1, r1, a1⟩ := yo_nS (D := D) hD (k := 0) (by decide) h g 0
  rw [T_Rule_number_30, show (.inl 0 : pV) = .inl ((0 : Nat) : Int) from rfl]
  have e1 : xE D 151 4 [.inr 29, .inr 32, .inl ((0 : Nat) : Int), .inl ((0 : Nat) : Int)] [] M = xE D 151 4 [.inr 29, .inr 32, .inl (0 * 10 + (hc tx st a - 48)), .inl ((0 + 1 : Nat) : Int)] [] M1 := e1
  rw [e1]
  unfold ndS ndV
  by_cases g1 : 48 ≤ hc tx st (a + 1) ∧ hc tx st (a + 1) ≤ 57
  · obtain ⟨M2, e2, r2, a2⟩ := yo_nS (D := D) hD (k := 0 + 1) (by decide) r1 g1 (0 * 10 + (hc tx st a - 48))
    rw [if_pos g1, if_pos g1, e2]
    by_cases g2 : 48 ≤ hc tx st (a + 2) ∧ hc tx st (a + 2) ≤ 57
    · obtain ⟨M3, e3, r3, a3⟩ := yo_nS (D := D) hD (k := 0 + 1 + 1) (by decide) r2 g2 ((0 * 10 + (hc tx st a - 48)) * 10 + (hc tx st (a + 1) - 48))
      rw [if_pos g2, if_pos g2, e3, yo_nT hD (by decide) r3 (Or.inl rfl)]
      refine ⟨M3, ?_, r3, AGyo_tr a1 (AGyo_tr a2 a3)⟩
      exact congrArg (fun z => rI z M3) (by rw [show a + 1 + 1 = a + 2 from rfl]; omega)
    · rw [if_neg g2, if_neg g2, yo_nT hD (by decide) r2 (Or.inr g2)]
      exact ⟨M2, congrArg (fun z => rI z M2) (by omega), r2, AGyo_tr a1 a2⟩
  · rw [if_neg g1, if_neg g1, yo_nT hD (by decide) r1 (Or.inr g1)]
    exact ⟨M1, congrArg (fun z => rI z M1) (by omega), r1, a1⟩
def Yout (tx : Nat → Int) (st : Nat) (M : pM) (r : Option pR) (p : rgs × Int) : Prop := ∃ M', r = rI p.2 M' ∧ YSt tx st M' p.1 ∧ AGyo M M'
theorem Yout_tr {r : Option pR} {p : rgs × Int} (e : AGyo M M') (h : Yout tx st M' r p) : Yout tx st M r p := by
  obtain ⟨N, h1, h2, h3⟩ := h
  exact ⟨N, h1, h2, AGyo_tr e h3⟩
/-- the letters' values -/
def YHv (lv : Int → Int) (M : pM) : Prop := ∀ c, isL c = true → M 31 (ixc c).toNat = lv c
theorem YHv_ag (h : YHv lv M) (e : AGyo M M') : YHv lv M' := fun c hl => by rw [e 31 _ (by omega)]; exact h c hl
def YPn (n : Nat) : rgs → Prop
  | .inl _ => n ≤ 40
  | .inr a => n ≤ a
theorem YSt_le {a : Nat} (h : YSt tx st M (.inr a)) : a ≤ st := h.2.2.2.2.2.2.2.1
def YRP (tx : Nat → Int) (st : Nat) (lv : Int → Int) (f : Nat) : Prop := ∀ (b : Nat) (s : rgs) (M : pM) (d : Nat), b ≤ 4 → YSt tx st M s → YHv lv M →
  (rmu st 0 s < f → rmu st 0 s + 14 ≤ d → Yout tx st M (xF d 146 [.inr 29, .inr 32, .inl (b : Int)] M) (rp tx st lv f 0 b 0 s)) ∧
  (rmu st 1 s < f → rmu st 1 s + 14 ≤ d → Yout tx st M (xF d 147 [.inr 29, .inr 32, .inl (b : Int)] M) (rp tx st lv f 1 b 0 s)) ∧
  (rmu st 2 s < f → rmu st 2 s + 14 ≤ d → Yout tx st M (xF d 148 [.inr 29, .inr 32, .inl (b : Int)] M) (rp tx st lv f 2 b 0 s)) ∧
  (rmu st 3 s < f → rmu st 3 s + 13 ≤ d → ∀ (n : Nat) (fl : Int), (fl = 0 ∨ fl = 1) → YPn n s → Yout tx st M (xE d 149 4 [.inr 29, .inr 32, .inl (b : Int), .inl fl, .inl (n : Int)] [] M) ((rp tx st lv f 3 b 0 s).1, if fl = 0 then (rp tx st lv f 3 b 0 s).2 else -(rp tx st lv f 3 b 0 s).2)) ∧
  (rmu st 4 s < f → rmu st 4 s + 14 ≤ d → ∀ (x : Int) (n : Nat) (y5 y6 : pV), YPn n s → Yout tx st M (xE d 147 7 [.inr 29, .inr 32, .inl (b : Int), .inl x, .inl (n : Int), y5, y6] [] M) (rp tx st lv f 4 b x s)) ∧
  (rmu st 5 s < f → rmu st 5 s + 14 ≤ d → ∀ (x : Int) (n : Nat) (y5 y6 : pV), YPn n s → Yout tx st M (xE d 148 7 [.inr 29, .inr 32, .inl (b : Int), .inl x, .inl (n : Int), y5, y6] [] M) (rp tx st lv f 5 b x s))
theorem YP_all (h40 : st ≤ 40) : ∀ f, YRP tx st lv f
  | 0 => fun b s M d _ _ _ => ⟨fun h => absurd h (Nat.not_lt_zero _), fun h => absurd h (Nat.not_lt_zero _), fun h => absurd h (Nat.not_lt_zero _), fun h => absurd h (Nat.not_lt_zero _), fun h => absurd h (Nat.not_lt_zero _), fun h => absurd h (Nat.not_lt_zero _)⟩
  | f + 1 => fun b s M d hb R H => by
    have ih := YP_all h40 f
    -- a step on from a good place
    have go : ∀ (m : Nat) (a : Nat) (N : pM), YSt tx st N (.inr a) → a < st → YSt tx st (pset N 30 1 ((a : Int) + 1)) (.inr (a + 1)) ∧ ∀ m', rpk m' ≤ 4 ∧ rmu st m' (.inr (a + 1) : rgs) < rmu st m (.inr a : rgs) := fun m a N r h => ⟨YSt_next r h, fun m' => ⟨by unfold rpk; split <;> omega, by
      have k4 : rpk m' ≤ 4 := by unfold rpk; split <;> omega
      show 8 * (st + 1 - (a + 1)) + rpk m' < 8 * (st + 1 - a) + rpk m
      omega⟩⟩
    have ltc : ∀ {a : Nat} {c : Int}, hc tx st a = c → 0 ≤ c → a < st := fun {a c} h1 h2 => hc_lt (tx := tx) (st := st) (by rw [h1]; omega)
    have at1 : ∀ {N : pM}, AGyo N N := AGyo_rfl
    -- what comes behind something that was read
    have aft : ∀ {g m : Nat} {x : Int} (m' : Nat) {s : rgs} {N N' : pM}, m ≤ 3 → rpk m' < rpk m → YSt tx st N s → YSt tx st N' (rp tx st lv g m b x s).1 → rmu st m' (rp tx st lv g m b x s).1 < rmu st m s := fun {g m x} m' {s N N'} hm hk r1 r2 => rmu_lt hm (fun c e => by rw [e] at r2; exact YSt_le r2) (Or.inl hk) (fun _ _ => hk)
    -- how far the loops' counters are
    have cnt : ∀ {g m n a : Nat} {x : Int}, m ≤ 3 → n < 40 → n ≤ a → YPn (n + 1) (rp tx st lv g m b x (.inr (a + 1))).1 := fun {g m n a x} hm h1 h2 => by
      cases e : (rp tx st lv g m b x (.inr (a + 1))).1 with
      | inl q => exact (show n + 1 ≤ 40 by omega)
      | inr c =>
        obtain ⟨a', ea, h3, h4⟩ := rp_up g m b x _ c e
        cases ea
        exact (show n + 1 ≤ c by omega)
    refine ⟨fun hf hd => ?_, fun hf hd => ?_, fun hf hd => ?_, fun hf hd n fl hfl hn => ?_, fun hf hd x n y5 y6 hn => ?_, fun hf hd x n y5 y6 hn => ?_⟩
    · -- compared
      obtain ⟨D, rfl, hD⟩ := dsucc (show 1 ≤ d by omega)
      have k : rmu st 1 s + 1 = rmu st 0 s := by cases s <;> rfl
      obtain ⟨M1, e1, R1, A1⟩ := (ih b s M D hb R H).2.1 (by omega) (by omega)
      have H1 := YHv_ag H A1
      show Yout tx st M _ (rpH tx st (rp tx st lv f) b s)
      rw [T_Rule_compared_30, e1, pbI_rI]
      unfold rpH
      have lt1 := aft (m := 1) (m' := 2) (g := f) (x := 0) (N := M) (N' := M1) (by decide) (by decide) R R1
      cases e : (rp tx st lv f 1 b 0 s).1 with
      | inl p =>
        rw [e] at R1
        rw [yo_peekB (by omega) R1, pbI_rI, if_neg (by decide), if_neg (by decide), if_neg (by decide)]
        exact ⟨M1, rfl, by rw [e]; exact R1, A1⟩
      | inr a =>
        rw [e] at R1 lt1
        have lt1 : 8 * (st + 1 - a) + 2 < rmu st 1 s := lt1
        have la := YSt_le R1
        have hr := yh_range R1 a
        have hat := YSt_at R1
        dsimp only
        have nx : ∀ c : Int, 0 ≤ c → hc tx st a = c → ∃ M2, xF D 147 [.inr 29, .inr 32, .inl (b : Int)] (pset M1 30 1 ((a : Int) + 1)) = rI (rp tx st lv f 1 b 0 (.inr (a + 1))).2 M2 ∧ YSt tx st M2 (rp tx st lv f 1 b 0 (.inr (a + 1))).1 ∧ AGyo M M2 := fun c c0 hc' => by
          obtain ⟨R2, g2⟩ := go 2 a M1 R1 (ltc hc' c0)
          have g3 : rmu st 1 (.inr (a + 1) : rgs) < 8 * (st + 1 - a) + 2 := (g2 1).2
          obtain ⟨M2, e2, R3, A3⟩ := (ih b (.inr (a + 1)) _ D hb R2 (YHv_ag H1 (AGyo_set at1 (Or.inl rfl)))).2.1 (by omega) (by omega)
          exact ⟨M2, e2, R3, AGyo_tr (AGyo_set A1 (Or.inl rfl)) A3⟩
        rw [yo_peekG (by omega) R1, pbI_rI, hat]
        by_cases k1 : hc tx st a = 60
        · obtain ⟨M2, e2, R2, A2⟩ := nx 60 (by decide) k1
          have q1 := (yh_is R1 (by decide) (by decide)).mpr k1
          rw [q1, if_pos (by decide), if_pos k1, e2, pbI_rI, if_neg (by decide)]
          refine ⟨M2, ?_, R2, A2⟩
          by_cases z : le32 (rp tx st lv f 1 b 0 (.inr (a + 1))).2 (rp tx st lv f 1 b 0 s).2
          · rw [if_pos z, if_pos z, if_pos (by decide)]
          · rw [if_neg z, if_neg z, if_neg (by decide)]
        · have q1 : hx tx st a ≠ 60 := fun z => k1 ((yh_is R1 (by decide) (by decide)).mp z)
          rw [if_neg (by rw [eq32_iff] <;> omega), if_neg k1]
          by_cases k2 : hc tx st a = 62
          · obtain ⟨M2, e2, R2, A2⟩ := nx 62 (by decide) k2
            have q2 := (yh_is R1 (by decide) (by decide)).mpr k2
            rw [q2, if_pos (by decide), if_pos k2, e2, pbI_rI, if_pos (by decide), if_neg (by decide)]
            refine ⟨M2, ?_, R2, A2⟩
            by_cases z : le32 (rp tx st lv f 1 b 0 s).2 (rp tx st lv f 1 b 0 (.inr (a + 1))).2
            · rw [if_pos z, if_pos z, if_pos (by decide)]
            · rw [if_neg z, if_neg z, if_neg (by decide)]
          · have q2 : hx tx st a ≠ 62 := fun z => k2 ((yh_is R1 (by decide) (by decide)).mp z)
            rw [if_neg (by rw [eq32_iff] <;> omega), if_neg k2]
            by_cases k3 : hc tx st a = 61
            · obtain ⟨M2, e2, R2, A2⟩ := nx 61 (by decide) k3
              have q3 := (yh_is R1 (by decide) (by decide)).mpr k3
              rw [q3, if_pos (by decide), if_pos k3, e2, pbI_rI, if_pos (by decide), if_pos (by decide)]
              refine ⟨M2, ?_, R2, A2⟩
              by_cases z : eq32 (rp tx st lv f 1 b 0 s).2 (rp tx st lv f 1 b 0 (.inr (a + 1))).2
              · rw [if_neg (fun w => w z), if_neg (by decide), if_neg (fun w => w z)]
              · rw [if_pos z, if_pos z, if_pos (by decide)]
            · have q3 : hx tx st a ≠ 61 := fun z => k3 ((yh_is R1 (by decide) (by decide)).mp z)
              rw [if_neg (by rw [eq32_iff] <;> omega), if_neg k3]
              exact ⟨M1, rfl, by rw [e]; exact R1, A1⟩
    · -- summed
      obtain ⟨D, rfl, hD⟩ := dsucc (show 1 ≤ d by omega)
      have k : rmu st 2 s + 1 = rmu st 1 s := by cases s <;> rfl
      obtain ⟨M1, e1, R1, A1⟩ := (ih b s M D hb R H).2.2.1 (by omega) (by omega)
      have lt1 := aft (m := 2) (m' := 4) (g := f) (x := 0) (N := M) (N' := M1) (by decide) (by decide) R R1
      rw [T_Rule_summed_30, e1, pbI_rI]
      exact Yout_tr A1 ((ih b _ M1 D hb R1 (YHv_ag H A1)).2.2.2.2.1 (by omega) (by omega) _ 0 _ _ (by
        cases (rp tx st lv f 2 b 0 s).1
        · exact Nat.zero_le _
        · exact Nat.zero_le _))
    · -- multiplied
      obtain ⟨D, rfl, hD⟩ := dsucc (show 1 ≤ d by omega)
      obtain ⟨D', rfl, hD'⟩ := dsucc (show 1 ≤ D by omega)
      have k : rmu st 3 s + 1 = rmu st 2 s := by cases s <;> rfl
      obtain ⟨M1, e1, R1, A1⟩ := (ih b s M D' hb R H).2.2.2.1 (by omega) (by omega) 0 0 (Or.inl rfl) (by
        cases s
        · exact Nat.zero_le _
        · exact Nat.zero_le _)
      have e1 : xE D' 149 4 [.inr 29, .inr 32, .inl (b : Int), .inl 0, .inl 0] [] M = rI (rp tx st lv f 3 b 0 s).2 M1 := e1
      have R1 : YSt tx st M1 (rp tx st lv f 3 b 0 s).1 := R1
      have lt1 := aft (m := 3) (m' := 5) (g := f) (x := 0) (N := M) (N' := M1) (by decide) (by decide) R R1
      rw [T_Rule_multiplied_30, T_Rule_negated_30, e1, pbI_rI]
      exact Yout_tr A1 ((ih b _ M1 (D' + 1) hb R1 (YHv_ag H A1)).2.2.2.2.2 (by omega) (by omega) _ 0 _ _ (by
        cases (rp tx st lv f 3 b 0 s).1
        · exact Nat.zero_le _
        · exact Nat.zero_le _))
    · -- negated
      show Yout tx st M _ ((rpF tx st lv (rp tx st lv f) b s).1, if fl = 0 then (rpF tx st lv (rp tx st lv f) b s).2 else -(rpF tx st lv (rp tx st lv f) b s).2)
      -- a thing without a minus ahead of it
      have sg : (∀ a, s = .inr a → hc tx st a ≠ 45) → Yout tx st M (xF d 150 [.inr 29, .inr 32, .inl (b : Int)] M) (rpF tx st lv (rp tx st lv f) b s) := fun h45 => by
        obtain ⟨D, rfl, hD⟩ := dsucc (show 1 ≤ d by omega)
        cases s with
        | inl p =>
          rw [T_Rule_single_30, yo_peekB (by omega) R, pbI_rI, yo_seesB (by omega) R, pbI_rI, if_pos (by decide), if_neg (by decide), if_pos (by decide), if_pos (by decide), yo_failB (by omega) R, pbN_rV]
          exact ⟨M, rfl, R, AGyo_rfl⟩
        | inr a =>
          have la := YSt_le R
          have hr := yh_range R a
          have hat := YSt_at R
          have m0 : rmu st 3 (.inr a : rgs) = 8 * (st + 1 - a) + 1 := rfl
          have n45 := h45 a rfl
          obtain ⟨ef, rf⟩ := yo_failG (d := D) (by omega) R (p := a) (by omega)
          have bad : AGyo M (pset M 30 3 (a : Int)) := AGyo_set AGyo_rfl (Or.inr rfl)
          unfold rpF
          dsimp only
          rw [T_Rule_single_30, yo_peekG (by omega) R, pbI_rI, yo_seesG (by omega) R, pbI_rI, if_neg n45]
          by_cases k3 : 48 ≤ hc tx st a ∧ hc tx st a ≤ 57
          · obtain ⟨M2, e2, R2, A2⟩ := yo_num (d := D) (by omega) R k3
            rw [if_pos k3, if_neg (by decide), if_neg (show ¬ (hc tx st a = 40 ∧ b < 4) by omega), if_pos k3, e2, pbI_rI]
            exact ⟨M2, rfl, R2, A2⟩
          · rw [if_neg k3, if_pos (by decide)]
            by_cases z : hx tx st a < 0
            · have hn : hc tx st a = -1 := by
                unfold hx at z
                unfold hc
                by_cases y : a < st
                · rw [if_pos y] at z
                  unfold ux at z
                  have := R.2.2.2.1 a (by have := R.2.1; omega)
                  split at z <;> omega
                · rw [if_neg y]
              rw [if_neg (by rw [le32_iff] <;> omega), if_pos (by decide), if_pos (by rw [eq32_iff] <;> omega), hat, ef, pbN_rV, if_neg (by omega), if_neg (by omega), hn, if_neg (by decide)]
              exact ⟨_, rfl, rf, bad⟩
            · rw [if_pos (by rw [le32_iff] <;> omega), s_ix (by omega) (by omega), pbI_rI, hat]
              by_cases k2 : hc tx st a = 40
              · have q2 := (yh_is R (by decide) (by decide)).mpr k2
                rw [q2, show ixc 40 = -1 by decide, if_pos (by decide), if_neg (by decide)]
                by_cases k4 : b < 4
                · obtain ⟨R2, g2⟩ := go 3 a M R (ltc k2 (by decide))
                  have g3 := (g2 0).2
                  have m1 : rmu st 0 (.inr (a + 1) : rgs) = 8 * (st + 1 - (a + 1)) + 4 := rfl
                  have lt := ltc k2 (by decide)
                  obtain ⟨M2, e2, R3, A3⟩ := (ih (b + 1) (.inr (a + 1)) _ D (by omega) R2 (YHv_ag H (AGyo_set at1 (Or.inl rfl)))).1 (by omega) (by omega)
                  obtain ⟨M3, e3, R4, A4⟩ := yo_take (d := D) (by omega) R3 (c := 41) (by decide) (by decide)
                  rw [if_pos (by rw [lt32_iff] <;> omega), if_pos ⟨k2, k4⟩, show ((b : Int) + 1) = ((b + 1 : Nat) : Int) by omega, e2, pbI_rI, e3, pbN_rV]
                  exact ⟨M3, rfl, R4, AGyo_tr (AGyo_tr (AGyo_set AGyo_rfl (Or.inl rfl)) A3) A4⟩
                · rw [if_neg (by rw [lt32_iff] <;> omega), if_neg (fun w => k4 w.2), ef, pbN_rV, if_neg k3, k2, if_neg (by decide)]
                  exact ⟨_, rfl, rf, bad⟩
              · have q2 : hx tx st a ≠ 40 := fun w => k2 ((yh_is R (by decide) (by decide)).mp w)
                rw [if_neg (show ¬ (hc tx st a = 40 ∧ b < 4) from fun w => k2 w.1), if_neg k3]
                have same : isL (hc tx st a) = true → hx tx st a = hc tx st a := fun hl => yh_same R (by
                  have := of_decide_eq_true hl
                  omega)
                rcases ixc_L (hx tx st a) with ⟨l1, l2, l3⟩ | ⟨l1, l2⟩
                · have l4 := of_decide_eq_true l1
                  have e4 : hx tx st a = hc tx st a := by
                    have := (yh_hc R (a := a) (lo := 0) (hi := 127) (by decide) (by decide)).mp (by omega)
                    exact yh_same R this.1
                  have lt : a < st := hc_lt (tx := tx) (st := st) (by rw [← e4]; omega)
                  rw [if_neg (by rw [lt32_iff] <;> omega), if_neg (by rw [le32_iff] <;> omega), if_pos (by omega), pset_ne (by decide), e4]
                  rw [e4] at l1
                  rw [H _ l1, if_pos l1]
                  exact ⟨_, rfl, YSt_next R lt, AGyo_set AGyo_rfl (Or.inl rfl)⟩
                · have l5 : ¬ isL (hc tx st a) = true := fun hl => by
                    rw [same hl] at l1
                    rw [l1] at hl; cases hl
                  rw [l2, if_pos (by decide), if_pos (by rw [eq32_iff] <;> omega), ef, pbN_rV, if_neg l5]
                  exact ⟨_, rfl, rf, bad⟩
      have fin : Yout tx st M (xF d 150 [.inr 29, .inr 32, .inl (b : Int)] M) (rpF tx st lv (rp tx st lv f) b s) → Yout tx st M (pbI (xF d 150 [.inr 29, .inr 32, .inl (b : Int)] M) fun v2 M1 => if eq32 fl 0 then rI v2 M1 else some (some (.inl (-v2)), M1)) ((rpF tx st lv (rp tx st lv f) b s).1, if fl = 0 then (rpF tx st lv (rp tx st lv f) b s).2 else -(rpF tx st lv (rp tx st lv f) b s).2) := fun h => by
        obtain ⟨M2, e2, R2, A2⟩ := h
        rw [e2, pbI_rI]
        rcases hfl with rfl | rfl
        · rw [if_pos (by decide), if_pos rfl]
          exact ⟨M2, rfl, R2, A2⟩
        · rw [if_neg (by decide), if_neg (by decide)]
          exact ⟨M2, rfl, R2, A2⟩
      rw [L_Rule_negated_30_4]
      cases s with
      | inl p =>
        have hn : n ≤ 40 := hn
        by_cases z : n = 40
        · rw [if_pos (by rw [le32_iff] <;> omega)]
          exact fin (sg (fun a h => by cases h))
        · rw [if_neg (by rw [le32_iff] <;> omega), yo_peekB (by omega) R, pbI_rI, if_pos (by decide)]
          exact fin (sg (fun a h => by cases h))
      | inr a =>
        have hn : n ≤ a := hn
        have la := YSt_le R
        have hr := yh_range R a
        by_cases z : n = 40
        · have h1 : hc tx st a = -1 := by
            unfold hc
            rw [if_neg (by omega)]
          rw [if_pos (by rw [le32_iff] <;> omega)]
          exact fin (sg (fun a' h => by cases h; rw [h1]; decide))
        · rw [if_neg (by rw [le32_iff] <;> omega), yo_peekG (by omega) R, pbI_rI]
          by_cases k1 : hc tx st a = 45
          · have q1 := (yh_is R (by decide) (by decide)).mpr k1
            obtain ⟨R2, g2⟩ := go 3 a M R (ltc k1 (by decide))
            have g3 := (g2 3).2
            have cn : YPn (n + 1) (.inr (a + 1) : rgs) := Nat.succ_le_succ hn
            have e3 : rpF tx st lv (rp tx st lv f) b (.inr a) = ((rp tx st lv f 3 b 0 (.inr (a + 1))).1, -(rp tx st lv f 3 b 0 (.inr (a + 1))).2) := by
              unfold rpF
              dsimp only
              rw [if_pos k1]
            rw [q1, if_neg (by decide), YSt_at R, e3, show ((n : Int) + 1) = ((n + 1 : Nat) : Int) by omega]
            have A2 : AGyo M (pset M 30 1 ((a : Int) + 1)) := AGyo_set AGyo_rfl (Or.inl rfl)
            rcases hfl with rfl | rfl
            · obtain ⟨M3, e4, R3, A3⟩ := (ih b (.inr (a + 1)) _ d hb R2 (YHv_ag H A2)).2.2.2.1 (by omega) (by omega) (n + 1) 1 (Or.inr rfl) cn
              rw [if_neg (by decide), e4]
              exact ⟨M3, rfl, R3, AGyo_tr A2 A3⟩
            · obtain ⟨M3, e4, R3, A3⟩ := (ih b (.inr (a + 1)) _ d hb R2 (YHv_ag H A2)).2.2.2.1 (by omega) (by omega) (n + 1) 0 (Or.inl rfl) cn
              rw [if_pos (by decide), e4]
              refine ⟨M3, ?_, R3, AGyo_tr A2 A3⟩
              show rI (rp tx st lv f 3 b 0 (.inr (a + 1))).2 M3 = rI (- -(rp tx st lv f 3 b 0 (.inr (a + 1))).2) M3
              rw [Int.neg_neg]
          · have q1 : hx tx st a ≠ 45 := fun w => k1 ((yh_is R (by decide) (by decide)).mp w)
            rw [if_pos (by rw [eq32_iff] <;> omega)]
            exact fin (sg (fun a' h => by cases h; exact k1))
    · -- on with a sum
      show Yout tx st M _ (rpA tx st (rp tx st lv f) b x s)
      unfold rpA
      rw [L_Rule_summed_30_7]
      cases s with
      | inl p =>
        have hn : n ≤ 40 := hn
        by_cases z : n = 40
        · rw [if_pos (by rw [le32_iff] <;> omega)]
          exact ⟨M, rfl, R, AGyo_rfl⟩
        · rw [if_neg (by rw [le32_iff] <;> omega), yo_peekB (by omega) R, pbI_rI, if_neg (by decide), if_neg (by decide)]
          exact ⟨M, rfl, R, AGyo_rfl⟩
      | inr a =>
        have hn : n ≤ a := hn
        have la := YSt_le R
        have hr := yh_range R a
        have hat := YSt_at R
        have m0 : rmu st 4 (.inr a : rgs) = 8 * (st + 1 - a) := rfl
        dsimp only
        by_cases z : n = 40
        · have h1 : hc tx st a = -1 := by
            unfold hc
            rw [if_neg (by omega)]
          rw [if_pos (by rw [le32_iff] <;> omega), h1, if_neg (by decide), if_neg (by decide)]
          exact ⟨M, rfl, R, AGyo_rfl⟩
        · have nx : ∀ c : Int, 0 ≤ c → hc tx st a = c → ∃ M2, xF d 148 [.inr 29, .inr 32, .inl (b : Int)] (pset M 30 1 ((a : Int) + 1)) = rI (rp tx st lv f 2 b 0 (.inr (a + 1))).2 M2 ∧ ∀ (x : Int) (y5 y6 : pV), Yout tx st M (xE d 147 7 [.inr 29, .inr 32, .inl (b : Int), .inl x, .inl ((n + 1 : Nat) : Int), y5, y6] [] M2) (rp tx st lv f 4 b x (rp tx st lv f 2 b 0 (.inr (a + 1))).1) := fun c c0 hc' => by
            obtain ⟨R2, g2⟩ := go 4 a M R (ltc hc' c0)
            have g3 := (g2 2).2
            have A2 : AGyo M (pset M 30 1 ((a : Int) + 1)) := AGyo_set AGyo_rfl (Or.inl rfl)
            obtain ⟨M2, e2, R3, A3⟩ := (ih b (.inr (a + 1)) _ d hb R2 (YHv_ag H A2)).2.2.1 (by omega) (by omega)
            have lt1 := aft (m := 2) (m' := 4) (g := f) (x := 0) (by decide) (by decide) R2 R3
            have A4 : AGyo M M2 := AGyo_tr A2 A3
            exact ⟨M2, e2, fun x y5 y6 => Yout_tr A4 ((ih b _ M2 d hb R3 (YHv_ag H A4)).2.2.2.2.1 (by omega) (by omega) x (n + 1) y5 y6 (cnt (by decide) (by omega) hn))⟩
          rw [if_neg (by rw [le32_iff] <;> omega), yo_peekG (by omega) R, pbI_rI, hat, show ((n : Int) + 1) = ((n + 1 : Nat) : Int) by omega]
          by_cases k1 : hc tx st a = 43
          · obtain ⟨M2, e2, h2⟩ := nx 43 (by decide) k1
            have q1 := (yh_is R (by decide) (by decide)).mpr k1
            rw [q1, if_pos (by decide), e2, pbI_rI, if_neg (by decide), if_pos k1]
            exact h2 _ _ _
          · have q1 : hx tx st a ≠ 43 := fun w => k1 ((yh_is R (by decide) (by decide)).mp w)
            rw [if_neg (by rw [eq32_iff] <;> omega), if_neg k1]
            by_cases k2 : hc tx st a = 45
            · obtain ⟨M2, e2, h2⟩ := nx 45 (by decide) k2
              have q2 := (yh_is R (by decide) (by decide)).mpr k2
              rw [q2, if_pos (by decide), e2, pbI_rI, if_pos (by decide), if_pos k2]
              exact h2 _ _ _
            · have q2 : hx tx st a ≠ 45 := fun w => k2 ((yh_is R (by decide) (by decide)).mp w)
              rw [if_neg (by rw [eq32_iff] <;> omega), if_neg k2]
              exact ⟨M, rfl, R, AGyo_rfl⟩
    · -- on with a product
      show Yout tx st M _ (rpT tx st (rp tx st lv f) b x s)
      unfold rpT
      rw [L_Rule_multiplied_30_7]
      cases s with
      | inl p =>
        have hn : n ≤ 40 := hn
        by_cases z : n = 40
        · rw [if_pos (by rw [le32_iff] <;> omega)]
          exact ⟨M, rfl, R, AGyo_rfl⟩
        · rw [if_neg (by rw [le32_iff] <;> omega), yo_peekB (by omega) R, pbI_rI, if_neg (by decide), if_neg (by decide)]
          exact ⟨M, rfl, R, AGyo_rfl⟩
      | inr a =>
        have hn : n ≤ a := hn
        have la := YSt_le R
        have hr := yh_range R a
        have hat := YSt_at R
        have m0 : rmu st 5 (.inr a : rgs) = 8 * (st + 1 - a) := rfl
        dsimp only
        by_cases z : n = 40
        · have h1 : hc tx st a = -1 := by
            unfold hc
            rw [if_neg (by omega)]
          rw [if_pos (by rw [le32_iff] <;> omega), h1, if_neg (by decide), if_neg (by decide)]
          exact ⟨M, rfl, R, AGyo_rfl⟩
        · have nx : ∀ c : Int, 0 ≤ c → hc tx st a = c → ∃ M2, xF d 149 [.inr 29, .inr 32, .inl (b : Int)] (pset M 30 1 ((a : Int) + 1)) = rI (rp tx st lv f 3 b 0 (.inr (a + 1))).2 M2 ∧ ∀ (x : Int) (y5 y6 : pV), Yout tx st M (xE d 148 7 [.inr 29, .inr 32, .inl (b : Int), .inl x, .inl ((n + 1 : Nat) : Int), y5, y6] [] M2) (rp tx st lv f 5 b x (rp tx st lv f 3 b 0 (.inr (a + 1))).1) := fun c c0 hc' => by
            obtain ⟨R2, g2⟩ := go 5 a M R (ltc hc' c0)
            have g3 := (g2 3).2
            have A2 : AGyo M (pset M 30 1 ((a : Int) + 1)) := AGyo_set AGyo_rfl (Or.inl rfl)
            obtain ⟨D, hDd, -⟩ := dsucc (show 1 ≤ d by omega)
            obtain ⟨M2, e2, R3, A3⟩ := (ih b (.inr (a + 1)) _ D hb R2 (YHv_ag H A2)).2.2.2.1 (by omega) (by omega) 0 0 (Or.inl rfl) (Nat.zero_le _)
            have e2 : xE D 149 4 [.inr 29, .inr 32, .inl (b : Int), .inl 0, .inl 0] [] (pset M 30 1 ((a : Int) + 1)) = rI (rp tx st lv f 3 b 0 (.inr (a + 1))).2 M2 := e2
            have R3 : YSt tx st M2 (rp tx st lv f 3 b 0 (.inr (a + 1))).1 := R3
            have lt1 := aft (m := 3) (m' := 5) (g := f) (x := 0) (by decide) (by decide) R2 R3
            have A4 : AGyo M M2 := AGyo_tr A2 A3
            refine ⟨M2, ?_, fun x y5 y6 => Yout_tr A4 ((ih b _ M2 d hb R3 (YHv_ag H A4)).2.2.2.2.2 (by omega) (by omega) x (n + 1) y5 y6 (cnt (by decide) (by omega) hn))⟩
            rw [hDd, T_Rule_negated_30, e2]
          rw [if_neg (by rw [le32_iff] <;> omega), yo_peekG (by omega) R, pbI_rI, hat, show ((n : Int) + 1) = ((n + 1 : Nat) : Int) by omega]
          by_cases k1 : hc tx st a = 42
          · obtain ⟨M2, e2, h2⟩ := nx 42 (by decide) k1
            have q1 := (yh_is R (by decide) (by decide)).mpr k1
            rw [q1, if_pos (by decide), e2, pbI_rI, if_neg (by decide), if_pos k1]
            exact h2 _ _ _
          · have q1 : hx tx st a ≠ 42 := fun w => k1 ((yh_is R (by decide) (by decide)).mp w)
            rw [if_neg (by rw [eq32_iff] <;> omega), if_neg k1]
            by_cases k2 : hc tx st a = 47
            · obtain ⟨M2, e2, h2⟩ := nx 47 (by decide) k2
              have q2 := (yh_is R (by decide) (by decide)).mpr k2
              rw [q2, if_pos (by decide), e2, pbI_rI, if_pos (by decide), if_pos k2]
              by_cases z : eq32 (rp tx st lv f 3 b 0 (.inr (a + 1))).2 0
              · rw [if_neg (fun w => w z), if_pos z]
                exact h2 _ _ _
              · rw [if_pos z, if_neg z, if_neg z]
                exact h2 _ _ _
            · have q2 : hx tx st a ≠ 47 := fun w => k2 ((yh_is R (by decide) (by decide)).mp w)
              rw [if_neg (by rw [eq32_iff] <;> omega), if_neg k2]
              exact ⟨M, rfl, R, AGyo_rfl⟩
end YRU
/-! what a thing is worth in a room, on both sides -/
def lvG (G : pM) (t r : Nat) (c : Int) : Int := if c = 105 then (t : Int) else if c = 98 then G 3 t else if c = 119 then G 4 t else if c = 103 then G 5 t else if c = 107 then ((popc (sOf G t) : Nat) : Int) else if c = 114 then (r : Int) else if c = 122 then G 1 r else if c = 100 then ((popc (nxt G 1 r) : Nat) : Int) else if G 6 t = (r : Int) then 1 else 0
noncomputable def wvG (G : pM) (tx : Nat → Int) (L t r : Nat) : Int := if L = 0 then 0 else jmax (-999) (jmin 999 (rp tx L (lvG G t r) 400 0 0 0 (.inr 0)).2)
section WOR
variable {tx : Nat → Int} {d D L : Nat} {M M' M1 M2 N G : pM} {w1 w2 : List (Nat × Nat)} {v y : Int} {lv : Int → Int}
theorem m_besH (hD : 1 ≤ d) (W : WF G) (X : MH M G) {r : Nat} (hr : r < hR G) : xF d 197 [.inr 62, .inl (r : Int)] M = rI (nxt G 1 r : Nat) M := by
  obtain ⟨D, rfl, -⟩ := dsucc hD
  have w1 := W.1
  rw [T_M_besides]
  have key := bits_loop (fun b k => xE D 197 4 [.inr 62, .inl (r : Int), .inl b, .inl k] [] M) (hR G) (fun b => decide (1 ≤ G 2 (6 * r + b))) (fun k b hk hb => by
    have hv := W.2.2.2.2.1 (6 * r + k) (by omega)
    have hb2 : b < 2147483648 := Nat.lt_trans hb (Nat.lt_of_le_of_lt (Nat.pow_le_pow_right (by decide) (show k ≤ 6 by omega)) (by decide))
    rw [L_M_besides_4, X.1, if_neg (by rw [le32_iff] <;> omega), if_pos (by omega), show (6 * (r : Int) + (k : Int)).toNat = 6 * r + k by omega, X.2.2.2.2.1 _ (by omega)]
    by_cases q : G 2 (6 * r + k) ≤ 0
    · rw [if_pos (by rw [le32_iff] <;> omega), if_neg (by simp; omega), jor_0 hb2]
    · rw [if_neg (by rw [le32_iff] <;> omega), if_pos (by simp; omega), jor_shl hb (by omega)])
  rw [key, L_M_besides_4, X.1, if_pos (by rw [le32_iff] <;> omega)]
  rfl
theorem m_sOf (hd : 2 ≤ d) (W : WF G) (X : MH M G) {t : Nat} (ht : t < hT G) : xF d 196 [.inr 62, .inl (t : Int)] M = rI (sOf G t : Nat) M := by
  obtain ⟨D, rfl, hD⟩ := dsucc hd
  have w2 := W.2.1
  have w3 := W.2.2.1
  rw [T_M_setsOf]
  have key := bits_loop (fun b k => xE D 196 4 [.inr 62, .inl (t : Int), .inl b, .inl k] [] M) (hS G) (fun s => (me G s).testBit t) (fun k b hk hb => by
    have hb2 : b < 2147483648 := Nat.lt_trans hb (Nat.lt_of_le_of_lt (Nat.pow_le_pow_right (by decide) (show k ≤ 8 by omega)) (by decide))
    have ml := me_lt W hk
    rw [L_M_setsOf_4, X.2.2.1, if_neg (by rw [le32_iff] <;> omega), if_pos (by omega), Int.toNat_natCast, X.2.2.2.2.2.2 k hk, m_has (by omega) (by omega) (by omega), pbI_rI, ite01]
    by_cases q : (me G k).testBit t = true
    · rw [if_pos q, if_pos q, jor_shl hb (by omega)]
    · rw [if_neg q, if_neg q, jor_0 hb2])
  rw [key, L_M_setsOf_4, X.2.2.1, if_pos (by rw [le32_iff] <;> omega)]
  rfl
theorem sOf_1024 (W : WF G) (t : Nat) : sOf G t < 1024 := Nat.lt_of_lt_of_le (sOf_lt t) (show 2 ^ hS G ≤ 2 ^ 10 from Nat.pow_le_pow_right (by decide) (by have := W.2.2.1; omega))
theorem nxt_1024 (W : WF G) (w : Int) (r : Nat) : nxt G w r < 1024 := Nat.lt_of_lt_of_le (bitsOf_lt _ _) (show 2 ^ hR G ≤ 2 ^ 10 from Nat.pow_le_pow_right (by decide) (by have := W.1; omega))
theorem m_letterG (hd : 5 ≤ d) (W : WF G) (X : MH M G) {t r : Nat} (ht : t < hT G) (hr : r < hR G) {c : Int} (hl : isL c = true) : xF d 192 [.inr 62, .inl c, .inl (t : Int), .inl (r : Int)] M = rI (lvG G t r c) M := by
  obtain ⟨D, rfl, hD⟩ := dsucc (show 1 ≤ d by omega)
  have w1 := W.1
  have w2 := W.2.1
  have tX := X.2.2.2.2.2.1 t ht
  have wr := (W.2.2.2.2.2.2.2.1 t ht).2.2.2
  have hl := of_decide_eq_true hl
  rcases hl with rfl | rfl | rfl | rfl | rfl | rfl | rfl | rfl | rfl
  · have e : xF (D + 1) 192 [.inr 62, .inl 105, .inl (t : Int), .inl (r : Int)] M = rI (t : Int) M := by
      rw [T_M_letter]
      repeat rw [if_neg (by decide)]
      rw [if_pos (by decide)]
    exact e
  · have e : xF (D + 1) 192 [.inr 62, .inl 98, .inl (t : Int), .inl (r : Int)] M = rI (G 3 t) M := by
      rw [T_M_letter, if_pos (by decide), if_pos (by omega), Int.toNat_natCast, tX.1]
    exact e
  · have e : xF (D + 1) 192 [.inr 62, .inl 119, .inl (t : Int), .inl (r : Int)] M = rI (G 4 t) M := by
      rw [T_M_letter]
      repeat rw [if_neg (by decide)]
      rw [if_pos (by decide), if_pos (by omega), Int.toNat_natCast, tX.2.1]
    exact e
  · have e : xF (D + 1) 192 [.inr 62, .inl 103, .inl (t : Int), .inl (r : Int)] M = rI (G 5 t) M := by
      rw [T_M_letter]
      repeat rw [if_neg (by decide)]
      rw [if_pos (by decide), if_pos (by omega), Int.toNat_natCast, tX.2.2.1]
    exact e
  · have e : xF (D + 1) 192 [.inr 62, .inl 107, .inl (t : Int), .inl (r : Int)] M = rI ((popc (sOf G t) : Nat) : Int) M := by
      rw [T_M_letter]
      repeat rw [if_neg (by decide)]
      rw [if_pos (by decide), m_sOf (by omega) W X ht, pbI_rI, j_bitCount (by omega) (sOf_1024 W t), pbI_rI]
    exact e
  · have e : xF (D + 1) 192 [.inr 62, .inl 114, .inl (t : Int), .inl (r : Int)] M = rI (r : Int) M := by
      rw [T_M_letter]
      repeat rw [if_neg (by decide)]
      rw [if_pos (by decide)]
    exact e
  · have e : xF (D + 1) 192 [.inr 62, .inl 122, .inl (t : Int), .inl (r : Int)] M = rI (G 1 r) M := by
      rw [T_M_letter]
      repeat rw [if_neg (by decide)]
      rw [if_pos (by decide), if_pos (by omega), Int.toNat_natCast, X.2.2.2.1 r hr]
    exact e
  · have e : xF (D + 1) 192 [.inr 62, .inl 100, .inl (t : Int), .inl (r : Int)] M = rI ((popc (nxt G 1 r) : Nat) : Int) M := by
      rw [T_M_letter]
      repeat rw [if_neg (by decide)]
      rw [if_pos (by decide), m_besH (by omega) W X hr, pbI_rI, j_bitCount (by omega) (nxt_1024 W 1 r), pbI_rI]
    exact e
  · have e : xF (D + 1) 192 [.inr 62, .inl 104, .inl (t : Int), .inl (r : Int)] M = rI (if G 6 t = (r : Int) then 1 else 0) M := by
      rw [T_M_letter]
      repeat rw [if_neg (by decide)]
      rw [if_pos (by decide), if_pos (by omega), Int.toNat_natCast, tX.2.2.2]
      by_cases q : G 6 t = (r : Int)
      · rw [if_neg (fun w => w (by rw [q])), if_pos q]
      · rw [if_pos (by rw [eq32_iff] <;> omega), if_neg q]
    exact e
def WOf (M M' : pM) : Prop := ∀ o i, ¬ (o = 60 ∧ (i = 18 ∨ i = 19 ∨ i = 20 ∨ i = 21 ∨ i = 22 ∨ i = 26 ∨ i = 27)) → M' o i = M o i
theorem MH_wof (f : WOf M M') (X : MH M G) : MH M' G := MH_c (fun o i _ h => f o i (by omega)) X
theorem m_worthOf (hd : 360 ≤ d) (W : WF G) (X : MH M G) {t r : Nat} (ht : t < hT G) (hr : r < hR G) (hL : L ≤ 40) (h25 : M 60 25 = (L : Int)) (h71 : ∀ i, i < 40 → M 71 i = tx i) (hx : ∀ i, i < 80 → -128 ≤ tx i ∧ tx i ≤ 127) : ∃ M', xF d 194 [.inr 62, .inl (t : Int), .inl (r : Int)] M = rI (wvG G tx L t r) M' ∧ WOf M M' := by
  obtain ⟨D, rfl, hD⟩ := dsucc (show 1 ≤ d by omega)
  obtain ⟨D', rfl, hD'⟩ := dsucc (show 1 ≤ D by omega)
  have w1 := W.1
  have w2 := W.2.1
  rw [T_M_worthOf, h25]
  unfold wvG
  by_cases q : L = 0
  · rw [if_neg (fun w => w (by rw [q]; decide)), if_pos q]
    exact ⟨M, rfl, fun _ _ _ => rfl⟩
  · rw [if_pos (by rw [eq32_iff] <;> omega), if_neg q, T_M_begin_71, pbN_rV]
    have fB : WOf M (pset (pset (pset (pset (pset (pset (pset M 60 18 73) 60 19 (L : Int)) 60 20 40) 60 21 0) 60 22 (-1)) 60 26 (t : Int)) 60 27 (r : Int)) := fun o i h => by
      unfold pset
      rw [if_neg (fun z => h ⟨z.1, by omega⟩), if_neg (fun z => h ⟨z.1, by omega⟩), if_neg (fun z => h ⟨z.1, by omega⟩), if_neg (fun z => h ⟨z.1, by omega⟩), if_neg (fun z => h ⟨z.1, by omega⟩), if_neg (fun z => h ⟨z.1, by omega⟩), if_neg (fun z => h ⟨z.1, by omega⟩)]
    have RB : RSq tx L 73 (pset (pset (pset (pset (pset (pset (pset M 60 18 73) 60 19 (L : Int)) 60 20 40) 60 21 0) 60 22 (-1)) 60 26 (t : Int)) 60 27 (r : Int)) (.inr 0) := by
      refine ⟨?_, ?_, ?_, by omega, Or.inr rfl, fun i hi => ⟨fun z => absurd z (by decide), fun _ h40 => (fB 71 i (by omega)).trans (h71 i h40)⟩, hx, ?_, ?_, ?_, Nat.zero_le _, ?_⟩
      · rw [pset_ne2 (by decide), pset_ne2 (by decide), pset_ne2 (by decide), pset_ne2 (by decide), pset_ne2 (by decide), pset_ne2 (by decide), pset_eq]; rfl
      · rw [pset_ne2 (by decide), pset_ne2 (by decide), pset_ne2 (by decide), pset_ne2 (by decide), pset_ne2 (by decide), pset_eq]
      · rw [pset_ne2 (by decide), pset_ne2 (by decide), pset_ne2 (by decide), pset_ne2 (by decide), pset_eq]
      · rw [pset_ne2 (by decide), pset_ne2 (by decide), pset_ne2 (by decide), pset_eq]; omega
      · rw [pset_ne2 (by decide), pset_ne2 (by decide), pset_ne2 (by decide), pset_eq]; omega
      · rw [pset_ne2 (by decide), pset_ne2 (by decide), pset_ne2 (by decide), pset_eq]; rfl
      · rw [pset_ne2 (by decide), pset_ne2 (by decide), pset_eq]
    have k26 : pset (pset (pset (pset (pset (pset (pset M 60 18 73) 60 19 (L : Int)) 60 20 40) 60 21 0) 60 22 (-1)) 60 26 (t : Int)) 60 27 (r : Int) 60 26 = (t : Int) := by rw [pset_ne2 (by decide), pset_eq]
    have k27 : pset (pset (pset (pset (pset (pset (pset M 60 18 73) 60 19 (L : Int)) 60 20 40) 60 21 0) 60 22 (-1)) 60 26 (t : Int)) 60 27 (r : Int) 60 27 = (r : Int) := pset_eq
    generalize pset (pset (pset (pset (pset (pset (pset M 60 18 73) 60 19 (L : Int)) 60 20 40) 60 21 0) 60 22 (-1)) 60 26 (t : Int)) 60 27 (r : Int) = MB at fB RB k26 k27
    have H : HLv (lvG G t r) MB := fun c hl d N hd A => by
      have n26 : N 60 26 = (t : Int) := by rw [A 60 26 (by omega)]; exact k26
      have n27 : N 60 27 = (r : Int) := by rw [A 60 27 (by omega)]; exact k27
      have XN : MH N G := MH_c (fun o i _ h => A o i (by omega)) (MH_wof fB X)
      rw [n26, n27, if_pos (by rw [eq32_iff] <;> omega), m_letterG hd W XN ht hr hl, pbI_rI]
    have mu : rmu (min L 40) 0 (.inr 0 : rgs) = 8 * (min L 40 + 1 - 0) + 4 := rfl
    obtain ⟨M2, e2, R2, A2⟩ := (RP_all 400 0 (.inr 0) MB (D' + 1) (by decide) RB H).1 (by omega) (by omega)
    have e2 : xF (D' + 1) 188 [.inr 62, .inl 0] MB = rI (rp tx (min L 40) (lvG G t r) 400 0 0 0 (.inr 0)).2 M2 := e2
    rw [show min L 40 = L by omega] at e2
    rw [e2, pbI_rI]
    exact ⟨M2, rfl, fun o i h => by rw [A2 o i (fun z => h ⟨z.1, by omega⟩), fB o i h]⟩
theorem x_own (hd : 350 ≤ d) (hL : L ≤ 40) (h0 : L ≠ 0) (h28 : N 28 1 = (L : Int)) (h29 : ∀ i, i < L → N 29 i = ux (tx i)) (hx : ∀ i, i < 80 → -128 ≤ tx i ∧ tx i ≤ 127) (H : YHv lv N) : ∃ M', (pbN (xF d 132 [.inr 32, .inl 40] N) fun M13 => pbI (xF d 145 [.inr 29, .inr 32] M13) fun v15 M14 => some (some (.inl (jmax (-999) (jmin 999 v15))), M14)) = rI (jmax (-999) (jmin 999 (rp tx L lv 400 0 0 0 (.inr 0)).2)) M' ∧ ∀ o i, o ≠ 30 → M' o i = N o i := by
  obtain ⟨D, rfl, hD⟩ := dsucc (show 1 ≤ d by omega)
  have e28 : pset (pset N 30 1 0) 30 3 (-1) 28 1 = (L : Int) := by rw [pset_ne (by decide), pset_ne (by decide)]; exact h28
  have em : jmin (L : Int) 40 = (L : Int) := by
    rw [jmin_eq (by omega) (by omega) (by omega) (by omega)]
    omega
  have R1 : YSt tx L (pset (pset (pset N 30 1 0) 30 3 (-1)) 30 2 (L : Int)) (.inr 0) := by
    refine ⟨pset_eq, by omega, fun i hi => by rw [pset_ne (by decide), pset_ne (by decide), pset_ne (by decide)]; exact h29 i hi, hx, ?_, ?_, ?_, Nat.zero_le _, ?_⟩
    · rw [pset_ne2 (by decide), pset_ne2 (by decide), pset_eq]; omega
    · rw [pset_ne2 (by decide), pset_ne2 (by decide), pset_eq]; omega
    · rw [pset_ne2 (by decide), pset_ne2 (by decide), pset_eq]; rfl
    · rw [pset_ne2 (by decide), pset_eq]
  have f1 : ∀ o i, o ≠ 30 → pset (pset (pset N 30 1 0) 30 3 (-1)) 30 2 (L : Int) o i = N o i := fun o i h => by rw [pset_ne h, pset_ne h, pset_ne h]
  rw [T_Reader_start_30, pbN_rV, e28, em]
  generalize pset (pset (pset N 30 1 0) 30 3 (-1)) 30 2 (L : Int) = N1 at R1 f1
  have H1 : YHv lv N1 := fun c hl => by rw [f1 31 _ (by decide)]; exact H c hl
  have mu : rmu L 0 (.inr 0 : rgs) = 8 * (L + 1 - 0) + 4 := rfl
  obtain ⟨M2, e2, R2, A2⟩ := (YP_all (tx := tx) (lv := lv) hL 400 0 (.inr 0) N1 D (by decide) R1 H1).1 (by omega) (by omega)
  have e2 : xF D 146 [.inr 29, .inr 32, .inl 0] N1 = rI (rp tx L lv 400 0 0 0 (.inr 0)).2 M2 := e2
  have f2 : ∀ o i, o ≠ 30 → M2 o i = N o i := fun o i h => by rw [A2 o i (fun z => h z.1), f1 o i h]
  rw [T_Rule_whole_30, e2, pbI_rI]
  cases e : (rp tx L lv 400 0 0 0 (.inr 0)).1 with
  | inl p =>
    rw [e] at R2
    rw [yo_goesB (by omega) R2, pbI_rI, if_pos (by decide), pbI_rI]
    exact ⟨M2, rfl, f2⟩
  | inr a =>
    rw [e] at R2
    have la := YSt_le R2
    rw [yo_goesG (by omega) R2, pbI_rI]
    by_cases z : a < L
    · obtain ⟨ef, rf⟩ := yo_failG (d := D) (by omega) R2 (p := a) (by omega)
      rw [if_pos z, if_neg (by decide), YSt_at R2, ef, pbN_rV, pbI_rI]
      exact ⟨_, rfl, fun o i h => by rw [pset_ne h, f2 o i h]⟩
    · rw [if_neg z, if_pos (by decide), pbI_rI]
      exact ⟨M2, rfl, f2⟩
theorem x_value (hd : 360 ≤ d) (W : WF G) (X : XH M G) {t r : Nat} (ht : t < hT G) (hr : r < hR G) (hL : L ≤ 40) (h28 : M 28 1 = (L : Int)) (h29 : ∀ i, i < L → M 29 i = ux (tx i)) (hx : ∀ i, i < 80 → -128 ≤ tx i ∧ tx i ≤ 127) : ∃ M', xF d 144 [.inr 29, .inr 9, .inl (t : Int), .inl (r : Int)] M = rI (wvG G tx L t r) M' ∧ ∀ o i, o ≠ 30 → o ≠ 31 → M' o i = M o i := by
  obtain ⟨D, rfl, hD⟩ := dsucc (show 1 ≤ d by omega)
  have w1 := W.1
  have w2 := W.2.1
  have wr := (W.2.2.2.2.2.2.2.1 t ht).2.2.2
  have xt := X.2.2.2.2.2.1 t ht
  rw [T_Rule_value, h28]
  unfold wvG
  by_cases q : L = 0
  · rw [if_pos (by rw [q]; decide), if_pos q]
    exact ⟨M, rfl, fun _ _ _ _ => rfl⟩
  · have r1 : pset M 31 0 (t : Int) 10 t = G 3 t := by rw [pset_ne (by decide)]; exact xt.1
    have r2 : pset (pset M 31 0 (t : Int)) 31 1 (G 3 t) 11 t = G 4 t := by rw [pset_ne (by decide), pset_ne (by decide)]; exact xt.2.1
    have r3 : pset (pset (pset M 31 0 (t : Int)) 31 1 (G 3 t)) 31 2 (G 4 t) 12 t = G 5 t := by rw [pset_ne (by decide), pset_ne (by decide), pset_ne (by decide)]; exact xt.2.2.1
    rw [if_neg (by rw [eq32_iff] <;> omega), if_neg q, c_isThing7 (by omega) W X (by omega) (by omega), pbI_rI, ite01p, if_pos (by omega), c_isRoom7 (by omega) W X (by omega) (by omega), pbI_rI, ite01pn, if_pos (by omega), if_pos (by omega), if_pos (by omega), if_pos (by omega)]
    simp only [Int.toNat_natCast]
    rw [r1, r2, r3]
    have f4 : ∀ o i, o ≠ 31 → pset (pset (pset (pset M 31 0 (t : Int)) 31 1 (G 3 t)) 31 2 (G 4 t)) 31 3 (G 5 t) o i = M o i := fun o i h => by rw [pset_ne h, pset_ne h, pset_ne h, pset_ne h]
    have v0 : pset (pset (pset (pset M 31 0 (t : Int)) 31 1 (G 3 t)) 31 2 (G 4 t)) 31 3 (G 5 t) 31 0 = (t : Int) := by rw [pset_ne2 (by decide), pset_ne2 (by decide), pset_ne2 (by decide), pset_eq]
    have v1 : pset (pset (pset (pset M 31 0 (t : Int)) 31 1 (G 3 t)) 31 2 (G 4 t)) 31 3 (G 5 t) 31 1 = G 3 t := by rw [pset_ne2 (by decide), pset_ne2 (by decide), pset_eq]
    have v2 : pset (pset (pset (pset M 31 0 (t : Int)) 31 1 (G 3 t)) 31 2 (G 4 t)) 31 3 (G 5 t) 31 2 = G 4 t := by rw [pset_ne2 (by decide), pset_eq]
    have v3 : pset (pset (pset (pset M 31 0 (t : Int)) 31 1 (G 3 t)) 31 2 (G 4 t)) 31 3 (G 5 t) 31 3 = G 5 t := pset_eq
    generalize pset (pset (pset (pset M 31 0 (t : Int)) 31 1 (G 3 t)) 31 2 (G 4 t)) 31 3 (G 5 t) = M4 at f4 v0 v1 v2 v3
    have X4 : XH M4 G := XH_eq X (fun o i _ _ _ => f4 o i (by omega))
    have r8 : pset (pset M4 31 4 ((popc (sOf G t) : Nat) : Int)) 31 5 (r : Int) 8 r = G 1 r := by rw [pset_ne (by decide), pset_ne (by decide)]; exact X4.2.2.2.1 r hr
    rw [c_setsOf (by omega) W X4 (by omega), pbI_rI, j_bitCount (by omega) (sOf_1024 W t), pbI_rI, if_pos (by omega), r8]
    have f7 : ∀ o i, o ≠ 31 → pset (pset (pset M4 31 4 ((popc (sOf G t) : Nat) : Int)) 31 5 (r : Int)) 31 6 (G 1 r) o i = M o i := fun o i h => by rw [pset_ne h, pset_ne h, pset_ne h, f4 o i h]
    have X7 : XH (pset (pset (pset M4 31 4 ((popc (sOf G t) : Nat) : Int)) 31 5 (r : Int)) 31 6 (G 1 r)) G := XH_eq X (fun o i _ _ _ => f7 o i (by omega))
    rw [c_nextTo (by omega) W X7 (by omega) (by decide) (by decide), pbI_rI, j_bitCount (by omega) (nxt_1024 W 1 r), pbI_rI, if_pos (by omega)]
    have r13 : pset (pset (pset (pset M4 31 4 ((popc (sOf G t) : Nat) : Int)) 31 5 (r : Int)) 31 6 (G 1 r)) 31 7 ((popc (nxt G 1 r) : Nat) : Int) 13 t = G 6 t := by rw [pset_ne (by decide), f7 13 t (by decide)]; exact xt.2.2.2
    -- the values stand
    have go : ∀ z : Int, (z = if G 6 t = (r : Int) then 1 else 0) → ∃ M', (pbN (xF D 132 [.inr 32, .inl 40] (pset (pset (pset (pset (pset M4 31 4 ((popc (sOf G t) : Nat) : Int)) 31 5 (r : Int)) 31 6 (G 1 r)) 31 7 ((popc (nxt G 1 r) : Nat) : Int)) 31 8 z)) fun M13 => pbI (xF D 145 [.inr 29, .inr 32] M13) fun v15 M14 => some (some (.inl (jmax (-999) (jmin 999 v15))), M14)) = rI (jmax (-999) (jmin 999 (rp tx L (lvG G t r) 400 0 0 0 (.inr 0)).2)) M' ∧ ∀ o i, o ≠ 30 → o ≠ 31 → M' o i = M o i := fun z hz => by
      have f9 : ∀ o i, o ≠ 31 → pset (pset (pset (pset (pset M4 31 4 ((popc (sOf G t) : Nat) : Int)) 31 5 (r : Int)) 31 6 (G 1 r)) 31 7 ((popc (nxt G 1 r) : Nat) : Int)) 31 8 z o i = M o i := fun o i h => by rw [pset_ne h, pset_ne h, f7 o i h]
      have lo : ∀ i, i < 4 → pset (pset (pset (pset (pset M4 31 4 ((popc (sOf G t) : Nat) : Int)) 31 5 (r : Int)) 31 6 (G 1 r)) 31 7 ((popc (nxt G 1 r) : Nat) : Int)) 31 8 z 31 i = M4 31 i := fun i hi => by rw [pset_ne2 (by omega), pset_ne2 (by omega), pset_ne2 (by omega), pset_ne2 (by omega), pset_ne2 (by omega)]
      have n4 : pset (pset (pset (pset (pset M4 31 4 ((popc (sOf G t) : Nat) : Int)) 31 5 (r : Int)) 31 6 (G 1 r)) 31 7 ((popc (nxt G 1 r) : Nat) : Int)) 31 8 z 31 4 = ((popc (sOf G t) : Nat) : Int) := by rw [pset_ne2 (by decide), pset_ne2 (by decide), pset_ne2 (by decide), pset_ne2 (by decide), pset_eq]
      have n5 : pset (pset (pset (pset (pset M4 31 4 ((popc (sOf G t) : Nat) : Int)) 31 5 (r : Int)) 31 6 (G 1 r)) 31 7 ((popc (nxt G 1 r) : Nat) : Int)) 31 8 z 31 5 = (r : Int) := by rw [pset_ne2 (by decide), pset_ne2 (by decide), pset_ne2 (by decide), pset_eq]
      have n6 : pset (pset (pset (pset (pset M4 31 4 ((popc (sOf G t) : Nat) : Int)) 31 5 (r : Int)) 31 6 (G 1 r)) 31 7 ((popc (nxt G 1 r) : Nat) : Int)) 31 8 z 31 6 = G 1 r := by rw [pset_ne2 (by decide), pset_ne2 (by decide), pset_eq]
      have n7 : pset (pset (pset (pset (pset M4 31 4 ((popc (sOf G t) : Nat) : Int)) 31 5 (r : Int)) 31 6 (G 1 r)) 31 7 ((popc (nxt G 1 r) : Nat) : Int)) 31 8 z 31 7 = ((popc (nxt G 1 r) : Nat) : Int) := by rw [pset_ne2 (by decide), pset_eq]
      have n8 : pset (pset (pset (pset (pset M4 31 4 ((popc (sOf G t) : Nat) : Int)) 31 5 (r : Int)) 31 6 (G 1 r)) 31 7 ((popc (nxt G 1 r) : Nat) : Int)) 31 8 z 31 8 = z := pset_eq
      generalize pset (pset (pset (pset (pset M4 31 4 ((popc (sOf G t) : Nat) : Int)) 31 5 (r : Int)) 31 6 (G 1 r)) 31 7 ((popc (nxt G 1 r) : Nat) : Int)) 31 8 z = N at f9 lo n4 n5 n6 n7 n8
      have H : YHv (lvG G t r) N := fun c hl => by
        have hl := of_decide_eq_true hl
        rcases hl with rfl | rfl | rfl | rfl | rfl | rfl | rfl | rfl | rfl
        · exact (lo 0 (by decide)).trans v0
        · exact (lo 1 (by decide)).trans v1
        · exact (lo 2 (by decide)).trans v2
        · exact (lo 3 (by decide)).trans v3
        · exact n4
        · exact n5
        · exact n6
        · exact n7
        · exact n8.trans hz
      obtain ⟨M', e, f⟩ := x_own (d := D) (by omega) hL q (by rw [f9 28 1 (by decide)]; exact h28) (fun i hi => by rw [f9 29 i (by decide)]; exact h29 i hi) hx H
      exact ⟨M', e, fun o i a b => by rw [f o i a, f9 o i b]⟩
    by_cases z : G 6 t = (r : Int)
    · rw [if_neg (fun w => w (by rw [r13, z]))]
      exact go 1 (by rw [if_pos z])
    · rw [if_pos (by rw [r13, eq32_iff] <;> omega)]
      exact go 0 (by rw [if_neg z])
/-- the rule that is kept is the same on both sides -/
def TR (M : pM) : Prop := ∃ L : Nat, L ≤ 40 ∧ M 28 1 = (L : Int) ∧ M 60 25 = (L : Int) ∧ ∀ i, i < L → M 29 i = ux (M 71 i)
def ct (o i : Nat) : Bool := (Nat.beq o 28 && Nat.beq i 1) || Nat.beq o 29 || (Nat.beq o 60 && Nat.beq i 25) || Nat.beq o 71
def ctq (o : Nat) : Bool := Nat.beq o 28 || Nat.beq o 29 || Nat.beq o 60 || Nat.beq o 71
theorem ct_o (o i : Nat) (h : ct o i = true) : ctq o = true := by
  unfold ct at h
  unfold ctq
  simp only [Bool.or_eq_true, Bool.and_eq_true] at h ⊢
  rcases h with ((h | h) | h) | h
  · exact Or.inl (Or.inl (Or.inl h.1))
  · exact Or.inl (Or.inl (Or.inr h))
  · exact Or.inl (Or.inr h.1)
  · exact Or.inr h
theorem ct_71 (i : Nat) : ct 71 i = true := by
  unfold ct
  simp
theorem ct_29 (i : Nat) : ct 29 i = true := by
  unfold ct
  simp
theorem TR_Fr (f : Fr w1 M M1) (h : okW ct ctq w1 = true) (T : TR M) : TR M1 := by
  have e : ∀ o i, ct o i = true → M1 o i = M o i := fun o i q => f o i (okW_no ct_o h q)
  obtain ⟨L, t1, t2, t3, t4⟩ := T
  exact ⟨L, t1, by rw [e 28 1 rfl]; exact t2, by rw [e 60 25 rfl]; exact t3, fun i hi => by rw [e 29 i (ct_29 i), e 71 i (ct_71 i)]; exact t4 i hi⟩
theorem kc_ruleT (R : RI0 M) (T : TI M) (U : TR M) (R1 : RI0 M1) (e1 : xF 1000 3 [.inr 2] M = rI v M1) (f1 : Fr w1 M M1) (k5 : wOK w1 60 14 = false) (k6 : ∀ i, wOK w1 68 i = false) (k7 : wOK w1 60 25 = false) (k8 : ∀ i, wOK w1 71 i = false) (e2 : xF 1000 193 [.inr 62] M1 = rI y M2) (f2 : Fr w2 M1 M2) (k9 : wOK w2 28 1 = false) (k10 : ∀ i, wOK w2 29 i = false) : v = y ∧ TR M2 := by
  have b0 := gm_i R.1 1 1 (lo := 0) (hi := 80) (by decide +kernel) (by decide +kernel)
  obtain ⟨L, hL⟩ := natI b0.1
  have htx : ∀ i, i < 80 → -128 ≤ M 68 i ∧ M 68 i ≤ 127 := fun i hi => gm_r R.1 (o := 68) (lo := -128) (hi := 127) (by decide +kernel) (by decide +kernel) (show i < 80 from hi)
  obtain ⟨N1, t1, a1, a2⟩ := x_rule (tx := fun i => M 68 i) (L := L) (M := M) (d := 1000) (by decide) hL (by omega) T.2 htx
  obtain ⟨N2, t2, b1, b2⟩ := m_rule (tx := fun i => M 68 i) (L := L) (M := M1) (d := 1000) (by decide) R1.1 (by rw [f1 60 14 k5, ← T.1]; exact hL) (by omega) (fun i _ => f1 68 i (k6 i)) htx
  obtain ⟨rfl, rfl⟩ := rI_inj (e1.symm.trans t1)
  obtain ⟨rfl, rfl⟩ := rI_inj (e2.symm.trans t2)
  refine ⟨rfl, ?_⟩
  by_cases z : ruA (fun i => M 68 i) L = 0
  · obtain ⟨l40, c1, c2⟩ := a1 z
    obtain ⟨d1, d2⟩ := b1 z
    exact ⟨L, l40, by rw [f2 28 1 k9]; exact c1, d1, fun i hi => by rw [f2 29 i (k10 i), c2 i (by omega), d2 i hi]⟩
  · have c := a2 z
    obtain ⟨d1, d2⟩ := b2 z
    obtain ⟨L', u1, u2, u3, u4⟩ := U
    exact ⟨L', u1, by rw [f2 28 1 k9, (c 1).1]; exact u2, by rw [d1, f1 60 25 k7]; exact u3, fun i hi => by rw [f2 29 i (k10 i), (c i).2, d2 i, f1 71 i (k8 i)]; exact u4 i hi⟩
theorem wo66 (hd : 361 ≤ d) (W : WF G) (hL : L ≤ 40) (hx : ∀ i, i < 80 → -128 ≤ tx i ∧ tx i ≤ 127) : ∀ (m k : Nat) (M : pM), k + m = hT G → MH M G → M 60 25 = (L : Int) → (∀ i, i < 40 → M 71 i = tx i) → ∃ M', xE d 195 4 [.inr 62, .inr 68, .inl (sumTo (fun t => wvG G tx L t (G 6 t).toNat) k), .inl (k : Int)] [] M = rI (sumTo (fun t => wvG G tx L t (G 6 t).toNat) (hT G)) M'
  | 0, k, M, hk, X, h25, h71 => by
    have w2 := W.2.1
    rw [L_M_worthAll_66_4, X.2.1, if_pos (by rw [le32_iff] <;> omega), show k = hT G by omega]
    exact ⟨M, rfl⟩
  | m + 1, k, M, hk, X, h25, h71 => by
    have w2 := W.2.1
    have w1 := W.1
    have wr := (W.2.2.2.2.2.2.2.1 k (by omega)).2.2.2
    obtain ⟨a, ha⟩ : ∃ a : Nat, G 6 k = a := natI wr.1
    obtain ⟨M1, e1, f1⟩ := m_worthOf (d := d) (by omega) W X (show k < hT G by omega) (show a < hR G by omega) hL h25 h71 hx
    obtain ⟨M', e2⟩ := wo66 hd W hL hx m (k + 1) M1 (by omega) (MH_wof f1 X) (by rw [f1 60 25 (by omega)]; exact h25) (fun i hi => by rw [f1 71 i (by omega)]; exact h71 i hi)
    refine ⟨M', ?_⟩
    rw [L_M_worthAll_66_4, X.2.1, if_neg (by rw [le32_iff] <;> omega), if_pos (by omega), Int.toNat_natCast, (X.2.2.2.2.2.1 k (by omega)).2.2.2, ha, e1, pbI_rI, show ((k : Int) + 1) = ((k + 1 : Nat) : Int) by omega]
    have s : sumTo (fun t => wvG G tx L t (G 6 t).toNat) (k + 1) = sumTo (fun t => wvG G tx L t (G 6 t).toNat) k + wvG G tx L k a := by
      show sumTo (fun t => wvG G tx L t (G 6 t).toNat) k + wvG G tx L k (G 6 k).toNat = _
      rw [ha, Int.toNat_natCast]
    rw [s] at e2
    exact e2
theorem x_wo4 (hd : 361 ≤ d) (W : WF G) (hL : L ≤ 40) (hx : ∀ i, i < 80 → -128 ≤ tx i ∧ tx i ≤ 127) : ∀ (m k : Nat) (M : pM), k + m = hT G → XH M G → M 28 1 = (L : Int) → (∀ i, i < L → M 29 i = ux (tx i)) → ∃ M', xE d 22 4 [.inr 2, .inl (sumTo (fun t => wvG G tx L t (G 6 t).toNat) k), .inl (k : Int)] [] M = rI (sumTo (fun t => wvG G tx L t (G 6 t).toNat) (hT G)) M'
  | 0, k, M, hk, X, h28, h29 => by
    have w2 := W.2.1
    rw [L_X_worth_4, X.2.1, if_pos (by rw [le32_iff] <;> omega), show k = hT G by omega]
    exact ⟨M, rfl⟩
  | m + 1, k, M, hk, X, h28, h29 => by
    have w2 := W.2.1
    have w1 := W.1
    have wr := (W.2.2.2.2.2.2.2.1 k (by omega)).2.2.2
    obtain ⟨a, ha⟩ : ∃ a : Nat, G 6 k = a := natI wr.1
    obtain ⟨M1, e1, f1⟩ := x_value (d := d) (by omega) W X (show k < hT G by omega) (show a < hR G by omega) hL h28 h29 hx
    obtain ⟨M', e2⟩ := x_wo4 hd W hL hx m (k + 1) M1 (by omega) (XH_eq X (fun o i _ _ _ => f1 o i (by omega) (by omega))) (by rw [f1 28 1 (by decide) (by decide)]; exact h28) (fun i hi => by rw [f1 29 i (by decide) (by decide)]; exact h29 i hi)
    refine ⟨M', ?_⟩
    rw [L_X_worth_4, X.2.1, if_neg (by rw [le32_iff] <;> omega), if_pos (by omega), Int.toNat_natCast, (X.2.2.2.2.2.1 k (by omega)).2.2.2, ha, e1, pbI_rI, show ((k : Int) + 1) = ((k + 1 : Nat) : Int) by omega]
    have s : sumTo (fun t => wvG G tx L t (G 6 t).toNat) (k + 1) = sumTo (fun t => wvG G tx L t (G 6 t).toNat) k + wvG G tx L k a := by
      show sumTo (fun t => wvG G tx L t (G 6 t).toNat) k + wvG G tx L k (G 6 k).toNat = _
      rw [ha, Int.toNat_natCast]
    rw [s] at e2
    exact e2
/-- the signs of the rule that is kept -/
def trT (M : pM) (i : Nat) : Int := if i < 40 then M 71 i else 0
theorem trT_range (g : gM gAll M) : ∀ i, i < 80 → -128 ≤ trT M i ∧ trT M i ≤ 127 := fun i _ => by
  unfold trT
  by_cases z : i < 40
  · rw [if_pos z]
    exact gm_r g (o := 71) (lo := -128) (hi := 127) (by decide +kernel) (by decide +kernel) (show i < 40 from z)
  · rw [if_neg z]; omega
theorem kc_worth (R : RI0 M) (C : CI M) (T : TR M) (e1 : xF 1000 22 [.inr 2] M = rI v M1) (f1 : Fr w1 M M1) (k1 : okW cm cmo w1 = true) (k2 : okW ct ctq w1 = true) (e2 : xF 1000 235 [.inr 62] M1 = rI y M2) : v = y := by
  obtain ⟨G, X, Y⟩ := C
  obtain ⟨W, -⟩ := ci_facts R X Y
  have t1 : xF (999 + 1) 22 [.inr 2] M = rI v M1 := e1
  have t2 : xF (998 + 1 + 1) 235 [.inr 62] M1 = rI y M2 := e2
  have Y1 := MG_thr (MG_Fr f1 k1 Y)
  obtain ⟨L, hL, h28, h25, h29⟩ := T
  have hx := trT_range R.1
  have n25 : pset M1 60 17 0 60 25 = (L : Int) := by rw [pset_ne2 (by decide), f1 60 25 (okW_no ct_o k2 rfl)]; exact h25
  have n71 : ∀ i, i < 40 → pset M1 60 17 0 71 i = trT M i := fun i hi => by
    rw [pset_ne (by decide), f1 71 i (okW_no ct_o k2 (ct_71 i))]
    unfold trT
    rw [if_pos hi]
  obtain ⟨N1, a⟩ := x_wo4 (tx := trT M) (d := 999) (by decide) W hL hx (hT G) 0 M (by omega) X.1 h28 (fun i hi => by
    rw [h29 i hi]
    unfold trT
    rw [if_pos (by omega)])
  obtain ⟨N2, b⟩ := wo66 (tx := trT M) (d := 998) (by decide) W hL hx (hT G) 0 (pset M1 60 17 0) (by omega) Y1.1 n25 n71
  rw [T_X_worth] at t1
  rw [T_M_worth, T_M_worthAll_66] at t2
  have t1 : xE 999 22 4 [.inr 2, .inl (sumTo (fun t => wvG G (trT M) L t (G 6 t).toNat) 0), .inl ((0 : Nat) : Int)] [] M = rI v M1 := t1
  rw [a] at t1
  have b : xE 998 195 4 [.inr 62, .inr 68, .inl 0, .inl 0] [] (pset M1 60 17 0) = rI (sumTo (fun t => wvG G (trT M) L t (G 6 t).toNat) (hT G)) N2 := b
  rw [b, pbI_rI] at t2
  rw [← (rI_inj t1).1, ← (rI_inj t2).1]
end WOR
/-! thing: what it answers, on both sides -/
section THI
variable {tx : Nat → Int} {d D L : Nat} {M M' M1 M2 N G : pM} {w1 : List (Nat × Nat)} {v y : Int}
end THI
/-! best: what it answers, on both sides -/
section BES
variable {tx : Nat → Int} {d D L : Nat} {M M' M1 M2 N G : pM} {w1 : List (Nat × Nat)} {v y : Int}
end BES
end
section
/-! queue: how many clumps are carried, on both sides -/
section QUA
variable {G : pM} {p q : Nat → Int}
end QUA
section QUM
variable {D d S T R C x1 : Nat} {sv : Nat → Nat} {M M' N G : pM} {p : Nat → Int} {v y : Int}
end QUM
/-! queue: one side's search -/
section QUX
variable {D d : Nat} {M M' M1 N G : pM} {p : Nat → Int} {v y : Int}
end QUX
section QUK
variable {D d : Nat} {M M' M1 M2 N G : pM} {p : Nat → Int} {w1 : List (Nat × Nat)} {v y : Int}
end QUK
/-! the list of the arrangements that are lawful, and what it costs between them -/
section LST
variable {D d : Nat} {M M' N G : pM} {p : Nat → Int} {f g : Nat → Nat} {v y : Int}
end LST
/-! what it costs from one of the list to another, on both sides -/
section CST
variable {D d : Nat} {M M' N G : pM} {p : Nat → Int} {f g : Nat → Nat} {v y : Int}
def c6 (G : pM) (t a b : Nat) : Int := if cst G t a b < 0 then 1000000 else cst G t a b
end CST
/-! the fewest evenings, on one side -/
section FEW
variable {D d : Nat} {M M' M1 N G : pM} {p : Nat → Int} {v y w : Int}
end FEW
/-! the list and its costs on the other side -/
section AIF
variable {D d : Nat} {M M' M1 N G : pM} {p : Nat → Int} {f g : Nat → Nat} {v y w : Int}
end AIF
/-! the fewest evenings on the other side; evenings joined -/
section EVF
variable {D d : Nat} {M M' M1 M2 N G : pM} {p : Nat → Int} {w1 : List (Nat × Nat)} {v y w : Int}
end EVF
/-! evenings: what it answers, on both sides -/
section EVJ
variable {D d : Nat} {M M' M1 M2 N G : pM} {p : Nat → Int} {w1 : List (Nat × Nat)} {v y w : Int}
end EVJ
/-! the least strength, on one side -/
section WEK
variable {D d : Nat} {M M' M1 N G : pM} {p : Nat → Int} {v y w : Int}
end WEK
/-! the least strength, on one side: the search -/
section WEL
variable {D d : Nat} {M M' M1 N N0 G : pM} {p : Nat → Int} {v y w : Int}
end WEL
/-! the least strength, on one side: to its end; what is answered -/
section WEM
variable {D d : Nat} {M M' M1 N N0 G : pM} {p : Nat → Int} {v y w : Int}
end WEM
/-! the least strength on the other side; weakest joined -/
section WEO
variable {D d : Nat} {M M' M1 M2 N G : pM} {p : Nat → Int} {w1 : List (Nat × Nat)} {v y w : Int}
end WEO
end
