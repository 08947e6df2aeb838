section
/-! what both sides hold stays the same -/
def CI (M : pM) : Prop := ∃ G, XG M G ∧ MG M G
section CIS
variable {M M1 M2 G : pM} {w1 w2 : List (Nat × Nat)} {v y : Int}
theorem ci_Fr {w : List (Nat × Nat)} (f : Fr w M M1) (h1 : okW cx cxo w = true) (h2 : okW cm cmo w = true) (C : CI M) : CI M1 := by
  obtain ⟨G, X, Y⟩ := C
  exact ⟨G, XG_Fr f h1 X, MG_Fr f h2 Y⟩
theorem ci_facts (R : RI0 M) (X : XG M G) (Y : MG M G) : WF G ∧ (0 ≤ G 9 0 ∧ G 9 0 ≤ 20) ∧ (∀ k : Nat, (k : Int) < G 9 0 → 0 ≤ G 10 k ∧ G 10 k ≤ 9) ∧ ∀ i, i < 2 → 0 ≤ G 13 i ∧ G 13 i ≤ 1 := by
  have b33 := gm_i R.1 60 33 (lo := 0) (hi := 20) (by decide +kernel) (by decide +kernel)
  rw [Y.2.2.1.1] at b33
  refine ⟨WF_MH R.1 R.2.2.1 Y.1, b33, fun k hk => ?_, fun i hi => ?_⟩
  · rw [← (Y.2.2.1.2 k hk).1]
    exact gR0 (by rw [← (g75 k (by omega)).1]; exact R.1 75 (3 * k) (p75 (by omega)).1)
  · have := (X.2.2.2 i hi).1
    rw [← this]
    rcases (show i = 0 ∨ i = 1 by omega) with rfl | rfl
    · exact gm_i R.1 44 1 (lo := 0) (hi := 1) (by decide +kernel) (by decide +kernel)
    · exact gm_i R.1 46 1 (lo := 0) (hi := 1) (by decide +kernel) (by decide +kernel)
theorem kc_widen (R : RI0 M) (C : CI M) {a1 a2 a3 : Int} (h1 : -2147483648 ≤ a1 ∧ a1 ≤ 2147483647) (h2 : -2147483648 ≤ a2 ∧ a2 ≤ 2147483647) (h3 : -2147483648 ≤ a3 ∧ a3 ≤ 2147483647) (e1 : xF 1000 8 [.inr 2, .inl a1, .inl a2, .inl a3] M = rI v M1) (f1 : Fr w1 M M1) (k1 : okW cm cmo w1 = true) (e2 : xF 1000 204 [.inr 62, .inl a1, .inl a2, .inl a3] M1 = rI y M2) (f2 : Fr w2 M1 M2) (k2 : okW cx cxo w2 = true) : v = y ∧ CI M2 := by
  obtain ⟨G, X, Y⟩ := C
  obtain ⟨W, -⟩ := ci_facts R X Y
  obtain ⟨p1, p2⟩ := x_widen (d := 1000) (by decide) W X h1 h2 h3 e1
  obtain ⟨q1, q2⟩ := m_widen (d := 1000) (by decide) W (MG_Fr f1 k1 Y) h1 h2 h3 e2
  by_cases q : wdC G a1 a2 a3
  · exact ⟨by rw [(p1 q).1, (q1 q).1], _, XG_Fr f2 k2 (p1 q).2, (q1 q).2⟩
  · exact ⟨by rw [(p2 q).1, (q2 q).1], _, XG_Fr f2 k2 (p2 q).2, (q2 q).2⟩
theorem kc_sheet (R : RI0 M) (C : CI M) {a1 a2 a3 a4 : Int} (h1 : -2147483648 ≤ a1 ∧ a1 ≤ 2147483647) (h2 : -2147483648 ≤ a2 ∧ a2 ≤ 2147483647) (e1 : xF 1000 10 [.inr 2, .inl a1, .inl a2, .inl a3, .inl a4] M = rI v M1) (f1 : Fr w1 M M1) (k1 : okW cm cmo w1 = true) (e2 : xF 1000 206 [.inr 62, .inl a1, .inl a2, .inl a3, .inl a4] M1 = rI y M2) (f2 : Fr w2 M1 M2) (k2 : okW cx cxo w2 = true) : v = y ∧ CI M2 := by
  obtain ⟨G, X, Y⟩ := C
  obtain ⟨W, -⟩ := ci_facts R X Y
  obtain ⟨p1, p2⟩ := xg_sheet (d := 1000) (by decide) W X h1 h2 e1
  obtain ⟨q1, q2⟩ := mg_sheet (d := 1000) (by decide) W (MG_Fr f1 k1 Y) h1 h2 e2
  exact ⟨by rw [p1, q1], _, XG_Fr f2 k2 p2, q2⟩
theorem kc_breaks (R : RI0 M) (C : CI M) (R1 : RI0 M1) {a1 : Int} (h1 : -2147483648 ≤ a1 ∧ a1 ≤ 2147483647) (e1 : xF 1000 19 [.inr 2, .inl a1] M = rI v M1) (f1 : Fr w1 M M1) (k1 : okW cm cmo w1 = true) (e2 : xF 1000 226 [.inr 62, .inl a1] M1 = rI y M2) (f2 : Fr w2 M1 M2) (k2 : okW cx cxo w2 = true) : CI M2 := by
  obtain ⟨G, X, Y⟩ := C
  obtain ⟨W, -⟩ := ci_facts R X Y
  obtain ⟨p1, p2⟩ := xg_breaks (d := 1000) (by decide) W R.1 X h1 e1
  obtain ⟨q1, q2⟩ := mg_breaks (d := 1000) (by decide) W R1.1 (MG_Fr f1 k1 Y) h1 e2
  by_cases q : 0 ≤ a1 ∧ a1 < hT G
  · exact ⟨_, XG_Fr f2 k2 (p1 q), q1 q⟩
  · exact ⟨_, XG_Fr f2 k2 (p2 q).2, (q2 q).2⟩
theorem kc_carry (R : RI0 M) (C : CI M) {a1 a2 : Int} (h1 : -2147483648 ≤ a1 ∧ a1 ≤ 2147483647) (h2 : -2147483648 ≤ a2 ∧ a2 ≤ 2147483647) (e1 : xF 1000 11 [.inr 2, .inl a1, .inl a2] M = rI v M1) (f1 : Fr w1 M M1) (k1 : okW cm cmo w1 = true) (e2 : xF 1000 216 [.inr 62, .inl a1, .inl a2] M1 = rI y M2) (f2 : Fr w2 M1 M2) (k2 : okW cx cxo w2 = true) : v = y ∧ CI M2 := by
  obtain ⟨G, X, Y⟩ := C
  obtain ⟨W, hn, -⟩ := ci_facts R X Y
  obtain ⟨p0, p1, p2⟩ := xg_carry (d := 1000) (by decide) W X hn h1 h2 e1
  obtain ⟨q0, q1, q2⟩ := mg_carry (d := 1000) (by decide) W (MG_Fr f1 k1 Y) hn h1 h2 e2
  by_cases q : 0 ≤ attF G (G 6) (G 8 1) a1 a2
  · exact ⟨by rw [p0, q0], _, XG_Fr f2 k2 (p1 q), q1 q⟩
  · exact ⟨by rw [p0, q0], _, XG_Fr f2 k2 (p2 (by omega)), q2 (by omega)⟩
theorem kc_evening (R : RI0 M) (C : CI M) (e1 : xF 1000 12 [.inr 2] M = rI v M1) (f1 : Fr w1 M M1) (k1 : okW cm cmo w1 = true) (e2 : xF 1000 218 [.inr 62] M1 = rI y M2) (f2 : Fr w2 M1 M2) (k2 : okW cx cxo w2 = true) : v = y ∧ CI M2 := by
  obtain ⟨G, X, Y⟩ := C
  obtain ⟨W, -⟩ := ci_facts R X Y
  obtain ⟨p1, p2⟩ := xg_evening (d := 1000) (by decide) W X e1
  obtain ⟨q1, q2⟩ := mg_evening (d := 1000) (by decide) W (MG_Fr f1 k1 Y) e2
  by_cases q : lwf G (G 6)
  · exact ⟨by rw [(p1 q).1, (q1 q).1], _, XG_Fr f2 k2 (p1 q).2, (q1 q).2⟩
  · exact ⟨by rw [(p2 q).1, (q2 q).1], _, XG_Fr f2 k2 (p2 q).2, (q2 q).2⟩
theorem kc_undo (R : RI0 M) (C : CI M) (e1 : xF 1000 14 [.inr 2] M = rI v M1) (f1 : Fr w1 M M1) (k1 : okW cm cmo w1 = true) (e2 : xF 1000 220 [.inr 62] M1 = rI y M2) (f2 : Fr w2 M1 M2) (k2 : okW cx cxo w2 = true) : v = y ∧ CI M2 := by
  obtain ⟨G, X, Y⟩ := C
  obtain ⟨W, hn, hu, -⟩ := ci_facts R X Y
  obtain ⟨p1, p2⟩ := xg_undo (d := 1000) (by decide) W X hn hu e1
  obtain ⟨q1, q2⟩ := mg_undo (d := 1000) (by decide) (MG_Fr f1 k1 Y) hn hu e2
  by_cases q : G 9 0 = 0
  · exact ⟨by rw [(p2 q).1, (q2 q).1], _, XG_Fr f2 k2 (p2 q).2, (q2 q).2⟩
  · exact ⟨by rw [(p1 q).1, (q1 q).1], _, XG_Fr f2 k2 (p1 q).2, (q1 q).2⟩
theorem kc_judge (R : RI0 M) (C : CI M) {a1 a2 : Int} (h1 : -2147483648 ≤ a1 ∧ a1 ≤ 2147483647) (e1 : xF 1000 15 [.inr 2, .inl a1, .inl a2] M = rI v M1) (f1 : Fr w1 M M1) (k1 : okW cm cmo w1 = true) (k3 : okW cx cxo w1 = true) (e2 : xF 1000 221 [.inr 62, .inl a1, .inl a2] M1 = rI y M2) (f2 : Fr w2 M1 M2) (k2 : okW cx cxo w2 = true) : v = y ∧ CI M2 := by
  obtain ⟨G, X, Y⟩ := C
  obtain ⟨W, -⟩ := ci_facts R X Y
  have p1 := xg_judge (d := 1000) (by decide) W X h1 e1
  obtain ⟨q1, q2⟩ := mg_judge (d := 1000) (by decide) W (MG_Fr f1 k1 Y) h1 e2
  exact ⟨by rw [p1, q1], _, XG_Fr f2 k2 (XG_Fr f1 k3 X), q2⟩
theorem kc_hinge (R : RI0 M) (C : CI M) {a1 : Int} (h1 : -2147483648 ≤ a1 ∧ a1 ≤ 2147483647) (e1 : xF 1000 37 [.inr 2, .inl a1] M = rI v M1) (f1 : Fr w1 M M1) (k1 : okW cm cmo w1 = true) (e2 : xF 1000 254 [.inr 62, .inl a1] M1 = rI y M2) (f2 : Fr w2 M1 M2) (k2 : okW cx cxo w2 = true) : v = y ∧ CI M2 := by
  obtain ⟨G, X, Y⟩ := C
  obtain ⟨W, -⟩ := ci_facts R X Y
  obtain ⟨p1, p2⟩ := xg_hinge (d := 1000) (by decide) W X h1 e1
  obtain ⟨q1, q2⟩ := mg_hinge (d := 1000) (by decide) W (MG_Fr f1 k1 Y) h1 e2
  exact ⟨by rw [p1, q1], _, XG_Fr f2 k2 p2, q2⟩
theorem kc_keep (R : RI0 M) (C : CI M) {a1 : Int} (h1 : -2147483648 ≤ a1 ∧ a1 ≤ 2147483647) (e1 : xF 1000 43 [.inr 2, .inl a1] M = rI v M1) (f1 : Fr w1 M M1) (k1 : okW cm cmo w1 = true) (e2 : xF 1000 266 [.inr 62, .inl a1] M1 = rI y M2) (f2 : Fr w2 M1 M2) (k2 : okW cx cxo w2 = true) : CI M2 := by
  obtain ⟨G, X, Y⟩ := C
  obtain ⟨W, -⟩ := ci_facts R X Y
  obtain ⟨p1, p2⟩ := xg_keep (d := 1000) (by decide) W X h1.1 h1.2 e1
  obtain ⟨q1, q2⟩ := mg_keep (d := 1000) (by decide) W (MG_Fr f1 k1 Y) h1.1 h1.2 e2
  by_cases q : 0 ≤ a1 ∧ a1 ≤ 1
  · exact ⟨_, XG_Fr f2 k2 (p1 q), q1 q⟩
  · exact ⟨_, XG_Fr f2 k2 (p2 q), q2 q⟩
theorem kc_again (R : RI0 M) (C : CI M) (R1 : RI0 M1) {a1 : Int} (h1 : -2147483648 ≤ a1 ∧ a1 ≤ 2147483647) (e1 : xF 1000 44 [.inr 2, .inl a1] M = rI v M1) (f1 : Fr w1 M M1) (k1 : okW cm cmo w1 = true) (e2 : xF 1000 267 [.inr 62, .inl a1] M1 = rI y M2) (f2 : Fr w2 M1 M2) (k2 : okW cx cxo w2 = true) : v = y ∧ CI M2 := by
  obtain ⟨G, X, Y⟩ := C
  obtain ⟨W, -, -, hk⟩ := ci_facts R X Y
  obtain ⟨p1, p2⟩ := xg_again (d := 1000) (by decide) W R.1 X h1.1 h1.2 e1
  obtain ⟨q1, q2⟩ := mg_again (d := 1000) (by decide) W R1 (MG_Fr f1 k1 Y) hk h1.1 h1.2 e2
  by_cases q : agC G a1
  · exact ⟨by rw [(p1 q).1, (q1 q).1], _, XG_Fr f2 k2 (p1 q).2, (q1 q).2⟩
  · exact ⟨by rw [(p2 q).1, (q2 q).1], _, XG_Fr f2 k2 (p2 q).2, (q2 q).2⟩
/-- the texts are the same -/
def TI (M : pM) : Prop := M 1 1 = M 60 14 ∧ ∀ i, i < 80 → M 2 i = ux (M 68 i)
theorem kc_house (R : RI0 M) (C : CI M) (T : TI M) (R1 : RI0 M1) (e1 : xF 1000 2 [.inr 2] M = rI v M1) (f1 : Fr w1 M M1) (k1 : okW cm cmo w1 = true) (k3 : w1.all (fun q => decide (q.1 ≠ 0 ∧ (q.1 < 40 ∨ 47 < q.1))) = true) (k5 : wOK w1 60 14 = false) (k6 : ∀ i, wOK w1 68 i = false) (e2 : xF 1000 184 [.inr 62] M1 = rI y M2) (f2 : Fr w2 M1 M2) (k2 : okW cx cxo w2 = true) : v = y ∧ CI M2 ∧ M1 60 0 ≤ M2 60 0 := by
  obtain ⟨G, X, Y⟩ := C
  obtain ⟨W, -⟩ := ci_facts R X Y
  have b0 := gm_i R.1 1 1 (lo := 0) (hi := 80) (by decide +kernel) (by decide +kernel)
  obtain ⟨L, hL⟩ := natI b0.1
  have htx : ∀ i, i < 80 → -128 ≤ M 68 i ∧ M 68 i ≤ 127 := fun i hi => gm_r R.1 (o := 68) (lo := -128) (hi := 127) (by decide +kernel) (by decide +kernel) (show i < 80 from hi)
  obtain ⟨p0, p1, p2⟩ := xg_house (tx := fun i => M 68 i) (L := L) (d := 1000) (by decide) W R.1 X hL T.2 htx e1 (fun o i hc n1 n2 => f1 o i (by
    cases z : wOK w1 o i with
    | false => rfl
    | true =>
      obtain ⟨r, hr, h2⟩ := List.any_eq_true.mp z
      rw [Bool.and_eq_true] at h2
      have e := Nat.eq_of_beq_eq_true h2.1
      have k := of_decide_eq_true (List.all_eq_true.mp k3 r hr)
      rw [e] at k
      exfalso
      unfold cx at hc
      simp only [Bool.or_eq_true, Bool.and_eq_true, Nat.beq_eq, Nat.ble_eq] at hc
      omega))
  obtain ⟨q0, q1, q2, q3⟩ := mg_house (tx := fun i => M 68 i) (L := L) (d := 1000) (by decide) W R1.1 (MG_Fr f1 k1 Y) (by rw [f1 60 14 k5, ← T.1]; exact hL) (fun i _ => f1 68 i (k6 i)) e2
  by_cases q : hsN (fun i => M 68 i) L G
  · exact ⟨by rw [p0, q0], ⟨_, XG_Fr f2 k2 (p1 q), q1 q⟩, q3⟩
  · exact ⟨by rw [p0, q0], ⟨_, XG_Fr f2 k2 (p2 q), q2 q⟩, q3⟩
theorem kc_day (R : RI0 M) (C : CI M) (T : TI M) (e1 : xF 1000 13 [.inr 2] M = rI v M1) (f1 : Fr w1 M M1) (k1 : okW cm cmo w1 = true) (k5 : wOK w1 60 14 = false) (k6 : ∀ i, wOK w1 68 i = false) (e2 : xF 1000 219 [.inr 62] M1 = rI y M2) (f2 : Fr w2 M1 M2) (k2 : okW cx cxo w2 = true) : v = y ∧ CI M2 := by
  obtain ⟨G, X, Y⟩ := C
  obtain ⟨W, hn, -⟩ := ci_facts R X Y
  have b0 := gm_i R.1 1 1 (lo := 0) (hi := 80) (by decide +kernel) (by decide +kernel)
  obtain ⟨L, hL⟩ := natI b0.1
  have htx : ∀ i, i < 80 → -128 ≤ M 68 i ∧ M 68 i ≤ 127 := fun i hi => gm_r R.1 (o := 68) (lo := -128) (hi := 127) (by decide +kernel) (by decide +kernel) (show i < 80 from hi)
  obtain ⟨p1, p2⟩ := xg_day (tx := fun i => M 68 i) (L := L) (d := 1000) (by decide) W X hn (by omega) hL T.2 htx e1
  obtain ⟨q1, q2⟩ := mg_day (tx := fun i => M 68 i) (L := L) (d := 1000) (by decide) W (MG_Fr f1 k1 Y) hn (by omega) (by rw [f1 60 14 k5, ← T.1]; exact hL) (fun i _ => f1 68 i (k6 i)) htx e2
  by_cases q : dyF (fun i => M 68 i) L = -1
  · obtain ⟨r0, r1, r2⟩ := p2 q
    obtain ⟨s0, s1, s2⟩ := q2 q
    by_cases z : (dyRun (fun i => M 68 i) ((L + 1) / 4) 0 G).1 = (L + 1) / 4 ∧ lwf (dyRun (fun i => M 68 i) ((L + 1) / 4) 0 G).2 ((dyRun (fun i => M 68 i) ((L + 1) / 4) 0 G).2 6)
    · exact ⟨by rw [r0, s0], _, XG_Fr f2 k2 (r1 z), s1 z⟩
    · exact ⟨by rw [r0, s0], _, XG_Fr f2 k2 (r2 z), s2 z⟩
  · exact ⟨by rw [(p1 q).1, (q1 q).1], _, XG_Fr f2 k2 (p1 q).2, (q1 q).2⟩
/-! strength -/
def gStr (G : pM) (v : Int) : pM := fun o i => if o = 8 ∧ i = 2 then v else G o i
theorem kc_strength (C : CI M) (f1 : Fr [(0, 17)] M M1) (f2 : Fr [(60, 12), (60, 17)] M1 M2) (e : M1 0 17 = M2 60 12) : CI M2 := by
  obtain ⟨G, X, Y⟩ := C
  have e17 : M2 0 17 = M2 60 12 := by rw [f2 0 17 (by decide)]; exact e
  have eM : ∀ o i, ¬ (o = 0 ∧ i = 17) → ¬ (o = 60 ∧ (i = 12 ∨ i = 17)) → M2 o i = M o i := fun o i a b => by
    rw [f2 o i, f1 o i]
    · cases z : wOK [(0, 17)] o i with
      | false => rfl
      | true =>
        obtain ⟨r, hr, h2⟩ := List.any_eq_true.mp z
        rw [Bool.and_eq_true, Bool.or_eq_true] at h2
        rw [List.mem_singleton.mp hr] at h2
        rcases h2.2 with y | y
        · exact absurd ⟨(Nat.eq_of_beq_eq_true h2.1).symm, (Nat.eq_of_beq_eq_true y).symm⟩ a
        · exact absurd y (by decide)
    · cases z : wOK [(60, 12), (60, 17)] o i with
      | false => rfl
      | true =>
        obtain ⟨r, hr, h2⟩ := List.any_eq_true.mp z
        rw [Bool.and_eq_true, Bool.or_eq_true] at h2
        simp only [List.mem_cons, List.not_mem_nil, or_false] at hr
        rcases hr with rfl | rfl
        · rcases h2.2 with y | y
          · exact absurd ⟨(Nat.eq_of_beq_eq_true h2.1).symm, Or.inl (Nat.eq_of_beq_eq_true y).symm⟩ b
          · exact absurd y (by decide)
        · rcases h2.2 with y | y
          · exact absurd ⟨(Nat.eq_of_beq_eq_true h2.1).symm, Or.inr (Nat.eq_of_beq_eq_true y).symm⟩ b
          · exact absurd y (by decide)
  have g : ∀ o i, o ≠ 8 → gStr G (M2 60 12) o i = G o i := fun o i h => if_neg (fun z => h z.1)
  refine ⟨gStr G (M2 60 12), ?_, ?_⟩
  · obtain ⟨H, ⟨d1, d2, d3⟩, ⟨p1, p2⟩, k⟩ := X
    refine ⟨XH_cg (fun o i ho => g o i (by omega)) (XH_eq H (fun o i a b c => eM o i (by omega) (by omega))), ⟨?_, ?_, ?_⟩, ⟨?_, fun j hj => ?_⟩, fun i hi => ?_⟩
    · rw [eM 0 15 (by omega) (by omega)]; exact d1
    · rw [eM 0 16 (by omega) (by omega)]; exact d2
    · rw [e17]; exact (if_pos ⟨rfl, rfl⟩).symm
    · rw [eM 39 3 (by omega) (by omega)]; exact p1
    · rw [eM 40 j (by omega) (by omega), eM 41 j (by omega) (by omega), eM 42 j (by omega) (by omega)]; exact p2 j hj
    · have a : ∀ j, M2 (44 + 2 * i) j = M (44 + 2 * i) j := fun j => eM _ j (by omega) (by omega)
      have b : ∀ j, M2 (45 + 2 * i) j = M (45 + 2 * i) j := fun j => eM _ j (by omega) (by omega)
      have g16 : ∀ j, gStr G (M2 60 12) (16 + i) j = G (16 + i) j := fun j => g _ j (by omega)
      simp only [a, b, g16, g 13 i (by decide), g 14 i (by decide), g 15 i (by decide), g 18 i (by decide), g 19 i (by decide)]
      exact k i hi
  · obtain ⟨H, ⟨d1, d2, d3⟩, ⟨p1, p2⟩, k⟩ := Y
    refine ⟨MH_cg (fun o i ho => g o i (by omega)) ?_, ⟨?_, ?_, (if_pos ⟨rfl, rfl⟩).symm⟩, ⟨?_, fun j hj => ?_⟩, fun i hi => ?_⟩
    · obtain ⟨x1, x2, x3, x4, x5, x6, x7⟩ := H
      exact ⟨by rw [eM 60 0 (by omega) (by omega)]; exact x1, by rw [eM 60 3 (by omega) (by omega)]; exact x2, by rw [eM 60 8 (by omega) (by omega)]; exact x3, fun r hr => by rw [eM 61 r (by omega) (by omega)]; exact x4 r hr, fun p hp => by rw [eM 62 p (by omega) (by omega)]; exact x5 p hp, fun t ht => by rw [eM 63 t (by omega) (by omega), eM 64 t (by omega) (by omega), eM 65 t (by omega) (by omega), eM 66 t (by omega) (by omega)]; exact x6 t ht, fun s hs => by rw [eM 67 s (by omega) (by omega)]; exact x7 s hs⟩
    · rw [eM 60 10 (by omega) (by omega)]; exact d1
    · rw [eM 60 11 (by omega) (by omega)]; exact d2
    · rw [eM 60 33 (by omega) (by omega)]; exact p1
    · rw [eM 75 _ (by omega) (by omega), eM 75 _ (by omega) (by omega), eM 75 _ (by omega) (by omega)]; exact p2 j hj
    · have a : ∀ j, M2 87 j = M 87 j := fun j => eM 87 j (by omega) (by omega)
      have b : ∀ j, M2 88 j = M 88 j := fun j => eM 88 j (by omega) (by omega)
      have c : ∀ j, M2 89 j = M 89 j := fun j => eM 89 j (by omega) (by omega)
      have g16 : ∀ j, gStr G (M2 60 12) (16 + i) j = G (16 + i) j := fun j => g _ j (by omega)
      simp only [a, b, c, eM 60 52 (by omega) (by omega), g16, g 13 i (by decide), g 14 i (by decide), g 15 i (by decide), g 18 i (by decide), g 19 i (by decide)]
      exact k i hi
end CIS
/-! what the small questions are answered: room, set, door -/
section ASK
variable {D d : Nat} {M M' G : pM}
end ASK
/-! the texts and the aim stay the same on both sides -/
def cw (o i : Nat) : Bool := (Nat.beq o 1 && Nat.beq i 1) || Nat.beq o 2 || (Nat.beq o 60 && Nat.beq i 14) || Nat.beq o 68
def cwo (o : Nat) : Bool := Nat.beq o 1 || Nat.beq o 2 || Nat.beq o 60 || Nat.beq o 68
theorem cw_o (o i : Nat) (h : cw o i = true) : cwo o = true := by
  unfold cw at h
  unfold cwo
  simp only [Bool.or_eq_true, Bool.and_eq_true] at h ⊢
  rcases h with ((h | h) | h) | h
  · exact Or.inl (Or.inl (Or.inl h.1))
  · exact Or.inl (Or.inl (Or.inr h))
  · exact Or.inl (Or.inr h.1)
  · exact Or.inr h
def cl (o i : Nat) : Bool := Nat.beq o 2 || Nat.beq o 68
theorem cl_o (o i : Nat) (h : cl o i = true) : (Nat.beq o 2 || Nat.beq o 68) = true := h
/-- the aim is the same, and it is one of rooms that are there -/
def GA (M : pM) : Prop := (M 0 14 = 0 ∧ M 60 44 = 0) ∨ (0 < M 0 14 ∧ M 60 44 = 1 ∧ M 60 43 = M 0 14 ∧ ∀ t : Nat, (t : Int) < M 0 14 → M 58 t = M 81 t ∧ 0 ≤ M 58 t ∧ M 58 t < M 60 0)
def cg (o i : Nat) : Bool := (Nat.beq o 0 && Nat.beq i 14) || Nat.beq o 58 || (Nat.beq o 60 && (Nat.beq i 43 || Nat.beq i 44)) || Nat.beq o 81
def cgo (o : Nat) : Bool := Nat.beq o 0 || Nat.beq o 58 || Nat.beq o 60 || Nat.beq o 81
theorem cg_o (o i : Nat) (h : cg o i = true) : cgo o = true := by
  unfold cg at h
  unfold cgo
  simp only [Bool.or_eq_true, Bool.and_eq_true] at h ⊢
  rcases h with ((h | h) | h) | h
  · exact Or.inl (Or.inl (Or.inl h.1))
  · exact Or.inl (Or.inl (Or.inr h))
  · exact Or.inl (Or.inr h.1)
  · exact Or.inr h
section TXS
variable {M M1 M2 : pM} {w w1 w2 : List (Nat × Nat)} {v y : Int}
theorem TI_Fr (f : Fr w M M1) (h : okW cw cwo w = true) (T : TI M) : TI M1 := by
  have e : ∀ o i, cw o i = true → M1 o i = M o i := fun o i q => f o i (okW_no cw_o h q)
  exact ⟨by rw [e 1 1 rfl, e 60 14 rfl]; exact T.1, fun i hi => by rw [e 2 i rfl, e 68 i rfl]; exact T.2 i hi⟩
theorem TI_0 (T : TI M) (f1 : Fr w1 M M1) (h1 : okW cl (fun o => Nat.beq o 2 || Nat.beq o 68) w1 = true) (k1 : M1 1 1 = 0) (f2 : Fr w2 M1 M2) (h2 : okW cl (fun o => Nat.beq o 2 || Nat.beq o 68) w2 = true) (h3 : wOK w2 1 1 = false) (k2 : M2 60 14 = 0) : TI M2 := by
  have e1 : ∀ o i, cl o i = true → M1 o i = M o i := fun o i q => f1 o i (okW_no cl_o h1 q)
  have e2 : ∀ o i, cl o i = true → M2 o i = M1 o i := fun o i q => f2 o i (okW_no cl_o h2 q)
  exact ⟨by rw [f2 1 1 h3, k1, k2], fun i hi => by rw [e2 2 i rfl, e1 2 i rfl, e2 68 i rfl, e1 68 i rfl]; exact T.2 i hi⟩
theorem GA_Fr (f : Fr w M M1) (h : okW cg cgo w = true) (h0 : M 60 0 ≤ M1 60 0) (A : GA M) : GA M1 := by
  have e : ∀ o i, cg o i = true → M1 o i = M o i := fun o i q => f o i (okW_no cg_o h q)
  unfold GA at A ⊢
  rw [e 0 14 rfl, e 60 43 rfl, e 60 44 rfl]
  rcases A with A | ⟨a1, a2, a3, a4⟩
  · exact Or.inl A
  · refine Or.inr ⟨a1, a2, a3, fun t ht => ?_⟩
    obtain ⟨b1, b2, b3⟩ := a4 t ht
    rw [e 58 t rfl, e 81 t rfl]
    exact ⟨b1, b2, by omega⟩
theorem ge_of (f : Fr w M M1) (h : wOK w 60 0 = false) : M 60 0 ≤ M1 60 0 := by rw [f 60 0 h]; exact Int.le_refl _
theorem kc_sign (R : RI0 M) (T : TI M) {a1 : Int} (e1 : xF 1000 0 [.inr 2, .inl a1] M = rI v M1) (f1 : Fr w1 M M1) (k5 : wOK w1 60 14 = false) (k6 : ∀ i, wOK w1 68 i = false) (e2 : xF 1000 175 [.inr 62, .inl a1] M1 = rI y M2) (f2 : Fr w2 M1 M2) (k1 : wOK w2 1 1 = false) (k2 : ∀ i, wOK w2 2 i = false) : v = y ∧ TI M2 := by
  have b0 := gm_i R.1 1 1 (lo := 0) (hi := 80) (by decide +kernel) (by decide +kernel)
  obtain ⟨L, hL⟩ := natI b0.1
  have t1 := c_sign (d := 1000) (by decide) hL (by omega) (b := a1)
  have hL2 : M1 60 14 = (L : Int) := by rw [f1 60 14 k5, ← T.1]; exact hL
  have t2 := m_sign (d := 1000) (by decide) hL2 (by omega) (b := a1)
  rw [e1] at t1
  rw [e2] at t2
  by_cases q : L + 4 ≤ 80
  · rw [if_pos q] at t1 t2
    refine ⟨by rw [(rI_inj t1).1, (rI_inj t2).1], ?_, fun i hi => ?_⟩
    · rw [f2 1 1 k1, (rI_inj t1).2, (rI_inj t2).2, tapp_len (by decide), tapp_len (by decide)]
    · have m2 : M2 2 i = M1 2 i := f2 2 i (k2 i)
      have m68 : M1 68 i = M 68 i := f1 68 i (k6 i)
      rw [m2, (rI_inj t1).2, (rI_inj t2).2]
      unfold tapp
      by_cases z : L ≤ i ∧ i < L + 4
      · rw [if_pos ⟨rfl, z⟩, if_pos ⟨rfl, z⟩]; exact sg_ux a1 (i - L) (by omega)
      · rw [if_neg (fun y => z y.2), if_neg (fun y => absurd y.1 (by decide)), if_neg (fun y => z y.2), if_neg (fun y => absurd y.1 (by decide)), pset_ne (show 68 ≠ 60 by decide), m68]
        exact T.2 i hi
  · rw [if_neg q] at t1 t2
    refine ⟨by rw [(rI_inj t1).1, (rI_inj t2).1], ?_, fun i hi => ?_⟩
    · rw [f2 1 1 k1, (rI_inj t2).2, pset_ne2 (show 14 ≠ 17 by decide), hL2, (rI_inj t1).2, hL]
    · have m2 : M2 2 i = M1 2 i := f2 2 i (k2 i)
      have m68 : M1 68 i = M 68 i := f1 68 i (k6 i)
      rw [m2, (rI_inj t2).2, pset_ne (show 68 ≠ 60 by decide), m68, (rI_inj t1).2]
      exact T.2 i hi
theorem kc_end (R : RI0 M) (T : TI M) {a1 : Int} (h1 : -2147483648 ≤ a1 ∧ a1 ≤ 2147483647) (e1 : xF 1000 1 [.inr 2, .inl a1] M = rI v M1) (f1 : Fr w1 M M1) (k5 : wOK w1 60 14 = false) (e2 : xF 1000 176 [.inr 62, .inl a1] M1 = rI y M2) (f2 : Fr w2 M1 M2) (k1 : wOK w2 1 1 = false) (l1 : okW cl (fun o => Nat.beq o 2 || Nat.beq o 68) w1 = true) (l2 : okW cl (fun o => Nat.beq o 2 || Nat.beq o 68) w2 = true) : v = y ∧ TI M2 := by
  have b0 := gm_i R.1 1 1 (lo := 0) (hi := 80) (by decide +kernel) (by decide +kernel)
  have k60 : M1 60 14 = M 1 1 := by rw [f1 60 14 k5]; exact T.1.symm
  have g1 : ∀ o i, cl o i = true → M1 o i = M o i := fun o i q => f1 o i (okW_no cl_o l1 q)
  have g2 : ∀ o i, cl o i = true → M2 o i = M1 o i := fun o i q => f2 o i (okW_no cl_o l2 q)
  have lt : ∀ i, i < 80 → M2 2 i = ux (M2 68 i) := fun i hi => by rw [g2 2 i rfl, g1 2 i rfl, g2 68 i rfl, g1 68 i rfl]; exact T.2 i hi
  have t1 : xF (999 + 1) 1 [.inr 2, .inl a1] M = rI v M1 := e1
  have t2 : xF (999 + 1) 176 [.inr 62, .inl a1] M1 = rI y M2 := e2
  rw [T_X_end, x_cut (by decide) h1.1 (by omega) R.1] at t1
  rw [T_M_end, m_in (by decide), pbI_rI, pset_ne2 (show 14 ≠ 17 by decide), k60] at t2
  by_cases q : 0 ≤ a1 ∧ a1 ≤ M 1 1
  · rw [if_pos q, pbI_rI, if_pos (Or.inr rfl)] at t1
    have hz : ¬ (lt32 a1 0 ∨ lt32 (M 1 1) a1) := by
      rw [lt32_iff (by omega) (by omega) (by omega) (by omega), lt32_iff (by omega) (by omega) (by omega) (by omega)]
      omega
    rw [if_neg hz, if_pos (by decide)] at t2
    exact ⟨by rw [← (rI_inj t1).1, ← (rI_inj t2).1], by rw [f2 1 1 k1, ← (rI_inj t1).2, ← (rI_inj t2).2, pset_eq, pset_eq], lt⟩
  · rw [if_neg q, pbI_rI, if_pos (Or.inl rfl)] at t1
    have hz : lt32 a1 0 ∨ lt32 (M 1 1) a1 := by
      rw [lt32_iff (by omega) (by omega) (by omega) (by omega), lt32_iff (by omega) (by omega) (by omega) (by omega)]
      omega
    rw [if_pos hz, if_neg (fun z => z rfl)] at t2
    exact ⟨by rw [← (rI_inj t1).1, ← (rI_inj t2).1], by rw [f2 1 1 k1, ← (rI_inj t2).2, pset_ne2 (show 14 ≠ 17 by decide), k60, ← (rI_inj t1).2], lt⟩
theorem amA_pos {tx : Nat → Int} {L T R : Nat} (hR : R ≤ 6) (h : 0 < amA tx L T R) : L ≠ 0 ∧ amA tx L T R = (L : Int) ∧ ∀ i, i < L → 48 ≤ tx i ∧ tx i ≤ (R : Int) + 47 := by
  by_cases q : L = 0
  · have u : amA tx L T R = 0 := if_pos q
    rw [u] at h; omega
  · have u : amA tx L T R = match amS tx (min L T) R T with
      | .inl p => -1 - (p : Int)
      | .inr _ => if L ≤ T then (L : Int) else -1 - (T : Int) := if_neg q
    cases z : amS tx (min L T) R T with
    | inl p =>
      rw [z] at u
      have u : amA tx L T R = -1 - (p : Int) := u
      omega
    | inr a =>
      rw [z] at u
      have u : amA tx L T R = if L ≤ T then (L : Int) else -1 - (T : Int) := u
      by_cases q2 : L ≤ T
      · rw [if_pos q2] at u
        refine ⟨q, u, fun i hi => ?_⟩
        have := (amS_inr hR T a z).2 i (by omega)
        unfold hc at this
        rw [if_pos (by omega)] at this; exact this
      · rw [if_neg q2] at u; omega
theorem kc_aim (R : RI0 M) (C : CI M) (T : TI M) (A : GA M) (e1 : xF 1000 38 [.inr 2] M = rI v M1) (f1 : Fr [(0, 14), (1, 1), (3, 1), (3, 2), (3, 3), (58, 999)] M M1) (e2 : xF 1000 255 [.inr 62] M1 = rI y M2) (f2 : Fr [(60, 14), (60, 17), (60, 43), (60, 44), (81, 999)] M1 M2) : v = y ∧ GA M2 ∧ M1 1 1 = 0 ∧ M2 60 14 = 0 := by
  obtain ⟨G, X, Y⟩ := C
  obtain ⟨W, -⟩ := ci_facts R X Y
  have b0 := gm_i R.1 1 1 (lo := 0) (hi := 80) (by decide +kernel) (by decide +kernel)
  obtain ⟨L, hL⟩ := natI b0.1
  have htx : ∀ i, i < 80 → -128 ≤ M 68 i ∧ M 68 i ≤ 127 := fun i hi => gm_r R.1 (o := 68) (lo := -128) (hi := 127) (by decide +kernel) (by decide +kernel) (show i < 80 from hi)
  obtain ⟨N1, t1, k1, a1, -⟩ := x_aim (tx := fun i => M 68 i) (R := hR G) (T := hT G) (L := L) (M := M) (d := 1000) (by decide) W.1 W.2.1 (by omega) X.1.1 X.1.2.1 hL T.2 htx
  obtain ⟨rfl, rfl⟩ := rI_inj (e1.symm.trans t1)
  have Y0 : M1 60 0 = (hR G : Int) := by rw [f1 60 0 (by decide)]; exact Y.1.1
  obtain ⟨N2, t2, k2, a2, -⟩ := m_aim (tx := fun i => M 68 i) (R := hR G) (T := hT G) (L := L) (M := M1) (d := 1000) (by decide) W.1 W.2.1 (by omega) Y0 (by rw [f1 60 3 (by decide)]; exact Y.1.2.1) (by rw [f1 60 14 (by decide), ← T.1]; exact hL) (fun i _ => f1 68 i (wOK_no (by decide) i)) htx
  obtain ⟨rfl, rfl⟩ := rI_inj (e2.symm.trans t2)
  refine ⟨rfl, ?_, k1, k2⟩
  have c14 : M2 0 14 = M1 0 14 := f2 0 14 (by decide)
  have c58 : ∀ t, M2 58 t = M1 58 t := fun t => f2 58 t (wOK_no (by decide) t)
  have c0 : M2 60 0 = (hR G : Int) := by rw [f2 60 0 (by decide)]; exact Y0
  have d0 : M 60 0 = (hR G : Int) := Y.1.1
  unfold amX at a1
  unfold amM at a2
  by_cases q : 0 < amA (fun i => M 68 i) L (hT G) (hR G)
  · rw [if_pos q] at a1 a2
    obtain ⟨l1, l2, l3⟩ := amA_pos W.1 q
    refine Or.inr ⟨by rw [c14, a1.1]; omega, a2.2.1, by rw [a2.1, c14, a1.1], fun t ht => ?_⟩
    rw [c14, a1.1] at ht
    have l4 := l3 t (by omega)
    have l4 : 48 ≤ M 68 t ∧ M 68 t ≤ (hR G : Int) + 47 := l4
    rw [c58, a1.2 t (by omega), a2.2.2 t (by omega), c0]
    show M 68 t - 48 = M 68 t - 48 ∧ 0 ≤ M 68 t - 48 ∧ M 68 t - 48 < (hR G : Int)
    exact ⟨rfl, by omega, by omega⟩
  · rw [if_neg q] at a1 a2
    by_cases q2 : L = 0
    · rw [if_pos q2] at a1 a2
      exact Or.inl ⟨by rw [c14]; exact a1, a2⟩
    · rw [if_neg q2] at a1 a2
      have m44 : M1 60 44 = M 60 44 := f1 60 44 (by decide)
      have m43 : M1 60 43 = M 60 43 := f1 60 43 (by decide)
      have m81 : ∀ t, M1 81 t = M 81 t := fun t => f1 81 t (wOK_no (by decide) t)
      unfold GA at A ⊢
      rw [c14, a1.1, a2.1, a2.2.1, m44, m43]
      rcases A with A | ⟨b1, b2, b3, b4⟩
      · exact Or.inl A
      · refine Or.inr ⟨b1, b2, b3, fun t ht => ?_⟩
        have := b4 t ht
        rw [c58, a1.2 t, a2.2.2 t, m81, c0]
        exact ⟨this.1, this.2.1, by omega⟩
end TXS
/-! way, widest, stuck: what they answer, on both sides -/
section WYS
variable {D d : Nat} {M M' G : pM} {w : Int}
end WYS
/-! what it costs to come to another arrangement, on both sides: swap, apart -/
section CTO
variable {D d : Nat} {M M' N G h : pM} {p q : Nat → Int}
theorem stp_self {w : Int} {a : Nat} (hR0 : 0 < hR h) : stp h w a a = 0 := by
  unfold stp
  have : (rch h w a 0).testBit a = true := rch_zero.mpr rfl
  rcases firstN_spec (fun n => (rch h w a n).testBit a) (hR h) 0 with ⟨-, no⟩ | ⟨j, e, -, -, -, j3⟩
  · have := no 0 (by omega) (by omega)
    simp only [*] at this
    cases this
  · rw [e]
    rcases Nat.eq_zero_or_pos j with z | z
    · rw [z]; rfl
    · have u := j3 0 (by omega) z
      simp only [*] at u
      cases u
theorem cto_range (W : WF h) (p : Nat → Int) : -1 ≤ cto h p ∧ cto h p ≤ 450 := by
  have w2 := W.2.1
  unfold cto
  split
  · rename_i z
    have := sumTo_range (f := csp h p) (lo := 0) (hi := 45) (n := hT h) (fun t ht => ⟨of_decide_eq_true (allTo_iff.mp z t ht), (cst_range W ht _ _).2⟩)
    omega
  · decide
theorem m_cl81 (hD : 4 ≤ D) (W : WF h) (X : MH M h) (P : PL M h 81 p) : ∀ (m k : Nat) (y : pV) (N : pM), k + m = hT h → (∀ o i, o ≠ 74 → N o i = M o i) → (∀ t, t < k → 0 ≤ csp h p t) → ∃ M', xE D 209 4 [.inr 62, .inr 68, .inl 0, .inr 83, .inl 0, .inl (sumTo (csp h p) k), .inl (k : Int), y] [] N = rI (if cto h p < 0 then 1000000 else cto h p) M' ∧ ∀ o i, o ≠ 74 → M' o i = M o i := by
  have w1 := W.1
  have w2 := W.2.1
  intro m
  induction m with
  | zero =>
    intro k y N hk F C
    have e : k = hT h := by omega
    rw [L_M_costOf_66_81_4, F 60 3 (by decide), X.2.1, if_pos (by rw [le32_iff] <;> omega)]
    have c : cto h p = sumTo (csp h p) (hT h) := if_pos (allTo_iff.mpr fun t ht => decide_eq_true (C t (by omega)))
    have s := sumTo_range (f := csp h p) (lo := 0) (hi := 45) (n := hT h) (fun t ht => ⟨C t (by omega), (cst_range W ht _ _).2⟩)
    rw [c, if_neg (by omega), e]
    exact ⟨N, rfl, F⟩
  | succ m ih =>
    intro k y N hk F C
    have hkT : k < hT h := by omega
    have hw := W.2.2.2.2.2.2.2.1 k hkT
    obtain ⟨P1, P2, P3⟩ := P k hkT
    obtain ⟨y1, y2, y3, y4⟩ := X.2.2.2.2.2.1 k hkT
    obtain ⟨a, ha⟩ := natI hw.2.2.2.1
    obtain ⟨b, hb⟩ := natI P2
    have sr := stp_range W (h 4 k) a b
    have e1 : csp h p k = cst h k a b := by
      unfold csp
      rw [ha, hb, Int.toNat_natCast, Int.toNat_natCast]
    rw [L_M_costOf_66_81_4, F 60 3 (by decide), X.2.1, if_neg (by rw [le32_iff] <;> omega), Int.zero_add, if_pos (by omega), if_pos (by omega), Int.toNat_natCast, F 66 k (by decide), F 81 k (by decide), y4, P1, ha, hb]
    by_cases q : (a : Int) = (b : Int)
    · have ab : a = b := by omega
      have z : csp h p k = 0 := by
        rw [e1, ab]
        unfold cst
        rw [stp_self (by omega), if_neg (by decide), Int.zero_mul]
      rw [if_neg (fun z => z (by rw [q])), if_pos (by decide), if_pos (by omega), show ((k : Int) + 1) = ((k + 1 : Nat) : Int) by omega, Int.zero_mul, show sumTo (csp h p) k + 0 = sumTo (csp h p) (k + 1) by show _ = sumTo (csp h p) k + csp h p k; rw [z]]
      exact ih (k + 1) _ N (by omega) F (fun t ht => by
        rcases Nat.lt_or_ge t k with u | u
        · exact C t u
        · have : t = k := by omega
          rw [this, z]; exact Int.le_refl 0)
    · obtain ⟨M1, u1, u2⟩ := m_stepsF (d := D) (M := N) (by omega) W hkT (a := a) (b := b) (by omega) (by omega) (by rw [F 64 k (by decide)]; exact y2) (fun i hi => by rw [F 62 i (by decide)]; exact X.2.2.2.2.1 i hi) (by rw [F 60 0 (by decide)]; exact X.1)
      have F1 : ∀ o i, o ≠ 74 → M1 o i = M o i := fun o i z => by rw [u2 o i z, F o i z]
      rw [if_pos (by rw [eq32_iff] <;> omega), if_pos (by omega), if_pos (by omega), u1, pbI_rI]
      unfold fv
      by_cases s : stp h (h 4 k) a b < 0
      · rw [if_pos s, if_neg (by decide)]
        have c : cto h p = -1 := by
          unfold cto
          rw [if_neg]
          intro z
          have := of_decide_eq_true (allTo_iff.mp z k hkT)
          rw [e1] at this
          unfold cst at this
          rw [if_pos s] at this
          exact absurd this (by decide)
        rw [c]
        exact ⟨M1, rfl, F1⟩
      · have z : csp h p k = stp h (h 4 k) a b * h 5 k := by
          rw [e1]; exact if_neg s
        rw [if_neg s, if_pos (by rw [lt32_iff] <;> omega), if_pos (by omega), F1 65 k (by decide), y3, show ((k : Int) + 1) = ((k + 1 : Nat) : Int) by omega, ← z, show sumTo (csp h p) k + csp h p k = sumTo (csp h p) (k + 1) from rfl]
        exact ih (k + 1) _ M1 (by omega) F1 (fun t ht => by
          rcases Nat.lt_or_ge t k with u | u
          · exact C t u
          · have : t = k := by omega
            rw [this, e1]
            have := cst_range W hkT a b
            have : cst h k a b = stp h (h 4 k) a b * h 5 k := if_neg s
            rw [this]
            exact Int.mul_nonneg (by omega) (by omega))
theorem m_cost81 (hd : 5 ≤ d) (W : WF h) (X : MH M h) (P : PL M h 81 p) : ∃ M', xF d 209 [.inr 62, .inr 68, .inl 0, .inr 83, .inl 0] M = rI (if cto h p < 0 then 1000000 else cto h p) M' ∧ ∀ o i, o ≠ 74 → M' o i = M o i := by
  obtain ⟨D, rfl, hD⟩ := dsucc hd
  obtain ⟨M', e, f⟩ := m_cl81 (D := D) hD W X P (hT h) 0 (.inr 0) M (by omega) (fun _ _ _ => rfl) (fun t ht => absurd ht (Nat.not_lt_zero t))
  exact ⟨M', (T_M_costOf_66_81 D 0 0 M).trans e, f⟩
end CTO
/-! swap: what it answers, on both sides -/
section SWP
variable {D d : Nat} {M M' N G h : pM} {p q : Nat → Int}
end SWP
/-! apart: what it answers, on both sides -/
section APT
variable {D d : Nat} {M M' N G h : pM} {p q : Nat → Int}
end APT
end
section
/-! the class's sets and clumps -/
theorem me_lt {h : pM} (W : WF h) {s : Nat} (hs : s < hS h) : me h s < 1024 := Nat.lt_of_lt_of_le (W.2.2.2.2.2.2.2.2 s hs) (pow_le_of W.2.1)
theorem pow10 {t : Nat} (ht : t < 10) : 2 ^ t < 1024 := show 2 ^ t < 2 ^ 10 from Nat.pow_lt_pow_right (by decide) ht
theorem jand_lt {a b : Nat} (ha : a < 1024) : (a &&& b) < 1024 := Nat.lt_of_le_of_lt Nat.and_le_left ha
theorem eq32_0 {a : Nat} (ha : a < 2147483648) : eq32 (a : Int) 0 ↔ a = 0 := by
  rw [eq32_iff] <;> omega
section ST
variable {h M : pM} {d : Nat}
/-- what hangs on something: one look at the sets, some looks -/
def hngI (h : pM) (amo sets seen : Nat) : Nat → Nat
  | 0 => seen
  | k + 1 => if sets.testBit k = true ∧ me h k &&& hngI h amo sets seen k ≠ 0 then hngI h amo sets seen k ||| (me h k &&& amo) else hngI h amo sets seen k
def hng (h : pM) (amo sets seen : Nat) : Nat → Nat
  | 0 => seen
  | n + 1 => hngI h amo sets (hng h amo sets seen n) (hS h)
theorem hngI_lt (W : WF h) {amo sets seen : Nat} (hs : seen < 1024) : ∀ k, k ≤ hS h → hngI h amo sets seen k < 1024
  | 0, _ => hs
  | k + 1, hk => by
    have ih := hngI_lt W (amo := amo) (sets := sets) hs k (by omega)
    unfold hngI
    split
    · exact Nat.or_lt_two_pow (n := 10) ih (jand_lt (me_lt W (by omega)))
    · exact ih
theorem hng_lt (W : WF h) {amo sets seen : Nat} (hs : seen < 1024) : ∀ n, hng h amo sets seen n < 1024
  | 0 => hs
  | n + 1 => hngI_lt W (hng_lt W hs n) _ (Nat.le_refl _)
theorem c_hangingOn (hd : 2 ≤ d) (W : WF h) (X : XH M h) {t amo sets : Nat} (ht : t < 10) (ha : amo < 2147483648) (hsets : sets < 2147483648) : xF d 96 [.inr 9, .inl (t : Int), .inl (amo : Int), .inl (sets : Int)] M = rI (hng h amo sets (2 ^ t) (hS h)) M := by
  obtain ⟨D, rfl, hD⟩ := dsucc hd
  have w3 := W.2.2.1
  have ht2 := pow10 ht
  rw [T_House_hangingOn, jshl_one t (by omega)]
  have inner : ∀ (seen : Nat) (n : Nat), seen < 1024 → ∀ k : Nat, k ≤ hS h → xE D 96 12 [.inr 9, .inl (t : Int), .inl (amo : Int), .inl (sets : Int), .inl (seen : Int), .inl (n : Int), .inl 0] [] M = xE D 96 12 [.inr 9, .inl (t : Int), .inl (amo : Int), .inl (sets : Int), .inl (hngI h amo sets seen k : Nat), .inl (n : Int), .inl (k : Int)] [] M := by
    intro seen n hs k
    induction k with
    | zero => intro _; rfl
    | succ k ih =>
      intro hk
      have hm := me_lt W (s := k) (by omega)
      have hi := hngI_lt W (amo := amo) (sets := sets) hs k (by omega)
      rw [ih (by omega), L_House_hangingOn_12, X.2.2.1, if_neg (by rw [le32_iff] <;> omega), c_has hD hsets (by omega), pbI_rI, ite01, hngI]
      cases hb : sets.testBit k with
      | false => rw [if_neg (by simp), if_neg (by simp)]; rfl
      | true =>
        simp only [if_true]
        have hk8 : (0 : Int) ≤ (k : Int) ∧ (k : Int) < 8 := by omega
        rw [if_pos hk8, if_pos hk8, Int.toNat_natCast, X.2.2.2.2.2.2 k (by omega), jand_nat (by omega) (by omega), jand_nat (by omega) ha, jor_nat (by omega) (Nat.lt_trans (jand_lt hm) (by decide))]
        by_cases q : me h k &&& hngI h amo sets seen k = 0
        · rw [if_pos ((eq32_0 (Nat.lt_trans (jand_lt hm) (by decide))).mpr q), if_neg (by simp [q])]; rfl
        · rw [if_neg (fun z => q ((eq32_0 (Nat.lt_trans (jand_lt hm) (by decide))).mp z)), if_pos ⟨trivial, q⟩]; rfl
  have outer : ∀ n : Nat, n ≤ hS h → ∀ y : pV, ∃ y' : pV, xE D 96 6 [.inr 9, .inl (t : Int), .inl (amo : Int), .inl (sets : Int), .inl (2 ^ t : Nat), .inl 0, y] [] M = xE D 96 6 [.inr 9, .inl (t : Int), .inl (amo : Int), .inl (sets : Int), .inl (hng h amo sets (2 ^ t) n : Nat), .inl (n : Int), y'] [] M := by
    intro n
    induction n with
    | zero => intro _ y; exact ⟨y, rfl⟩
    | succ n ih =>
      intro hn y
      obtain ⟨y', e⟩ := ih (by omega) y
      refine ⟨.inl (hS h : Int), ?_⟩
      rw [e, L_House_hangingOn_6, X.2.2.1, if_neg (by rw [le32_iff] <;> omega), inner _ n (hng_lt W ht2 n) (hS h) (Nat.le_refl _), L_House_hangingOn_12, X.2.2.1, if_pos (by rw [le32_iff] <;> omega)]
      rfl
  obtain ⟨y', e⟩ := outer (hS h) (Nat.le_refl _) (.inr 0)
  rw [e, L_House_hangingOn_6, X.2.2.1, if_pos (by rw [le32_iff] <;> omega)]
/-- how many clumps some things make by some sets -/
def cbL (h : pM) (amo sets : Nat) : Nat → Nat × Nat
  | 0 => (0, amo)
  | k + 1 => if (cbL h amo sets k).2.testBit k then ((cbL h amo sets k).1 + 1, nan (cbL h amo sets k).2 (hng h amo sets (2 ^ k) (hS h))) else cbL h amo sets k
theorem cbL_le {amo sets : Nat} : ∀ k, (cbL h amo sets k).1 ≤ k ∧ (cbL h amo sets k).2 ≤ amo
  | 0 => ⟨Nat.le_refl 0, Nat.le_refl _⟩
  | k + 1 => by
    have ih := cbL_le (amo := amo) (sets := sets) k
    unfold cbL
    split
    · exact ⟨Nat.succ_le_succ ih.1, Nat.le_trans (nan_le _ _) ih.2⟩
    · exact ⟨Nat.le_succ_of_le ih.1, ih.2⟩
end ST
/-! the class's clumps: hang -/
def aT (h : pM) : Nat := 2 ^ hT h - 1
def aS (h : pM) : Nat := 2 ^ hS h - 1
/-- the walk over the things: how many clumps so far, what is left; the clump that thing k begins -/
def cgA (h : pM) (k : Nat) : Nat × Nat := cbL h (aT h) (aS h) k
def cgM (h : pM) (k : Nat) : Nat := hng h (aT h) (aS h) (2 ^ k) (hS h)
def cmk (h : pM) : Nat → Nat → Nat
  | 0, _ => 0
  | k + 1, i => if (cgA h k).2.testBit k = true ∧ i = (cgA h k).1 then cgM h k else cmk h k i
def own (h : pM) : Nat → Nat → Nat
  | 0, _ => 0
  | k + 1, t => if (cgA h k).2.testBit k = true ∧ (cgM h k).testBit t = true then (cgA h k).1 else own h k t
def nC (h : pM) : Nat := (cgA h (hT h)).1
def CL (M h : pM) : Prop := M 7 12 = nC h ∧ (∀ i, i < nC h → M 15 i = cmk h (hT h) i) ∧ (∀ t, t < hT h → M 16 t = own h (hT h) t)
def agH : Nat → Nat → Bool := fun o i => o == 15 || o == 16 || (o == 7 && i == 12)
theorem aT_lt {h : pM} (W : WF h) : aT h < 1024 := by
  have := p_T W
  have := Nat.two_pow_pos (hT h)
  unfold aT; omega
theorem aS_lt {h : pM} (W : WF h) : aS h < 256 := by
  have := p_S W
  have := Nat.two_pow_pos (hS h)
  unfold aS; omega
section HG
variable {h M : pM} {d : Nat}
theorem cgM_lt (W : WF h) {k : Nat} (hk : k < 10) : cgM h k < 1024 := hng_lt W (pow10 hk) _
theorem cgA_le (k : Nat) : (cgA h k).1 ≤ k ∧ (cgA h k).2 ≤ aT h := cbL_le k
theorem cgA_succ (k : Nat) : cgA h (k + 1) = if (cgA h k).2.testBit k then ((cgA h k).1 + 1, nan (cgA h k).2 (cgM h k)) else cgA h k := rfl
theorem XH_agH {M' : pM} (a : ag agH M M') (X : XH M h) : XH M' h := XH_ag a (fun o i h1 h2 h3 => by
  unfold agH
  have e1 : (o == 15) = false := by simp; omega
  have e2 : (o == 16) = false := by simp; omega
  rw [e1, e2]
  by_cases q : o = 7
  · have h4 := h3 q
    have e3 : (i == 12) = false := by simp; omega
    rw [e3]; simp
  · have e3 : (o == 7) = false := by simpa using q
    rw [e3]; rfl) X
theorem hngI_has {amo sets seen i : Nat} (hb : seen.testBit i = true) : ∀ k, (hngI h amo sets seen k).testBit i = true
  | 0 => hb
  | k + 1 => by
    have ih := hngI_has (amo := amo) (sets := sets) hb k
    unfold hngI
    split
    · rw [Nat.testBit_or, ih]; rfl
    · exact ih
theorem hng_has {amo sets seen i : Nat} (hb : seen.testBit i = true) : ∀ n, (hng h amo sets seen n).testBit i = true
  | 0 => hb
  | n + 1 => hngI_has (hng_has hb n) _
theorem rest_k : ∀ k t, t < k → (cgA h k).2.testBit t = false
  | 0, t, ht => absurd ht (Nat.not_lt_zero t)
  | k + 1, t, ht => by
    rw [cgA_succ]
    cases hb : (cgA h k).2.testBit k with
    | false =>
      rw [if_neg (by decide)]
      rcases Nat.lt_or_ge t k with q | q
      · exact rest_k k t q
      · rw [show t = k by omega]; exact hb
    | true =>
      rw [if_pos rfl]
      show (nan (cgA h k).2 (cgM h k)).testBit t = false
      rw [nan_bit]
      rcases Nat.lt_or_ge t k with q | q
      · rw [rest_k k t q]; rfl
      · rw [show t = k by omega]
        have e : (cgM h k).testBit k = true := hng_has (by rw [Nat.testBit_two_pow_self]) _
        rw [e]; simp
/-- one clump more -/
def adM (M : pM) (mask : Nat) (v : Int) (n : Nat) : pM := fun o i => if o = 16 ∧ i < n ∧ mask.testBit i = true then v else M o i
theorem c_addClump (hd : 2 ≤ d) (W : WF h) (X : XH M h) {n mask : Nat} (hn : n < 10) (hM : M 7 12 = n) (hm : mask < 2147483648) : ∃ M', xF d 99 [.inr 9, .inl (mask : Int)] M = rV M' ∧ ag agH M M' ∧ M' 7 12 = ((n + 1 : Nat) : Int) ∧ (∀ i, M' 15 i = if i = n then (mask : Int) else M 15 i) ∧ (∀ t, t < hT h → M' 16 t = if mask.testBit t then (n : Int) else M 16 t) := by
  obtain ⟨D, rfl, hD⟩ := dsucc hd
  have w2 := W.2.1
  rw [T_House_addClump, hM, if_neg (by rw [lt32_iff] <;> omega), if_neg (by rw [le32_iff] <;> omega), if_pos (by omega), Int.toNat_natCast]
  have key : ∀ k : Nat, k ≤ hT h → xE D 99 15 [.inr 9, .inl (mask : Int), .inl 0] [] (pset M 15 n mask) = xE D 99 15 [.inr 9, .inl (mask : Int), .inl (k : Int)] [] (adM (pset M 15 n mask) mask n k) := by
    intro k
    induction k with
    | zero =>
      intro _
      have e : adM (pset M 15 n mask) mask n 0 = pset M 15 n mask := by
        funext o i
        unfold adM
        rw [if_neg (fun z => absurd z.2.1 (by omega))]
      rw [e]; rfl
    | succ k ih =>
      intro hk
      have e7 : ∀ i, adM (pset M 15 n mask) mask n k 7 i = M 7 i := fun i => by
        unfold adM
        rw [if_neg (fun z => absurd z.1 (by decide)), pset_ne (by decide)]
      rw [ih (by omega), L_House_addClump_15, e7, X.2.1, if_neg (by rw [le32_iff] <;> omega), c_has hD hm (by omega), pbI_rI, ite01]
      cases hb : mask.testBit k with
      | false =>
        have e : adM (pset M 15 n mask) mask n (k + 1) = adM (pset M 15 n mask) mask n k := by
          funext o i
          unfold adM
          by_cases q : o = 16 ∧ i < k ∧ mask.testBit i = true
          · rw [if_pos q, if_pos ⟨q.1, by omega, q.2.2⟩]
          · rw [if_neg q, if_neg (fun z => q ⟨z.1, by
              rcases Nat.lt_or_ge i k with y | y
              · exact y
              · rw [show i = k by omega, hb] at z; exact absurd z.2.2 (by decide), z.2.2⟩)]
        rw [e]; rfl
      | true =>
        have e : pset (adM (pset M 15 n mask) mask n k) 16 k n = adM (pset M 15 n mask) mask n (k + 1) := by
          funext o i
          by_cases q1 : o = 16
          · subst q1
            by_cases q2 : i = k
            · subst q2
              rw [pset_eq]; unfold adM
              rw [if_pos ⟨rfl, by omega, hb⟩]
            · rw [pset_ne2 q2]; unfold adM
              by_cases q : (16 : Nat) = 16 ∧ i < k ∧ mask.testBit i = true
              · rw [if_pos q, if_pos ⟨rfl, by omega, q.2.2⟩]
              · rw [if_neg q, if_neg (fun z => q ⟨rfl, by omega, z.2.2⟩)]
          · rw [pset_ne q1]; unfold adM
            rw [if_neg (fun z => q1 z.1), if_neg (fun z => q1 z.1)]
        simp only [if_true]
        rw [if_pos (by omega), Int.toNat_natCast, e7, hM, e]
        rfl
  have e7 : ∀ i, adM (pset M 15 n mask) mask n (hT h) 7 i = M 7 i := fun i => by
    unfold adM
    rw [if_neg (fun z => absurd z.1 (by decide)), pset_ne (by decide)]
  refine ⟨pset (adM (pset M 15 n mask) mask n (hT h)) 7 12 ((n : Int) + 1), ?_, ?_, ?_, ?_, ?_⟩
  · rw [key _ (Nat.le_refl _), L_House_addClump_15, e7, e7, X.2.1, if_pos (by rw [le32_iff] <;> omega), hM]
  · intro o i hc
    unfold agH at hc
    have h1 : o ≠ 15 := fun z => by rw [z] at hc; simp at hc
    have h2 : o ≠ 16 := fun z => by rw [z] at hc; simp at hc
    by_cases q : o = 7
    · subst q
      have h3 : i ≠ 12 := fun z => by rw [z] at hc; exact absurd hc (by decide)
      rw [pset_ne2 h3, e7]
    · rw [pset_ne q]; unfold adM
      rw [if_neg (fun z => h2 z.1), pset_ne h1]
  · rw [pset_eq]; omega
  · intro i
    rw [pset_ne (by decide)]; unfold adM
    rw [if_neg (fun z => absurd z.1 (by decide))]
    by_cases q : i = n
    · rw [if_pos q, q, pset_eq]
    · rw [if_neg q, pset_ne2 q]
  · intro t ht
    rw [pset_ne (by decide)]; unfold adM
    by_cases q : mask.testBit t = true
    · rw [if_pos ⟨rfl, ht, q⟩, if_pos q]
    · rw [if_neg (fun z => q z.2.2), if_neg q, pset_ne (by decide)]
theorem c_hang (hd : 3 ≤ d) (W : WF h) (X : XH M h) : ∃ M', xF d 98 [.inr 9] M = rV M' ∧ ag agH M M' ∧ CL M' h := by
  obtain ⟨D, rfl, hD⟩ := dsucc hd
  have w2 := W.2.1
  have hA := aT_lt W
  have hS9 := aS_lt W
  have ag0 : ag agH M (pset M 7 12 0) := ag_pset ag_rfl rfl
  rw [T_House_hang, c_allThings (by omega) W (XH_agH ag0 X), pbI_rI]
  have key : ∀ k : Nat, k ≤ hT h → ∃ (M' : pM) (y : pV), xE D 98 8 [.inr 9, .inl (aT h : Int), .inl 0, .inr 0] [] (pset M 7 12 0) = xE D 98 8 [.inr 9, .inl ((cgA h k).2 : Int), .inl (k : Int), y] [] M' ∧ ag agH M M' ∧ M' 7 12 = ((cgA h k).1 : Int) ∧ (∀ i, i < (cgA h k).1 → M' 15 i = cmk h k i) ∧ (∀ t, t < hT h → (cgA h k).2.testBit t = false → M' 16 t = own h k t) := by
    intro k
    induction k with
    | zero =>
      intro _
      refine ⟨_, .inr 0, rfl, ag0, by rw [pset_eq]; rfl, fun i hi => absurd hi (Nat.not_lt_zero i), fun t ht hb => ?_⟩
      have e : (cgA h 0).2.testBit t = true := by
        show (2 ^ hT h - 1).testBit t = true
        rw [Nat.testBit_two_pow_sub_one]
        simpa using ht
      rw [e] at hb
      cases hb
    | succ k ih =>
      intro hk
      obtain ⟨M1, y, e1, a1, c1, c2, c3⟩ := ih (by omega)
      have X1 := XH_agH a1 X
      have hl := cgA_le (h := h) k
      have hg := cgM_lt W (k := k) (by omega)
      rw [e1, L_House_hang_8, X1.2.1, if_neg (by rw [le32_iff] <;> omega), c_has (by omega) (by omega) (by omega), pbI_rI, ite01]
      cases hb : (cgA h k).2.testBit k with
      | false =>
        refine ⟨M1, y, ?_, a1, ?_, ?_, ?_⟩
        · rw [if_neg (by decide), cgA_succ, hb, if_neg (by decide)]; rfl
        · rw [cgA_succ, hb, if_neg (by decide)]; exact c1
        · rw [cgA_succ, hb, if_neg (by decide)]
          intro i hi
          rw [cmk, hb, if_neg (fun z => absurd z.1 (by decide))]
          exact c2 i hi
        · rw [cgA_succ, hb, if_neg (by decide)]
          intro t ht ht2
          rw [own, hb, if_neg (fun z => absurd z.1 (by decide))]
          exact c3 t ht ht2
      | true =>
        obtain ⟨M2, e2, a2, d1, d2, d3⟩ := c_addClump (d := D) (M := M1) hD W X1 (n := (cgA h k).1) (mask := cgM h k) (by omega) c1 (by omega)
        refine ⟨M2, .inl (cgM h k : Int), ?_, ag_trans a1 a2, ?_, ?_, ?_⟩
        · rw [if_pos rfl, c_allThings (by omega) W X1, pbI_rI, c_allSets (by omega) W X1, pbI_rI]
          have e3 := c_hangingOn (d := D) hD W X1 (t := k) (amo := aT h) (sets := aS h) (by omega) (by omega) (by omega)
          unfold aT aS at e3
          rw [e3, pbI_rI]
          have e4 : hng h (2 ^ hT h - 1) (2 ^ hS h - 1) (2 ^ k) (hS h) = cgM h k := rfl
          rw [e4, e2, pbN_rV, jxor_m1 (by omega), jand_not (by omega) (by omega), cgA_succ, hb, if_pos rfl]
          rfl
        · rw [cgA_succ, hb, if_pos rfl]; exact d1
        · rw [cgA_succ, hb, if_pos rfl]
          intro i hi
          rw [d2, cmk, hb]
          by_cases q : i = (cgA h k).1
          · rw [if_pos q, if_pos ⟨rfl, q⟩]
          · rw [if_neg q, if_neg (fun z => q z.2)]
            exact c2 i (by simp only at hi; omega)
        · rw [cgA_succ, hb, if_pos rfl]
          intro t ht ht2
          rw [d3 t ht, own, hb]
          by_cases q : (cgM h k).testBit t = true
          · rw [if_pos q, if_pos ⟨rfl, q⟩]
          · rw [if_neg q, if_neg (fun z => q z.2)]
            refine c3 t ht ?_
            rw [nan_bit] at ht2
            cases e : (cgA h k).2.testBit t with
            | false => rfl
            | true =>
              have q' : (cgM h k).testBit t = false := by simpa using q
              rw [e, q'] at ht2
              cases ht2
  obtain ⟨M1, y, e1, a1, c1, c2, c3⟩ := key _ (Nat.le_refl _)
  refine ⟨M1, ?_, a1, c1, c2, fun t ht => c3 t ht ?_⟩
  · have e2 : xE D 98 8 [.inr 9, .inl ((2 ^ hT h - 1 : Nat) : Int), .inl 0, .inr 0] [] (pset M 7 12 0) = _ := e1
    rw [e2, L_House_hang_8, (XH_agH a1 X).2.1, if_pos (by rw [le32_iff] <;> omega)]
  · exact rest_k _ t ht
end HG
/-! what is asked of the clumps that stand -/
/-- the clump i, and the clump of a thing -/
def cOf (h : pM) (i : Nat) : Nat := cmk h (hT h) i
def oOf (h : pM) (t : Nat) : Nat := own h (hT h) t
theorem nC_le {h : pM} (W : WF h) : nC h ≤ 10 := Nat.le_trans (cgA_le _).1 W.2.1
section OC
variable {h M : pM} {d : Nat}
end OC
/-! what hangs together: both sides find the same -/
section SMC
variable {sv : Nat → Nat} {ns g S b : Nat} {h M : pM}
theorem or_sub {a b : Nat} : a ||| b = b ↔ ∀ i, a.testBit i = true → b.testBit i = true := by
  constructor
  · intro e i hi
    have : (a ||| b).testBit i = b.testBit i := by rw [e]
    rw [Nat.testBit_or, hi] at this
    exact this.symm
  · intro q
    refine Nat.eq_of_testBit_eq fun i => ?_
    rw [Nat.testBit_or]
    cases e : a.testBit i with
    | false => rfl
    | true => rw [q i e]; rfl
theorem fcP_ne : ∀ n, fcP sv ns g b n ≠ b → ∃ k, k < n ∧ ¬ nan (sv k) g ||| b = b ∧ nan (sv k) g ||| fcP sv ns g b n = fcP sv ns g b n
  | 0, q => absurd rfl q
  | n + 1, q => by
    by_cases e : fcP sv ns g b n = b
    · refine ⟨n, Nat.lt_succ_self n, ?_, ?_⟩
      · intro z
        apply q
        unfold fcP
        rw [e]
        split
        · rfl
        · rw [Nat.or_comm]; exact z
      · have q' := q
        unfold fcP at q'
        rw [e] at q'
        have u : fcP sv ns g b (n + 1) = b ||| nan (sv n) g := by
          unfold fcP
          rw [e]
          split
          · rename_i z
            rw [if_pos z] at q'
            exact absurd rfl q'
          · rfl
        rw [u]
        exact or_sub.mpr fun i hi => by rw [Nat.testBit_or, hi, Bool.or_true]
    · obtain ⟨k, k1, k2, k3⟩ := fcP_ne n e
      refine ⟨k, Nat.lt_succ_of_lt k1, k2, or_sub.mpr fun i hi => ?_⟩
      have := or_sub.mp k3 i hi
      unfold fcP
      split
      · exact this
      · rw [Nat.testBit_or, this]; rfl
def abN (sv : Nat → Nat) (g S b : Nat) : Nat := cntTo (fun k => decide (nan (sv k) g ||| b = b)) S
theorem abN_lt (q : fcP sv ns g b S ≠ b) : abN sv g S b + 1 ≤ abN sv g S (fcP sv ns g b S) := by
  obtain ⟨k, k1, k2, k3⟩ := fcP_ne S q
  refine (cntTo_lt (f := fun k => decide (nan (sv k) g ||| b = b)) (g := fun k => decide (nan (sv k) g ||| fcP sv ns g b S = fcP sv ns g b S)) (fun i hi => ?_) (c := k) (decide_eq_false k2) (decide_eq_true k3) S).2 k1
  have := or_sub.mp (of_decide_eq_true hi)
  exact decide_eq_true (or_sub.mpr fun j hj => fcP_bit (this j hj) S)
theorem fcI_fixS : ∀ (n b : Nat), S ≤ n + abN sv g S b → fcP sv ns g (fcI sv ns g S n b) S = fcI sv ns g S n b
  | 0, b, q => by
    show fcP sv ns g b S = b
    apply Classical.byContradiction
    intro z
    have h1 := abN_lt z
    have h2 : abN sv g S (fcP sv ns g b S) ≤ S := cntTo_le _
    omega
  | n + 1, b, q => by
    by_cases e : fcP sv ns g b S = b
    · rw [fcI_fix e]; exact e
    · have h1 := abN_lt e
      exact fcI_fixS n _ (by omega)
theorem fcX_S (hS : S ≤ 1024) : fcX sv ns g S b = fcI sv ns g S S b := by
  have e : fcX sv ns g S b = fcI sv ns g S (S + (1024 - S)) b := by
    unfold fcX
    rw [show S + (1024 - S) = 1024 by omega]
  rw [e, fcI_add, fcI_fix (fcI_fixS S b (by omega))]
theorem hngI_P {amo sets : Nat} (E : ∀ k, k < hS h → sets.testBit k = !ns.testBit k) (A : ∀ k, k < hS h → me h k &&& amo = nan (me h k) g) : ∀ k, k ≤ hS h → hngI h amo sets b k = fcP (me h) ns g b k
  | 0, _ => rfl
  | k + 1, hk => by
    have ih := hngI_P E A k (by omega)
    unfold hngI fcP
    rw [ih, A k (by omega), E k (by omega)]
    cases ns.testBit k with
    | true => rw [if_neg (fun z => by cases z.1), if_pos (Or.inl rfl)]
    | false =>
      by_cases q : me h k &&& fcP (me h) ns g b k = 0
      · rw [if_neg (fun z => z.2 q), if_pos (Or.inr q)]
      · rw [if_pos ⟨rfl, q⟩, if_neg (fun z => z.elim (fun y => by cases y) q)]
theorem hng_I {amo sets : Nat} (E : ∀ k, k < hS h → sets.testBit k = !ns.testBit k) (A : ∀ k, k < hS h → me h k &&& amo = nan (me h k) g) : ∀ n, hng h amo sets b n = fcI (me h) ns g (hS h) n b
  | 0 => rfl
  | n + 1 => by
    show hngI h amo sets (hng h amo sets b n) (hS h) = _
    rw [hngI_P E A _ (Nat.le_refl _), hng_I E A n, fcI_add n 1]
    rfl
theorem hng_X (W : WF h) {amo sets : Nat} (E : ∀ k, k < hS h → sets.testBit k = !ns.testBit k) (A : ∀ k, k < hS h → me h k &&& amo = nan (me h k) g) : hng h amo sets b (hS h) = fcX (me h) ns g (hS h) b := by
  have := W.2.2.1
  rw [hng_I E A, fcX_S (by omega)]
theorem cb_A (W : WF h) {amo sets : Nat} (E : ∀ k, k < hS h → sets.testBit k = !ns.testBit k) (A : ∀ k, k < hS h → me h k &&& amo = nan (me h k) g) (B : ∀ t, t < hT h → amo.testBit t = !g.testBit t) : ∀ k, k ≤ hT h → (cbL h amo sets k).1 = (fcA (me h) ns g (hS h) k).1 ∧ ∀ t, t < hT h → (cbL h amo sets k).2.testBit t = !(fcA (me h) ns g (hS h) k).2.testBit t
  | 0, _ => ⟨rfl, B⟩
  | k + 1, hk => by
    obtain ⟨i1, i2⟩ := cb_A W E A B k (by omega)
    have e := i2 k (by omega)
    rw [fcA_s]
    unfold cbL
    cases q : (fcA (me h) ns g (hS h) k).2.testBit k with
    | true =>
      rw [q] at e
      rw [e, if_pos rfl, if_neg (by decide)]
      exact ⟨i1, i2⟩
    | false =>
      rw [q] at e
      rw [e, Bool.not_false, if_pos rfl, if_neg (by decide)]
      refine ⟨by rw [i1], fun t ht => ?_⟩
      show (nan (cbL h amo sets k).2 (hng h amo sets (2 ^ k) (hS h))).testBit t = !((fcA (me h) ns g (hS h) k).2 ||| fcX (me h) ns g (hS h) (2 ^ k)).testBit t
      rw [nan_bit, i2 t ht, hng_X W E A, Nat.testBit_or, Bool.not_or]
theorem hE (h : pM) : ∀ k, k < hS h → (aS h).testBit k = !(0 : Nat).testBit k := fun k hk => by
  unfold aS
  rw [Nat.testBit_two_pow_sub_one, decide_eq_true hk, Nat.zero_testBit]; rfl
theorem hA (W : WF h) : ∀ k, k < hS h → me h k &&& aT h = nan (me h k) 0 := fun k hk => by
  refine Nat.eq_of_testBit_eq fun i => ?_
  unfold aT
  rw [Nat.testBit_and, nan_bit, Nat.testBit_two_pow_sub_one, Nat.zero_testBit]
  cases e : (me h k).testBit i with
  | false => rfl
  | true => rw [decide_eq_true (bit_lt (W.2.2.2.2.2.2.2.2 k hk) e)]; rfl
theorem hB (h : pM) : ∀ t, t < hT h → (aT h).testBit t = !(0 : Nat).testBit t := fun t ht => by
  unfold aT
  rw [Nat.testBit_two_pow_sub_one, decide_eq_true ht, Nat.zero_testBit]; rfl
theorem cg_A (W : WF h) {k : Nat} (hk : k ≤ hT h) : (cgA h k).1 = (fcA (me h) 0 0 (hS h) k).1 ∧ ∀ t, t < hT h → (cgA h k).2.testBit t = !(fcA (me h) 0 0 (hS h) k).2.testBit t := cb_A W (hE h) (hA W) (hB h) k hk
theorem cg_M (W : WF h) (k : Nat) : cgM h k = fcX (me h) 0 0 (hS h) (2 ^ k) := hng_X W (hE h) (hA W)
theorem cmk_M (W : WF h) {f : Nat → Int} {i : Nat} : ∀ k, k ≤ hT h → i < (cgA h k).1 → fcM (me h) 0 0 (hS h) f k i = (cmk h k i : Int)
  | 0, _, hi => absurd hi (Nat.not_lt_zero i)
  | k + 1, hk, hi => by
    obtain ⟨a1, a2⟩ := cg_A W (k := k) (by omega)
    have e := a2 k (by omega)
    rw [fcM_s]
    unfold cmk
    rw [cgA_succ] at hi
    cases q : (fcA (me h) 0 0 (hS h) k).2.testBit k with
    | true =>
      rw [q] at e
      rw [e, if_neg (by decide)] at hi
      rw [e, if_neg (fun z => by cases z.1), if_neg (fun z => by cases z.1)]
      exact cmk_M W k (by omega) hi
    | false =>
      rw [q] at e
      rw [e, if_pos (by decide)] at hi
      rw [e, ← a1]
      by_cases z : i = (cgA h k).1
      · rw [if_pos ⟨rfl, z⟩, if_pos ⟨rfl, z⟩, cg_M W]
      · rw [if_neg (fun y => z y.2), if_neg (fun y => z y.2)]
        exact cmk_M W k (by omega) (by have : i < (cgA h k).1 + 1 := hi; omega)
theorem own_O (W : WF h) {f : Nat → Int} {o : Nat} (ho : o < hT h) : ∀ k, k ≤ hT h → (cgA h k).2.testBit o = false → fcO (me h) 0 0 (hS h) f k o = (own h k o : Int)
  | 0, _, hi => by
    have : (cgA h 0).2 = aT h := rfl
    rw [this, hB h o ho, Nat.zero_testBit] at hi; cases hi
  | k + 1, hk, hi => by
    obtain ⟨a1, a2⟩ := cg_A W (k := k) (by omega)
    have e := a2 k (by omega)
    rw [fcO_s]
    unfold own
    rw [cgA_succ] at hi
    cases q : (fcA (me h) 0 0 (hS h) k).2.testBit k with
    | true =>
      rw [q] at e
      rw [e, if_neg (by decide)] at hi
      rw [e, if_neg (fun z => by cases z.1), if_neg (fun z => by cases z.1)]
      exact own_O W ho k (by omega) hi
    | false =>
      rw [q] at e
      rw [e, if_pos (by decide)] at hi
      have hi2 : (nan (cgA h k).2 (cgM h k)).testBit o = false := hi
      rw [nan_bit] at hi2
      rw [e, ← a1, ← cg_M W]
      cases z : (cgM h k).testBit o with
      | true => rw [if_pos ⟨rfl, rfl⟩, if_pos ⟨rfl, rfl⟩]
      | false =>
        rw [if_neg (fun y => by cases y.2), if_neg (fun y => by cases y.2)]
        rw [z, Bool.not_false, Bool.and_true] at hi2
        exact own_O W ho k (by omega) hi2
theorem m_fcF {d : Nat} (hd : 2 ≤ d) (hM : gM gAll M) (W : WF h) (X : MH M h) : ∃ M', xF d 200 [.inr 62, .inl 0, .inl 0] M = rV M' ∧ gM gAll M' ∧ Fr FCw M M' ∧ M' 60 30 = (nC h : Int) ∧ (∀ i, i < nC h → M' 73 i = (cOf h i : Int)) ∧ ∀ o, o < hT h → M' 72 o = (oOf h o : Int) := by
  obtain ⟨M', e, g', f, c1, c2, c3⟩ := m_findClumps (ns := 0) (g := 0) hd hM (MH_fc W X) (by decide) (by decide)
  have u := (cg_A W (k := hT h) (Nat.le_refl _)).1
  refine ⟨M', e, g', f, by rw [c1, ← u]; rfl, fun i hi => ?_, fun o ho => ?_⟩
  · rw [c3 i, cmk_M W (hT h) (Nat.le_refl _) hi]; rfl
  · rw [c2 o ho, own_O W ho (hT h) (Nat.le_refl _) (rest_k (hT h) o ho)]; rfl
end SMC
/-! the class's clumps are those of its sets, whatever is called -/
section CKS
variable {D d L : Nat} {M M' M1 M2 G h h' : pM} {w w1 w2 : List (Nat × Nat)} {v y : Int} {tx : Nat → Int}
def CK (M : pM) : Prop := ∃ h, (M 7 10 = hT h ∧ M 7 11 = hS h ∧ ∀ s, s < hS h → M 14 s = me h s) ∧ CL M h
def cc (o i : Nat) : Bool := (Nat.beq o 7 && (Nat.beq i 10 || Nat.beq i 11 || Nat.beq i 12)) || (Nat.ble 14 o && Nat.ble o 16)
def cco (o : Nat) : Bool := Nat.beq o 7 || (Nat.ble 14 o && Nat.ble o 16)
theorem cc_o (o i : Nat) (h : cc o i = true) : cco o = true := by
  unfold cc at h
  unfold cco
  rw [Bool.or_eq_true] at h
  rcases h with h | h
  · rw [Bool.and_eq_true] at h
    rw [h.1]; rfl
  · rw [h, Bool.or_true]
theorem CK_ag (e : ∀ o i, cc o i = true → M' o i = M o i) (C : CK M) : CK M' := by
  obtain ⟨h, ⟨a1, a2, a3⟩, b1, b2, b3⟩ := C
  exact ⟨h, ⟨by rw [e 7 10 rfl]; exact a1, by rw [e 7 11 rfl]; exact a2, fun s hs => by rw [e 14 s rfl]; exact a3 s hs⟩, by rw [e 7 12 rfl]; exact b1, fun i hi => by rw [e 15 i rfl]; exact b2 i hi, fun t ht => by rw [e 16 t rfl]; exact b3 t ht⟩
theorem CK_Fr (f : Fr w M M') (k : okW cc cco w = true) (C : CK M) : CK M' := CK_ag (fun o i q => f o i (okW_no cc_o k q)) C
theorem hngI_cg (e2 : hS h' = hS h) (e3 : ∀ s, s < hS h → me h' s = me h s) {amo sets seen : Nat} : ∀ k, k ≤ hS h → hngI h' amo sets seen k = hngI h amo sets seen k
  | 0, _ => rfl
  | k + 1, hk => by
    have ih := hngI_cg e2 e3 (amo := amo) (sets := sets) (seen := seen) k (by omega)
    unfold hngI
    rw [ih, e3 k (by omega)]
theorem hng_cg (e2 : hS h' = hS h) (e3 : ∀ s, s < hS h → me h' s = me h s) {amo sets seen : Nat} : ∀ n, hng h' amo sets seen n = hng h amo sets seen n
  | 0 => rfl
  | n + 1 => by
    unfold hng
    rw [hng_cg e2 e3 n, e2, hngI_cg e2 e3 _ (Nat.le_refl _)]
theorem cbL_cg (e2 : hS h' = hS h) (e3 : ∀ s, s < hS h → me h' s = me h s) {amo sets : Nat} : ∀ k, cbL h' amo sets k = cbL h amo sets k
  | 0 => rfl
  | k + 1 => by
    unfold cbL
    rw [cbL_cg e2 e3 k, e2, hng_cg e2 e3]
theorem cgA_cg (e1 : hT h' = hT h) (e2 : hS h' = hS h) (e3 : ∀ s, s < hS h → me h' s = me h s) (k : Nat) : cgA h' k = cgA h k := by
  unfold cgA aT aS
  rw [e1, e2, cbL_cg e2 e3]
theorem cgM_cg (e1 : hT h' = hT h) (e2 : hS h' = hS h) (e3 : ∀ s, s < hS h → me h' s = me h s) (k : Nat) : cgM h' k = cgM h k := by
  unfold cgM aT aS
  rw [e1, e2, hng_cg e2 e3]
theorem cmk_cg (e1 : hT h' = hT h) (e2 : hS h' = hS h) (e3 : ∀ s, s < hS h → me h' s = me h s) (i : Nat) : ∀ k, cmk h' k i = cmk h k i
  | 0 => rfl
  | k + 1 => by
    unfold cmk
    rw [cgA_cg e1 e2 e3, cgM_cg e1 e2 e3, cmk_cg e1 e2 e3 i k]
theorem own_cg (e1 : hT h' = hT h) (e2 : hS h' = hS h) (e3 : ∀ s, s < hS h → me h' s = me h s) (t : Nat) : ∀ k, own h' k t = own h k t
  | 0 => rfl
  | k + 1 => by
    unfold own
    rw [cgA_cg e1 e2 e3, cgM_cg e1 e2 e3, own_cg e1 e2 e3 t k]
theorem CL_cg (e1 : hT h' = hT h) (e2 : hS h' = hS h) (e3 : ∀ s, s < hS h → me h' s = me h s) (C : CL M h) : CL M h' := by
  obtain ⟨b1, b2, b3⟩ := C
  have u : nC h' = nC h := by unfold nC; rw [e1, cgA_cg e1 e2 e3]
  exact ⟨by rw [u]; exact b1, fun i hi => by rw [u] at hi; rw [e1, cmk_cg e1 e2 e3]; exact b2 i hi, fun t ht => by rw [e1] at ht; rw [e1, own_cg e1 e2 e3]; exact b3 t ht⟩
/-- seen from the house that the class holds -/
theorem CK_G (C : CK M) (X : XH M G) : CL M G := by
  obtain ⟨h, ⟨a1, a2, a3⟩, b⟩ := C
  obtain ⟨x1, x2, x3, x4, x5, x6, x7⟩ := X
  have e1 : hT G = hT h := by omega
  have e2 : hS G = hS h := by omega
  refine CL_cg e1 e2 (fun s hs => ?_) b
  have := a3 s hs
  have := x7 s (by omega)
  omega
theorem CK_of (X : XH M G) (C : CL M G) : CK M := ⟨G, ⟨X.2.1, X.2.2.1, X.2.2.2.2.2.2⟩, C⟩
theorem x_houseC {d : Nat} (hd : 10 ≤ d) (hM : gM gAll M) (X : XH M h) (W : BD h) (h1 : M 1 1 = (L : Int)) (ht : ∀ i, i < 80 → M 2 i = ux (tx i)) (hx : ∀ i, i < 80 → -128 ≤ tx i ∧ tx i ≤ 127) (WN : hsN tx L h → WF (hsH tx L h)) {z : Int} (e : xF d 2 [.inr 2] M = rI z M') : (hsN tx L h → CL M' (hsH tx L h)) ∧ (¬ hsN tx L h → ∀ o i, 7 ≤ o → o ≤ 16 → M' o i = M o i) := by
  obtain ⟨D, rfl, hD⟩ := dsucc hd
  have b1 := gm_i hM 1 1 (lo := 0) (hi := 80) (by decide +kernel) (by decide +kernel)
  rw [T_X_house, h1] at e
  by_cases q : L = 0
  · rw [if_neg (fun y => y (by rw [q]; rfl))] at e
    rw [← (rI_inj e).2]
    exact ⟨fun y => absurd q y.1, fun _ _ _ _ _ => rfl⟩
  · obtain ⟨M1, e1, g1, -⟩ := v_copy2 (d := D) (by omega) hM
    obtain ⟨M1', e1', y1, c1⟩ := x_become17 (d := D) (by omega) X W
    obtain rfl := rV_inj (e1.symm.trans e1')
    obtain ⟨v, M2, e2, g2, -⟩ := v_read (d := D) (by omega) g1
    obtain ⟨v', M2', e2', a2, r2⟩ := x_readH (tx := tx) (D := D) (by omega) y1 W (by rw [c1 1 1 (by omega)]; exact h1) (by omega) (fun i hi => by rw [c1 2 i (by omega)]; exact ht i hi) hx
    obtain ⟨rfl, rfl⟩ := rI_inj (e2.symm.trans e2')
    obtain ⟨e3, g3⟩ := x_cut0 (d := D) (by omega) g2
    rw [if_pos (by rw [eq32_iff] <;> omega), e1, pbN_rV, e2, pbI_rI, e3, pbI_rI] at e
    have uH : hsH tx L h = match phE L (phS tx (min L 76) 78 0 h 0).1 with
      | .inl _ => h
      | .inr _ => (phS tx (min L 76) 78 0 h 0).2.1 := if_neg q
    have hn := phS_n tx (min L 76) 78 0 h 0
    unfold rdA at r2
    cases hp : phE L (phS tx (min L 76) 78 0 h 0).1 with
    | inl p =>
      rw [hp] at r2 uH
      obtain ⟨r2, p80⟩ : v = -1 - (p : Int) ∧ p ≤ 80 := r2
      have hp80 : lt32 v 0 := by rw [lt32_iff] <;> omega
      rw [if_pos hp80] at e
      rw [← (rI_inj e).2]
      refine ⟨fun y => ?_, fun _ o i o1 o2 => ?_⟩
      · obtain ⟨-, b, hb⟩ := y
        rw [hp] at hb; cases hb
      · rw [pset_ne (by omega), a2 o i (by omega) (by omega), pset_ne (by omega), pset_ne (by omega), pset_ne (by omega), c1 o i (by omega)]
    | inr b =>
      have hN : hsN tx L h := ⟨q, b, hp⟩
      have WW := WN hN
      rw [hp] at r2 uH
      obtain ⟨r3, r4⟩ := r2
      have hp2 : ∃ c, (phS tx (min L 76) 78 0 h 0).1 = .inr c := by
        cases k : (phS tx (min L 76) 78 0 h 0).1 with
        | inl p => rw [k] at hp; cases hp
        | inr c => exact ⟨c, rfl⟩
      obtain ⟨c, hp3⟩ := hp2
      have W3 := BD_phS 78 0 h 0 c W hp3
      obtain ⟨M4, e4, g4, f4⟩ := v_become (d := D) (by omega) g3
      have y3 : YH (pset M2 1 1 0) (phS tx (min L 76) 78 0 h 0).2.1 := by
        obtain ⟨y1, y2, y3, y4, y5, y6, y7⟩ := r4
        exact ⟨by rw [pset_ne (by decide)]; exact y1, by rw [pset_ne (by decide)]; exact y2, by rw [pset_ne (by decide)]; exact y3, fun r hr => by rw [pset_ne (by decide)]; exact y4 r hr, fun p hp => by rw [pset_ne (by decide)]; exact y5 p hp, fun t ht => by rw [pset_ne (by decide), pset_ne (by decide), pset_ne (by decide), pset_ne (by decide)]; exact y6 t ht, fun s hs => by rw [pset_ne (by decide)]; exact y7 s hs⟩
      obtain ⟨M4', e4', X4⟩ := x_become7 (d := D) (by omega) y3 W3.1 W3.2.1 W3.2.2
      obtain rfl := rV_inj (e4.symm.trans e4')
      have uH' : hsH tx L h = (phS tx (min L 76) 78 0 h 0).2.1 := uH
      rw [uH'] at WW
      obtain ⟨M5, e5, a5, C5⟩ := c_hang (d := D) (by omega) WW X4
      obtain ⟨D', rfl, -⟩ := dsucc (show 1 ≤ D by omega)
      rw [if_neg (by rw [lt32_iff] <;> omega), e4, pbN_rV, e5, pbN_rV, T_Past_forget, pbN_rV] at e
      rw [uH', ← (rI_inj e).2]
      refine ⟨fun _ => ?_, fun y => absurd hN y⟩
      obtain ⟨b1, b2, b3⟩ := C5
      exact ⟨by rw [pset_ne (by decide)]; exact b1, fun i hi => by rw [pset_ne (by decide)]; exact b2 i hi, fun t ht => by rw [pset_ne (by decide)]; exact b3 t ht⟩
theorem x_breaksC (hd : 4 ≤ d) (W : WF G) (hM : gM gAll M) (X : XG M G) (WN : ∀ t, t < hT G → WF (gBr G t)) {b : Int} (hb : -2147483648 ≤ b ∧ b ≤ 2147483647) {v : Int} (ee : xF d 19 [.inr 2, .inl b] M = rI v M') : (0 ≤ b ∧ b < hT G → CL M' (gBr G b.toNat) ∧ v = nC (gBr G b.toNat)) ∧ (¬ (0 ≤ b ∧ b < hT G) → M' = M) := by
  obtain ⟨D, rfl, hD⟩ := dsucc hd
  obtain ⟨D', rfl, -⟩ := dsucc (show 1 ≤ D by omega)
  have w2 := W.2.1
  rw [T_X_breaks, c_isThing7 (by omega) W X.1 (by omega) (by omega), pbI_rI, ite01pn] at ee
  by_cases q : 0 ≤ b ∧ b < hT G
  · obtain ⟨t, rfl⟩ := natI q.1
    obtain ⟨M1, e1, g1, r1, f1⟩ := x_leave (D := D') W (t := t) (by omega) (hS G) 0 M (by omega) hM X.1.2.2.1 (fun i hi => by rw [X.1.2.2.2.2.2.2 i hi, if_neg (Nat.not_lt_zero i)])
    have X1 : XG M1 (gBr G t) := XG_gBr X r1 (fun o i ho _ => f1 o i ho)
    obtain ⟨M2, e2, -, C2⟩ := c_hang (d := D' + 1) (by omega) (WN t (by omega)) X1.1
    rw [if_pos q, T_House_leaveSets, show (.inl 0 : pV) = .inl ((0 : Nat) : Int) from rfl, e1, pbN_rV, e2, pbN_rV] at ee
    refine ⟨fun _ => ?_, fun z => absurd q z⟩
    rw [← (rI_inj ee).2, Int.toNat_natCast, ← (rI_inj ee).1]
    exact ⟨C2, C2.1⟩
  · rw [if_neg q] at ee
    exact ⟨fun z => absurd z q, fun _ => (rI_inj ee).2.symm⟩
end CKS
/-! clumps, heaviest, without, breaks, ties: what they answer, on both sides -/
section CLC
variable {D d : Nat} {M M' M1 M2 G h : pM} {w1 w2 : List (Nat × Nat)} {v y : Int}
theorem WF_cg {h' : pM} (W : WF h) (e : ∀ o i, o < 8 → h' o i = h o i) : WF h' := by
  have r : hR h' = hR h := by unfold hR; rw [e 0 0 (by decide)]
  have t : hT h' = hT h := by unfold hT; rw [e 0 1 (by decide)]
  have s : hS h' = hS h := by unfold hS; rw [e 0 2 (by decide)]
  obtain ⟨a1, a2, a3, a4, a5, a6, a7, a8, a9⟩ := W
  refine ⟨by rw [r]; exact a1, by rw [t]; exact a2, by rw [s]; exact a3, fun i hi => ?_, fun p hp => ?_, fun a b ha hb => ?_, fun a b ha hb q => ?_, fun i hi => ?_, fun i hi => ?_⟩
  · rw [r] at hi; rw [e 1 i (by decide)]; exact a4 i hi
  · rw [e 2 p (by decide)]; exact a5 p hp
  · rw [e 2 _ (by decide), e 2 _ (by decide)]; exact a6 a b ha hb
  · rw [r] at q; rw [e 2 _ (by decide)]; exact a7 a b ha hb q
  · rw [t] at hi; rw [e 3 i (by decide), e 4 i (by decide), e 5 i (by decide), e 6 i (by decide), r]; exact a8 i hi
  · rw [s] at hi; rw [t]
    have := a9 i hi
    unfold me at this ⊢
    rw [e 7 i (by decide)]; exact this
theorem WF_gBr (W : WF G) (t : Nat) : WF (gBr G t) := by
  obtain ⟨a1, a2, a3, a4, a5, a6, a7, a8, a9⟩ := W
  refine ⟨a1, a2, a3, fun i hi => ?_, fun p hp => ?_, fun a b ha hb => ?_, fun a b ha hb q => ?_, fun i hi => ?_, fun i hi => ?_⟩
  · rw [gBr_ne (by decide)]; exact a4 i hi
  · rw [gBr_ne (by decide)]; exact a5 p hp
  · rw [gBr_ne (by decide), gBr_ne (by decide)]; exact a6 a b ha hb
  · rw [gBr_ne (by decide)]; exact a7 a b ha hb q
  · rw [gBr_ne (by decide), gBr_ne (by decide), gBr_ne (by decide), gBr_ne (by decide)]; exact a8 i hi
  · have hi : i < hS G := hi
    rw [gBr_me hi]
    exact Nat.lt_of_le_of_lt (nan_le _ _) (a9 i hi)
theorem kcC_house (R : RI0 M) (C : CI M) (K : CK M) (T : TI M) (R1 : RI0 M1) (R2 : RI0 M2) (e1 : xF 1000 2 [.inr 2] M = rI v M1) (f1 : Fr w1 M M1) (k1 : okW cm cmo w1 = true) (k5 : wOK w1 60 14 = false) (k6 : ∀ i, wOK w1 68 i = false) (e2 : xF 1000 184 [.inr 62] M1 = rI y M2) : CK M1 := by
  obtain ⟨G, X, Y⟩ := C
  obtain ⟨W, -⟩ := ci_facts R X Y
  have b0 := gm_i R.1 1 1 (lo := 0) (hi := 80) (by decide +kernel) (by decide +kernel)
  obtain ⟨L, hL⟩ := natI b0.1
  have htx : ∀ i, i < 80 → -128 ≤ M 68 i ∧ M 68 i ≤ 127 := fun i hi => gm_r R.1 (o := 68) (lo := -128) (hi := 127) (by decide +kernel) (by decide +kernel) (show i < 80 from hi)
  obtain ⟨q0, q1, q2, q3⟩ := mg_house (tx := fun i => M 68 i) (L := L) (d := 1000) (by decide) W R1.1 (MG_Fr f1 k1 Y) (by rw [f1 60 14 k5, ← T.1]; exact hL) (fun i _ => f1 68 i (k6 i)) e2
  have B : BD G := ⟨W.1, W.2.1, W.2.2.1⟩
  obtain ⟨a1, a2⟩ := x_houseC (tx := fun i => M 68 i) (L := L) (d := 1000) (by decide) R.1 X.1 B hL T.2 htx (fun n => WF_cg (WF_MH R2.1 R2.2.2.1 (q1 n).1) (fun o i ho => (gNew_lo ho).symm)) e1
  obtain ⟨p0, p1, -⟩ := x_house (tx := fun i => M 68 i) (L := L) (d := 1000) (by decide) R.1 X.1 B hL T.2 htx e1
  by_cases q : hsN (fun i => M 68 i) L G
  · exact CK_of p1 (a1 q)
  · refine CK_ag (fun o i c => a2 q o i ?_ ?_) K
    · unfold cc at c
      simp only [Bool.or_eq_true, Bool.and_eq_true, Nat.beq_eq, Nat.ble_eq] at c
      omega
    · unfold cc at c
      simp only [Bool.or_eq_true, Bool.and_eq_true, Nat.beq_eq, Nat.ble_eq] at c
      omega
theorem m_breaksV (hd : 3 ≤ d) (W : WF G) (hM : gM gAll M) (X : MG M G) {b : Int} (hb : 0 ≤ b ∧ b < hT G) (ee : xF d 226 [.inr 62, .inl b] M = rI v M') : v = nC (gBr G b.toNat) := by
  obtain ⟨D, rfl, hD⟩ := dsucc hd
  have w2 := W.2.1
  have w3 := W.2.2.1
  have X1 := MG_thr X
  have hM1 := gM_thr hM
  rw [T_M_breaks] at ee
  generalize pset M 60 17 0 = M1 at X1 hM1 ee
  rw [m_isThing (by omega) X1.1.2.1 (by omega) (by omega) (by omega), pbI_rI] at ee
  obtain ⟨t, rfl⟩ := natI hb.1
  obtain ⟨M2, e1, g1, r1, f1⟩ := m_leave (D := D) W (t := t) (by omega) (hS G) 0 M1 (by omega) hM1 X1.1.2.2.1 (fun i hi => by rw [X1.1.2.2.2.2.2.2 i hi, if_neg (Nat.not_lt_zero i)])
  have X2 : MG M2 (gBr G t) := MG_gBr X1 r1 (fun o i ho _ => f1 o i ho)
  obtain ⟨M3, e2, g2, f2, c2, -⟩ := m_fcF (d := D) (by omega) g1 (WF_gBr W t) X2.1
  rw [if_pos hb, if_pos (by decide), show (.inl 0 : pV) = .inl ((0 : Nat) : Int) from rfl, e1, L_M_breaks_11, f1 60 8 (by decide), X1.1.2.2.1, if_pos (by rw [le32_iff] <;> omega), e2, pbN_rV] at ee
  rw [← (rI_inj ee).1, c2, Int.toNat_natCast]
theorem kc_breaksV (R : RI0 M) (C : CI M) (K : CK M) (R1 : RI0 M1) {a1 : Int} (h1 : -2147483648 ≤ a1 ∧ a1 ≤ 2147483647) (e1 : xF 1000 19 [.inr 2, .inl a1] M = rI v M1) (f1 : Fr w1 M M1) (k1 : okW cm cmo w1 = true) (e2 : xF 1000 226 [.inr 62, .inl a1] M1 = rI y M2) : v = y ∧ CK M1 := by
  obtain ⟨G, X, Y⟩ := C
  obtain ⟨W, -⟩ := ci_facts R X Y
  obtain ⟨p1, p2⟩ := xg_breaks (d := 1000) (by decide) W R.1 X h1 e1
  obtain ⟨a, b⟩ := x_breaksC (d := 1000) (by decide) W R.1 X (fun t _ => WF_gBr W t) h1 e1
  obtain ⟨q1, q2⟩ := mg_breaks (d := 1000) (by decide) W R1.1 (MG_Fr f1 k1 Y) h1 e2
  by_cases q : 0 ≤ a1 ∧ a1 < hT G
  · exact ⟨by rw [(a q).2, m_breaksV (d := 1000) (by decide) W R1.1 (MG_Fr f1 k1 Y) q e2], CK_of (p1 q).1 (a q).1⟩
  · rw [b q]
    exact ⟨by rw [(p2 q).1, (q2 q).1], K⟩
end CLC
end
section
/-! the walk over the arrangements, without a machine: codes, digits, what fits -/
section WKA
variable {R n : Nat} {sz bk : Nat → Int} {q q' : Nat → Nat}
end WKA
/-! the walk of the class: shift, next -/
section WKB
variable {R n D d : Nat} {sz bk : Nat → Int} {q q' : Nat → Nat} {M M' N : pM}
end WKB
/-! the walk from outside: is there room enough, the first one, the next one -/
section WKC
variable {R n D d : Nat} {sz bk : Nat → Int} {q q' : Nat → Nat} {M M' N : pM}
end WKC
/-! the walk begins: with some clumps -/
section WKD
variable {D d : Nat} {h M M' N : pM}
theorem cnt_succ {c : Nat → Bool} {k : Nat} : cntTo c (k + 1) = if c k then cntTo c k + 1 else cntTo c k := rfl
end WKD
/-! the clumps part the things; what fits for the reference fits for the class -/
section WKE
variable {sv : Nat → Nat} {S : Nat} {h M M' : pM}
def dj (a b : Nat) : Prop := ∀ i, a.testBit i = true → b.testBit i = false
def clo (sv : Nat → Nat) (S X : Nat) : Prop := ∀ s, s < S → (∃ i, (sv s).testBit i = true ∧ X.testBit i = true) → ∀ i, (sv s).testBit i = true → X.testBit i = true
theorem and_ex {a b : Nat} (h : a &&& b ≠ 0) : ∃ i, a.testBit i = true ∧ b.testBit i = true := by
  apply Classical.byContradiction
  intro no
  apply h
  refine Nat.eq_of_testBit_eq fun i => ?_
  rw [Nat.testBit_and, Nat.zero_testBit]
  cases x : a.testBit i with
  | false => rfl
  | true =>
    cases y : b.testBit i with
    | false => rfl
    | true => exact absurd ⟨i, x, y⟩ no
theorem and_no {a b i : Nat} (h : a &&& b = 0) (x : a.testBit i = true) : b.testBit i = false := by
  have : (a &&& b).testBit i = false := by rw [h, Nat.zero_testBit]
  rw [Nat.testBit_and, x, Bool.true_and] at this
  exact this
theorem fcP_up {ns g b : Nat} : ∀ m k i, (fcP sv ns g b k).testBit i = true → (fcP sv ns g b (k + m)).testBit i = true
  | 0, _, _, h => h
  | m + 1, k, i, h => by
    have ih := fcP_up (ns := ns) (g := g) (b := b) m k i h
    show (fcP sv ns g b (k + m + 1)).testBit i = true
    unfold fcP
    split
    · exact ih
    · rw [Nat.testBit_or, ih]; rfl
theorem clo_fix {b : Nat} (h : fcP sv 0 0 b S = b) : clo sv S b := by
  intro s hs hx i hi
  have eq : ∀ k, k ≤ S → fcP sv 0 0 b k = b := fun k hk => by
    refine Nat.eq_of_testBit_eq fun i => ?_
    cases y : b.testBit i with
    | true => exact fcP_bit y k
    | false =>
      cases z : (fcP sv 0 0 b k).testBit i with
      | false => rfl
      | true =>
        have := fcP_up (S - k) k i z
        rw [show k + (S - k) = S by omega, h, y] at this
        cases this
  have e := eq (s + 1) hs
  unfold fcP at e
  rw [eq s (by omega)] at e
  have ne : ¬ ((0 : Nat).testBit s = true ∨ sv s &&& b = 0) := by
    rintro (z | z)
    · rw [Nat.zero_testBit] at z; cases z
    · obtain ⟨j, j1, j2⟩ := hx
      rw [and_no z j1] at j2; cases j2
  rw [if_neg ne] at e
  rw [← e, Nat.testBit_or, nan_bit, hi, Nat.zero_testBit]
  simp
theorem dj_P {X b : Nat} (c : clo sv S X) (d : dj b X) : ∀ k, k ≤ S → dj (fcP sv 0 0 b k) X
  | 0, _ => d
  | k + 1, hk => by
    have ih := dj_P c d k (by omega)
    unfold fcP
    split
    · exact ih
    · rename_i z
      intro i hi
      rw [Nat.testBit_or, Bool.or_eq_true] at hi
      rcases hi with hi | hi
      · exact ih i hi
      · rw [nan_bit, Nat.zero_testBit, Bool.not_false, Bool.and_true] at hi
        cases y : X.testBit i with
        | false => rfl
        | true =>
          have all := c k (by omega) ⟨i, hi, y⟩
          obtain ⟨j, j1, j2⟩ := and_ex (fun w => z (Or.inr w))
          have := ih j j2
          rw [all j j1] at this
          cases this
theorem dj_I {X : Nat} (c : clo sv S X) : ∀ n b, dj b X → dj (fcI sv 0 0 S n b) X
  | 0, _, d => d
  | n + 1, b, d => dj_I c n _ (dj_P c d S (Nat.le_refl S))
theorem pow_bit {k i : Nat} : (2 ^ k).testBit i = decide (k = i) := Nat.testBit_two_pow
def PT (h : pM) (k : Nat) : Prop := (∀ i, i < (cgA h k).1 → clo (me h) (hS h) (cmk h k i)) ∧ (∀ i j, i < j → j < (cgA h k).1 → dj (cmk h k j) (cmk h k i)) ∧ (∀ i t, i < (cgA h k).1 → (cmk h k i).testBit t = true → t < hT h → (cgA h k).2.testBit t = false) ∧ ∀ t, t < hT h → (cgA h k).2.testBit t = false → own h k t < (cgA h k).1 ∧ (cmk h k (own h k t)).testBit t = true
theorem me_1024 (W : WF h) : ∀ k, k < hS h → me h k < 1024 := fun _ hk => me_lt W hk
theorem PT_all (W : WF h) : ∀ k, k ≤ hT h → PT h k
  | 0, _ => by
    refine ⟨fun i hi => absurd hi (Nat.not_lt_zero i), fun i j _ hj => absurd hj (Nat.not_lt_zero j), fun i t hi => absurd hi (Nat.not_lt_zero i), fun t ht hb => ?_⟩
    have : (cgA h 0).2 = aT h := rfl
    rw [this, hB h t ht, Nat.zero_testBit] at hb; cases hb
  | k + 1, hk => by
    obtain ⟨p1, p2, p3, p4⟩ := PT_all W k (by omega)
    have w2 := W.2.1
    cases q : (cgA h k).2.testBit k with
    | false =>
      have eA : cgA h (k + 1) = cgA h k := by rw [cgA_succ, q, if_neg (by decide)]
      have eM : ∀ i, cmk h (k + 1) i = cmk h k i := fun i => by
        show (if (cgA h k).2.testBit k = true ∧ i = (cgA h k).1 then cgM h k else cmk h k i) = _
        rw [q, if_neg (fun z => by cases z.1)]
      have eO : ∀ t, own h (k + 1) t = own h k t := fun t => by
        show (if (cgA h k).2.testBit k = true ∧ (cgM h k).testBit t = true then (cgA h k).1 else own h k t) = _
        rw [q, if_neg (fun z => by cases z.1)]
      unfold PT
      simp only [eA, eM, eO]
      exact ⟨p1, p2, p3, p4⟩
    | true =>
      have eA1 : (cgA h (k + 1)).1 = (cgA h k).1 + 1 := by rw [cgA_succ, q, if_pos rfl]
      have eA2 : (cgA h (k + 1)).2 = nan (cgA h k).2 (cgM h k) := by rw [cgA_succ, q, if_pos rfl]
      have eM : ∀ i, i ≠ (cgA h k).1 → cmk h (k + 1) i = cmk h k i := fun i hi => by
        show (if (cgA h k).2.testBit k = true ∧ i = (cgA h k).1 then cgM h k else cmk h k i) = _
        rw [if_neg (fun z => hi z.2)]
      have eN : cmk h (k + 1) (cgA h k).1 = cgM h k := by
        show (if (cgA h k).2.testBit k = true ∧ (cgA h k).1 = (cgA h k).1 then cgM h k else cmk h k (cgA h k).1) = _
        rw [if_pos ⟨q, rfl⟩]
      have X := cg_M W k
      have p10 := pow10 (t := k) (by omega)
      have cN : clo (me h) (hS h) (cgM h k) := by
        rw [X]
        exact clo_fix (fcI_stop (me_1024 W) 1024 _ p10 (Nat.le_add_right _ _))
      have dN : ∀ i, i < (cgA h k).1 → dj (cgM h k) (cmk h k i) := fun i hi => by
        rw [X]
        refine dj_I (p1 i hi) 1024 _ (fun t ht => ?_)
        rw [pow_bit] at ht
        have := of_decide_eq_true ht
        subst this
        cases y : (cmk h k i).testBit k with
        | false => rfl
        | true =>
          have := p3 i k hi y (by omega)
          rw [q] at this; cases this
      refine ⟨fun i hi => ?_, fun i j hij hj => ?_, fun i t hi hb ht => ?_, fun t ht hb => ?_⟩
      · rw [eA1] at hi
        by_cases y : i = (cgA h k).1
        · rw [y, eN]; exact cN
        · rw [eM i y]; exact p1 i (by omega)
      · rw [eA1] at hj
        rw [eM i (by omega)]
        by_cases y : j = (cgA h k).1
        · rw [y, eN]; exact dN i (by omega)
        · rw [eM j y]; exact p2 i j hij (by omega)
      · rw [eA1] at hi
        rw [eA2, nan_bit]
        by_cases y : i = (cgA h k).1
        · rw [y, eN] at hb
          rw [hb]; simp
        · rw [eM i y] at hb
          rw [p3 i t (by omega) hb ht]; rfl
      · rw [eA2, nan_bit] at hb
        rw [eA1]
        have eo : own h (k + 1) t = if (cgA h k).2.testBit k = true ∧ (cgM h k).testBit t = true then (cgA h k).1 else own h k t := rfl
        rw [eo]
        cases y : (cgM h k).testBit t with
        | true =>
          rw [if_pos ⟨q, rfl⟩, eN]
          exact ⟨Nat.lt_succ_self _, y⟩
        | false =>
          rw [y, Bool.not_false, Bool.and_true] at hb
          obtain ⟨a, b⟩ := p4 t ht hb
          rw [if_neg (fun z => by cases z.2), eM _ (by omega)]
          exact ⟨by omega, b⟩
theorem oOf_in (W : WF h) {t : Nat} (ht : t < hT h) : oOf h t < nC h ∧ (cOf h (oOf h t)).testBit t = true := (PT_all W (hT h) (Nat.le_refl _)).2.2.2 t ht (rest_k (hT h) t ht)
theorem oOf_iff (W : WF h) {t i : Nat} (ht : t < hT h) (hi : i < nC h) : (cOf h i).testBit t = true ↔ oOf h t = i := by
  obtain ⟨a, b⟩ := oOf_in W ht
  obtain ⟨-, p2, -, -⟩ := PT_all W (hT h) (Nat.le_refl _)
  constructor
  · intro hb
    rcases Nat.lt_trichotomy (oOf h t) i with u | u | u
    · have := p2 (oOf h t) i u hi t hb
      have b' : (cmk h (hT h) (oOf h t)).testBit t = true := b
      rw [b'] at this; cases this
    · exact u
    · have := p2 i (oOf h t) u a t b
      have b' : (cmk h (hT h) i).testBit t = true := hb
      rw [b'] at this; cases this
  · intro e
    rw [← e]; exact b
end WKE
/-! the one with the greatest sum: choose -/
section WKF
variable {R n D d : Nat} {sz bk tb : Nat → Int} {M M' N : pM} {fine : Nat → Bool} {val : Nat → Int}
end WKF
/-! the reference's rows, seen as codes that fit; both walks begin -/
section WKG
variable {D d : Nat} {G h M M' N : pM}
end WKG
end
section
/-! fits: what it answers, on both sides -/
section FTS
variable {D d : Nat} {M M' M1 M2 G h : pM} {w1 : List (Nat × Nat)} {v y : Int} {fine : Nat → Bool} {val : Nat → Int}
end FTS
/-! together, may: what they answer, on both sides -/
section TGS
variable {D d R n : Nat} {M M' M1 M2 G h : pM} {w1 : List (Nat × Nat)} {v y : Int} {sz bk : Nat → Int}
end TGS
/-! may: what it answers, on both sides -/
section MAY
variable {D d R n : Nat} {M M' M1 M2 G h : pM} {w1 : List (Nat × Nat)} {v y : Int} {sz bk : Nat → Int}
end MAY
/-! the class chooses by the bulk in a room -/
section BBK
variable {D d R n : Nat} {M M' M1 M2 G h : pM} {w1 : List (Nat × Nat)} {v y : Int} {sz bk : Nat → Int}
end BBK
/-! fullest: what it answers, on both sides -/
section FUL
variable {D d R n : Nat} {M M' M1 M2 G h : pM} {w1 : List (Nat × Nat)} {v y : Int} {sz bk : Nat → Int} {fine : Nat → Bool} {val : Nat → Int}
end FUL
/-! space: what it answers, on both sides -/
section SPC
variable {D d R n : Nat} {M M' M1 M2 G h : pM} {w1 : List (Nat × Nat)} {v y : Int} {fine : Nat → Bool} {val : Nat → Int}
end SPC
/-! near, guest: the least to be carried, on both sides -/
section NEA
variable {D d R n : Nat} {M M' M1 M2 N G h : pM} {w1 : List (Nat × Nat)} {v y : Int} {sz : Nat → Int} {fine : Nat → Bool} {val : Nat → Int}
end NEA
/-! is there an arrangement at all: of some clumps, with other sizes -/
section EXA
variable {D d R n : Nat} {M M' M1 M2 G h N : pM} {w1 : List (Nat × Nat)} {v y : Int} {sz bk : Nat → Int} {q : Nat → Nat}
end EXA
/-! could: what it answers, on both sides -/
section COU
variable {D d R n : Nat} {M M' M1 M2 G h N : pM} {w1 : List (Nat × Nat)} {v y : Int} {sz bk : Nat → Int}
end COU
/-! build: what it answers, on both sides -/
section BLD
variable {D d R n : Nat} {M M' M1 M2 G h N : pM} {w1 : List (Nat × Nat)} {v y : Int} {sz bk : Nat → Int}
end BLD
/-! sell: the reference's rows when some clumps are sold -/
section SLD
variable {D d R n T C s code W : Nat} {M M' M1 M2 G h N : pM}
end SLD
/-! sell: what it answers, on both sides -/
section SEL
variable {D d : Nat} {M M' M1 M2 G h N : pM} {w1 : List (Nat × Nat)} {v y : Int}
end SEL
end
section
/-! which letter a sign is -/
section SIX
variable {D d : Nat} {M : pM}
end SIX
/-! a rule is read -/
section XRU
variable {tx : Nat → Int} {st d D : Nat} {M M' : pM} {lv : Int → Int}
end XRU
/-! rule: what it answers and what it keeps, on both sides -/
section RUL
variable {tx : Nat → Int} {st d D L : Nat} {M M' M1 M2 N : pM} {lv lv' : Int → Int} {w1 : List (Nat × Nat)} {v y : Int}
def X3 (M M' : pM) : Prop := ∀ o i, ¬ (o = 3 ∧ (i = 1 ∨ i = 2 ∨ i = 3)) → M' o i = M o i
end RUL
/-! the reader of the rule that is kept: as 78a and 85b (by program) -/
section YR
variable {tx : Nat → Int} {st d : Nat} {M : pM}
end YR
section YRU
variable {tx : Nat → Int} {st d D : Nat} {M M' : pM} {lv : Int → Int}
end YRU
/-! what a thing is worth in a room, on both sides -/
section WOR
variable {tx : Nat → Int} {d D L : Nat} {M M' M1 M2 N G : pM} {w1 w2 : List (Nat × Nat)} {v y : Int} {lv : Int → Int}
end WOR
/-! thing: what it answers, on both sides -/
section THI
variable {tx : Nat → Int} {d D L : Nat} {M M' M1 M2 N G : pM} {w1 : List (Nat × Nat)} {v y : Int}
end THI
/-! best: what it answers, on both sides -/
section BES
variable {tx : Nat → Int} {d D L : Nat} {M M' M1 M2 N G : pM} {w1 : List (Nat × Nat)} {v y : Int}
end BES
end
section
/-! queue: how many clumps are carried, on both sides -/
section QUA
variable {G : pM} {p q : Nat → Int}
def nzQ (z : Int) : Prop := ¬ eq32 z 0
theorem bz_iff {c : Nat → Bool} {n : Nat} : bitsOf c n = 0 ↔ ∀ i, i < n → c i = false := by
  constructor
  · intro h i hi
    have e := bitsOf_bit c n i
    rw [h, Nat.zero_testBit, decide_eq_true hi, Bool.true_and] at e
    exact e.symm
  · intro h
    apply Nat.eq_of_testBit_eq
    intro i
    rw [bitsOf_bit, Nat.zero_testBit]
    by_cases y : i < n
    · rw [h i y, Bool.and_false]
    · rw [decide_eq_false y, Bool.false_and]
theorem oneR_iff (W : WF G) (hq : ∀ t, t < hT G → 0 ≤ q t ∧ q t < hR G) {a : Nat} (ha : a < 2 ^ hT G) : oneR G q a = true ↔ ∀ t u, a.testBit t = true → a.testBit u = true → q t = q u := by
  have w1 := W.1
  have a10 : a < 1024 := Nat.lt_of_lt_of_le ha (p_T W)
  have e := pd_one W hq ha
  constructor
  · intro o t u ht hu
    rw [o] at e
    have key : ∀ t, a.testBit t = true → q t = q (fst1 a) := fun t ht => by
      have h0 : a ≠ 0 := fun z => by
        rw [z, Nat.zero_testBit] at ht
        cases ht
      have lt := bit_lt ha ht
      have b1 := hq t lt
      have b2 := hq _ (bit_lt ha (fst1_bit a10 h0))
      apply Classical.byContradiction
      intro z
      have : pdF q a (hT G) = true := pdF_iff.mpr ⟨t, lt, ht, fun y => z ((eq32_iff (by omega) (by omega) (by omega) (by omega)).mp y)⟩
      rw [e] at this
      exact absurd this (by decide)
    exact (key t ht).trans (key u hu).symm
  · intro h
    cases o : oneR G q a with
    | true => rfl
    | false =>
      rw [o] at e
      obtain ⟨t, lt, ht, z⟩ := pdF_iff.mp e
      have h0 : a ≠ 0 := fun z => by
        rw [z, Nat.zero_testBit] at ht
        cases ht
      exact absurd (show eq32 (q t) (q (fst1 a)) by rw [h t _ ht (fst1_bit a10 h0)]) z
theorem set_own (W : WF G) {s t u : Nat} (hs : s < hS G) (ht : (me G s).testBit t = true) (hu : (me G s).testBit u = true) : oOf G u = oOf G t := by
  have lt := bit_lt (W.2.2.2.2.2.2.2.2 s hs) ht
  have lu := bit_lt (W.2.2.2.2.2.2.2.2 s hs) hu
  obtain ⟨o1, o2⟩ := oOf_in W lt
  have c : clo (me G) (hS G) (cOf G (oOf G t)) := (PT_all W (hT G) (Nat.le_refl _)).1 _ o1
  exact (oOf_iff W lu o1).mp (c s hs ⟨t, ht, o2⟩ u hu)
/-- some clumps are where the aim has them, the others where they are -/
def qA (G : pM) (p : Nat → Int) (s t : Nat) : Int := if s.testBit (oOf G t) = true then p t else G 6 t
theorem qA_rg (W : WF G) (hp : ∀ t, t < hT G → 0 ≤ p t ∧ p t < hR G) (s : Nat) : ∀ t, t < hT G → 0 ≤ qA G p s t ∧ qA G p s t < hR G := fun t ht => by
  have h1 := (W.2.2.2.2.2.2.2.1 t ht).2.2.2
  have h2 := hp t ht
  unfold qA
  split
  · exact h2
  · exact h1
theorem qA_ptd (W : WF G) (hp : ∀ t, t < hT G → 0 ≤ p t ∧ p t < hR G) (a1 : ptd G p = 0) (a2 : ptd G (G 6) = 0) (s : Nat) : ptd G (qA G p s) = 0 := by
  have h6 : ∀ t, t < hT G → 0 ≤ G 6 t ∧ G 6 t < hR G := fun t ht => (W.2.2.2.2.2.2.2.1 t ht).2.2.2
  refine bz_iff.mpr fun k hk => ?_
  show (!oneR G (qA G p s) (me G k)) = false
  have m := W.2.2.2.2.2.2.2.2 k hk
  have b1 : (!oneR G p (me G k)) = false := bz_iff.mp a1 k hk
  have b2 : (!oneR G (G 6) (me G k)) = false := bz_iff.mp a2 k hk
  have o1 : oneR G p (me G k) = true := by
    cases z : oneR G p (me G k) with
    | true => rfl
    | false => rw [z] at b1; exact absurd b1 (by decide)
  have o2 : oneR G (G 6) (me G k) = true := by
    cases z : oneR G (G 6) (me G k) with
    | true => rfl
    | false => rw [z] at b2; exact absurd b2 (by decide)
  have o3 : oneR G (qA G p s) (me G k) = true := (oneR_iff W (qA_rg W hp s) m).mpr fun t u ht hu => by
    unfold qA
    rw [set_own W hk ht hu]
    split
    · exact (oneR_iff W hp m).mp o1 t u ht hu
    · exact (oneR_iff W h6 m).mp o2 t u ht hu
  rw [o3]; rfl
/-- the clumps that are to be carried -/
def mvF (G : pM) (p : Nat → Int) : Nat → Nat
  | 0 => 0
  | k + 1 => if G 6 k = p k then mvF G p k else mvF G p k ||| 2 ^ oOf G k
theorem mvF_lt (W : WF G) (p : Nat → Int) : ∀ k, k ≤ hT G → mvF G p k < 1024
  | 0, _ => (show 0 < 1024 by decide)
  | k + 1, hk => by
    have ih := mvF_lt W p k (by omega)
    have o := (oOf_in W (show k < hT G by omega)).1
    have n := nC_le W
    unfold mvF
    split
    · exact ih
    · exact Nat.or_lt_two_pow (n := 10) ih (pow10 (by omega))
theorem mvF_in (W : WF G) (p : Nat → Int) {c : Nat} : ∀ k, k ≤ hT G → (mvF G p k).testBit c = true → c < nC G
  | 0, _, h => by
    rw [show mvF G p 0 = 0 from rfl, Nat.zero_testBit] at h
    exact absurd h (by decide)
  | k + 1, hk, h => by
    have ih := mvF_in W p (c := c) k (by omega)
    have o := (oOf_in W (show k < hT G by omega)).1
    unfold mvF at h
    split at h
    · exact ih h
    · rw [Nat.testBit_or, Bool.or_eq_true, Nat.testBit_two_pow, decide_eq_true_iff] at h
      rcases h with h | h
      · exact ih h
      · omega
def cNX (x : Nat) (A : Nat → Prop) (s : Nat) : Prop := ∃ c, c < 10 ∧ x.testBit c = true ∧ s.testBit c = false ∧ A (s ||| 2 ^ c)
theorem cNX_cg {x s : Nat} {A B : Nat → Prop} (e : ∀ u, s < u → (A u ↔ B u)) : cNX x A s ↔ cNX x B s :=
  ⟨fun ⟨c, c1, c2, c3, c4⟩ => ⟨c, c1, c2, c3, (e _ (or_gt c3)).mp c4⟩, fun ⟨c, c1, c2, c3, c4⟩ => ⟨c, c1, c2, c3, (e _ (or_gt c3)).mpr c4⟩⟩
theorem q_meet {x : Nat} {A B L : Nat → Prop} (hA : ∀ s, s < 1024 → nan s x = 0 → (A s ↔ s = x ∨ cNX x (fun u => A u ∧ L u) s)) (hB : ∀ s, 0 < s → s < 1024 → nan s x = 0 → (B s ↔ L s ∧ (s = x ∨ cNX x B s))) : ∀ m s, 1024 ≤ s + m → 0 < s → s < 1024 → nan s x = 0 → (B s ↔ A s ∧ L s) := by
  intro m
  induction m with
  | zero => intro s h1 h2 h3; omega
  | succ m ih =>
    intro s h1 h2 h3 h4
    have up : ∀ c, c < 10 → x.testBit c = true → s.testBit c = false → (B (s ||| 2 ^ c) ↔ A (s ||| 2 ^ c) ∧ L (s ||| 2 ^ c)) := fun c c1 c2 c3 => by
      have := or_gt c3
      exact ih _ (by omega) (by omega) (or_bit c1 h3) (nan_or h4 c2)
    rw [hB s h2 h3 h4, hA s h3 h4]
    constructor
    · intro ⟨l, h⟩
      refine ⟨h.imp id fun ⟨c, c1, c2, c3, c4⟩ => ⟨c, c1, c2, c3, (up c c1 c2 c3).mp c4⟩, l⟩
    · intro ⟨h, l⟩
      refine ⟨l, h.imp id fun ⟨c, c1, c2, c3, c4⟩ => ⟨c, c1, c2, c3, (up c c1 c2 c3).mpr c4⟩⟩
theorem q_meet0 {x : Nat} {A B L : Nat → Prop} (hA : ∀ s, s < 1024 → nan s x = 0 → (A s ↔ s = x ∨ cNX x (fun u => A u ∧ L u) s)) (hB : ∀ s, 0 < s → s < 1024 → nan s x = 0 → (B s ↔ L s ∧ (s = x ∨ cNX x B s))) : A 0 ↔ (0 = x ∨ cNX x B 0) := by
  have n0 : nan 0 x = 0 := by unfold nan; rw [Nat.zero_and, Nat.zero_xor]
  have up : ∀ c, c < 10 → x.testBit c = true → (B (0 ||| 2 ^ c) ↔ A (0 ||| 2 ^ c) ∧ L (0 ||| 2 ^ c)) := fun c c1 c2 => by
    have := or_gt (Nat.zero_testBit c)
    exact q_meet hA hB 1024 _ (by omega) this (or_bit c1 (by decide)) (nan_or n0 c2)
  rw [hA 0 (by decide) n0]
  constructor
  · exact fun h => h.imp id fun ⟨c, c1, c2, c3, c4⟩ => ⟨c, c1, c2, c3, (up c c1 c2).mpr c4⟩
  · exact fun h => h.imp id fun ⟨c, c1, c2, c3, c4⟩ => ⟨c, c1, c2, c3, (up c c1 c2).mp c4⟩
theorem cnt_or {s c : Nat} (h : s.testBit c = false) : ∀ n, cntTo (s ||| 2 ^ c).testBit n = cntTo s.testBit n + if c < n then 1 else 0
  | 0 => by rw [if_neg (Nat.not_lt_zero c)]; rfl
  | n + 1 => by
    have ih := cnt_or h n
    rw [cnt_succ, cnt_succ, ih, Nat.testBit_or, Nat.testBit_two_pow]
    by_cases y : c = n
    · rw [← y, h, decide_eq_true rfl, if_pos (by rfl), if_neg (Nat.lt_irrefl c), if_neg (by decide), if_pos (Nat.lt_succ_self c)]
    · rw [decide_eq_false y, Bool.or_false]
      by_cases z : c < n
      · rw [if_pos z, if_pos (show c < n + 1 by omega)]
        split <;> omega
      · rw [if_neg z, if_neg (show ¬ c < n + 1 by omega)]
        split <;> omega
theorem popc_or1 {s c : Nat} (hc : c < 10) (h : s.testBit c = false) : popc (s ||| 2 ^ c) = popc s + 1 := by
  have := cnt_or h 10
  rw [if_pos hc] at this
  exact this
end QUA
section QUM
variable {D d S T R C x1 : Nat} {sv : Nat → Nat} {M M' N G : pM} {p : Nat → Int} {v y : Int}
theorem LW_ovf (W : WF G) (X : MH N G) (h72 : ∀ t, t < hT G → N 72 t = (oOf G t : Int)) (P : PL N G 81 p) (a1 : ptd G p = 0) (a2 : ptd G (G 6) = 0) (s : Nat) : LW N (hS G) (hT G) (hR G) (me G) s = true ↔ ovf G (qA G p s) = 0 := by
  have hp : ∀ t, t < hT G → 0 ≤ p t ∧ p t < hR G := fun t ht => (P t ht).2
  have e : ∀ t, t < hT G → qP N (hT G) s t = qA G p s t := fun t ht => by
    unfold qP qA
    rw [if_pos ht, h72 t ht, Int.toNat_natCast, (P t ht).1, (X.2.2.2.2.2.1 t ht).2.2.2]
  have rg : ∀ t, t < hT G → 0 ≤ qP N (hT G) s t ∧ qP N (hT G) s t < hR G := fun t ht => by
    rw [e t ht]; exact qA_rg W hp s t ht
  unfold LW
  rw [lw_same W X rg]
  unfold lwf
  rw [ptd_cg e, ovf_cg e, qA_ptd W hp a1 a2 s]
  exact ⟨fun z => z.2, fun z => ⟨rfl, z⟩⟩
def rQ (N M : pM) (S T R : Nat) (sv : Nat → Nat) (x1 s a : Nat) : Prop := ∃ c, a ≤ c ∧ c < 10 ∧ x1.testBit c = true ∧ s.testBit c = false ∧ M 82 (s ||| 2 ^ c) ≠ 0 ∧ LW N S T R sv (s ||| 2 ^ c) = true
theorem rQ_cg {s a : Nat} (e : ∀ i, s < i → M' 82 i = M 82 i) : rQ N M' S T R sv x1 s a ↔ rQ N M S T R sv x1 s a :=
  ⟨fun ⟨c, c1, c2, c3, c4, c5, c6⟩ => ⟨c, c1, c2, c3, c4, by rw [← e _ (or_gt c4)]; exact c5, c6⟩, fun ⟨c, c1, c2, c3, c4, c5, c6⟩ => ⟨c, c1, c2, c3, c4, by rw [e _ (or_gt c4)]; exact c5, c6⟩⟩
theorem m_q89F (hD : 4 ≤ D) (hF : FCx N S T sv) (h0 : N 60 0 = (R : Int)) (hR : R ≤ 6) (hC : N 60 30 = (C : Int)) (hC2 : C ≤ 10) (hx : x1 < 1024) (xC : ∀ c, x1.testBit c = true → c < C) {s : Nat} (hs : s < 1024) : ∀ (m x : Nat) (M : pM), x + m = C → gM gAll M → QF T N M → ∃ y M', xE D 259 89 [.inr 62, .inl (x1 : Int), .inl (s : Int), .inl (x : Int)] [] M = xE D 259 68 [.inr 62, .inl (x1 : Int), .inl ((s : Int) + (-1)), y] [] M' ∧ gM gAll M' ∧ QF T N M' ∧ (∀ i, i ≠ s → M' 82 i = M 82 i) ∧ (M' 82 s ≠ 0 ↔ M 82 s ≠ 0 ∨ rQ N M S T R sv x1 s x) := by
  have i1 : (0 : Int) ≤ (s : Int) ∧ (s : Int) < 1024 := by omega
  have g82 : ∀ {M : pM} {v : Int}, gM gAll M → 0 ≤ v → v ≤ 1 → gM gAll (pset M 82 s v) := fun g a b => gM_r g (lo := 0) (hi := 1) (by decide +kernel) (by decide +kernel) a b
  intro m
  induction m with
  | zero =>
    intro x M hm g hq
    rw [L_M_queue_89, hq 60 30 (by decide) (by decide) (by decide) (by omega), hC, if_pos (by rw [le32_iff] <;> omega)]
    exact ⟨_, M, rfl, g, hq, fun _ _ => rfl, ⟨Or.inl, fun z => z.elim id (fun ⟨c, c1, c2, c3, _⟩ => absurd (xC c c3) (by omega))⟩⟩
  | succ m ih =>
    intro x M hm g hq
    have b82 := gm_r g (o := 82) (lo := 0) (hi := 1) (by decide +kernel) (by decide +kernel) (k := s) (show s < 1024 from hs)
    have hp : 2 ^ x < 2147483648 := Nat.lt_of_lt_of_le (Nat.pow_lt_pow_right (by decide) (show x < 31 by omega)) (Nat.le_refl (2 ^ 31))
    have hn := nan_le x1 s
    rw [L_M_queue_89, hq 60 30 (by decide) (by decide) (by decide) (by omega), hC, if_neg (by rw [le32_iff] <;> omega), if_pos i1, Int.toNat_natCast]
    by_cases q : eq32 (M 82 s) 0
    · have q0 : M 82 s = 0 := (eq32_iff (by omega) (by omega) (by omega) (by omega)).mp q
      have no : ∀ M3 : pM, gM gAll M3 → QF T N M3 → (∀ i, M3 82 i = M 82 i) → ¬ (x1.testBit x = true ∧ s.testBit x = false ∧ M 82 (s ||| 2 ^ x) ≠ 0 ∧ LW N S T R sv (s ||| 2 ^ x) = true) → ∃ y M', xE D 259 89 [.inr 62, .inl (x1 : Int), .inl (s : Int), .inl ((x + 1 : Nat) : Int)] [] (pset M3 82 s 0) = xE D 259 68 [.inr 62, .inl (x1 : Int), .inl ((s : Int) + (-1)), y] [] M' ∧ gM gAll M' ∧ QF T N M' ∧ (∀ i, i ≠ s → M' 82 i = M 82 i) ∧ (M' 82 s ≠ 0 ↔ M 82 s ≠ 0 ∨ rQ N M S T R sv x1 s x) := by
        intro M3 g3 q3 k z
        obtain ⟨y, M', e, g', q', o, h⟩ := ih (x + 1) (pset M3 82 s 0) (by omega) (g82 g3 (by decide) (by decide)) (QF_82 q3)
        refine ⟨y, M', e, g', q', fun i hi => by rw [o i hi, pset_ne2 hi, k], h.trans ?_⟩
        rw [pset_eq, q0]
        have tr : ∀ c, s.testBit c = false → pset M3 82 s 0 82 (s ||| 2 ^ c) = M 82 (s ||| 2 ^ c) := fun c hc => by
          have := or_gt hc
          rw [pset_ne2 (by omega), k]
        constructor
        · rintro (w | ⟨c, c1, c2, c3, c4, c5, c6⟩)
          · exact absurd rfl w
          · exact Or.inr ⟨c, by omega, c2, c3, c4, by rw [← tr c c4]; exact c5, c6⟩
        · rintro (w | ⟨c, c1, c2, c3, c4, c5, c6⟩)
          · exact absurd rfl w
          · have : c ≠ x := fun w => z (by rw [← w]; exact ⟨c3, c4, c5, c6⟩)
            exact Or.inr ⟨c, by omega, c2, c3, c4, by rw [tr c c4]; exact c5, c6⟩
      rw [if_neg (fun z => z q), jxor_m1 (by omega), jand_not (by omega) (by omega), m_has (by omega) (by omega) (by omega), pbI_rI, jshl_one x (by omega), jor_nat (by omega) hp, show ((x : Int) + 1) = ((x + 1 : Nat) : Int) by omega]
      by_cases q2 : (nan x1 s).testBit x = true
      · have q3 : x1.testBit x = true ∧ s.testBit x = false := by
          rw [nan_bit, Bool.and_eq_true] at q2
          exact ⟨q2.1, by rw [← Bool.not_eq_true']; exact q2.2⟩
        have o1 := or_bit (c := x) (by omega) hs
        have b82' := gm_r g (o := 82) (lo := 0) (hi := 1) (by decide +kernel) (by decide +kernel) (k := s ||| 2 ^ x) (show s ||| 2 ^ x < 1024 from o1)
        rw [if_pos q2, if_neg (by decide), if_pos (by omega), Int.toNat_natCast]
        by_cases q4 : eq32 (M 82 (s ||| 2 ^ x)) 0
        · rw [if_pos q4, if_pos i1]
          exact no M g hq (fun _ => rfl) (fun z => z.2.2.1 ((eq32_iff (by omega) (by omega) (by omega) (by omega)).mp q4))
        · obtain ⟨M3, e3, g3, f3⟩ := m_with (d := D) hD hF h0 hR hq g o1
          have k82 : ∀ i, M3 82 i = M 82 i := fun i => f3 82 i (by omega)
          rw [if_neg q4, e3, pbI_rI]
          by_cases q5 : LW N S T R sv (s ||| 2 ^ x) = true
          · rw [if_pos q5, if_neg (by decide), if_pos i1]
            obtain ⟨y, M', e, g', q', o, h⟩ := ih (x + 1) (pset M3 82 s 1) (by omega) (g82 g3 (by decide) (by decide)) (QF_82 (QF_tr hq f3))
            exact ⟨y, M', e, g', q', fun i hi => by rw [o i hi, pset_ne2 hi, k82], ⟨fun _ => Or.inr ⟨x, Nat.le_refl x, by omega, q3.1, q3.2, fun z => q4 (by rw [z]), q5⟩, fun _ => h.mpr (Or.inl (by rw [pset_eq]; decide))⟩⟩
          · rw [if_neg q5, if_pos rfl, if_pos i1]
            exact no M3 g3 (QF_tr hq f3) k82 (fun z => q5 z.2.2.2)
      · rw [if_neg q2, if_pos rfl, if_pos i1]
        exact no M g hq (fun _ => rfl) (fun z => q2 (by rw [nan_bit, z.1, z.2.1]; rfl))
    · rw [if_pos q]
      exact ⟨_, M, rfl, g, hq, fun _ _ => rfl, ⟨Or.inl, fun _ z => q (by rw [z])⟩⟩
theorem m_q146F (hD : 4 ≤ D) (hF : FCx N S T sv) (h0 : N 60 0 = (R : Int)) (hR : R ≤ 6) (hx : x1 < 1024) : ∀ (m s k : Nat) (y : pV) (M : pM), x1 ≤ s + m → s < 1024 → nan s x1 = 0 → gM gAll M → QF T N M → M 60 16 = (k : Int) → k ≤ popc s → M 82 s ≠ 0 → (∀ s', s' < 1024 → nan s' x1 = 0 → CCs N M S T R sv x1 s') → ∃ M', xE D 259 146 [.inr 62, .inl (x1 : Int), .inl (s : Int), y] [] M = rI (popc x1 : Nat) M' := by
  have fin : ∀ (s : Nat) (y : pV) (M : pM), s = x1 → ∃ M', xE D 259 146 [.inr 62, .inl (x1 : Int), .inl (s : Int), y] [] M = rI (popc x1 : Nat) M' := fun s y M hs => by
    rw [L_M_queue_146, if_pos (by rw [hs]), j_bitCount (by omega) hx, pbI_rI]
    exact ⟨M, rfl⟩
  intro m
  induction m with
  | zero =>
    intro s k y M hm hs hn g hq h16 hk h82 hcc
    exact fin s y M (by have := nan_le2 hn; omega)
  | succ m ih =>
    intro s k y M hm hs hn g hq h16 hk h82 hcc
    by_cases q : s = x1
    · exact fin s y M q
    · have hp := popc_le s
      rcases hcc s hs hn with h | h | ⟨c, d1, d2, d3, d4, d5⟩
      · exact absurd h h82
      · exact absurd h q
      · rw [L_M_queue_146, if_neg (by rw [eq32_iff] <;> omega)]
        obtain ⟨c', M', r1, r2, r3, r4, r5, r6, r7, r8, r9⟩ := m_q151 (k := k) hD hF h0 hR hx hs (by omega) d1 d2 d3 d5 c 0 M (by omega) g hq h16 d4
        have o2 := or_gt r4
        have o3 := popc_or r2 r4
        rw [show (.inl 0 : pV) = .inl ((0 : Nat) : Int) from rfl, r1]
        exact ih (s ||| 2 ^ c') (k + 1) _ M' (by omega) (or_bit r2 hs) (nan_or hn r3) r6 r7 r9 (by omega) r5 (fun s' a b => CCs_congr (hcc s' a b) r8)
theorem m_q68F (hD : 4 ≤ D) (hF : FCx N S T sv) (h0 : N 60 0 = (R : Int)) (hR : R ≤ 6) (hC : N 60 30 = (C : Int)) (hC2 : C ≤ 10) (hx : x1 < 1024) (xC : ∀ c, x1.testBit c = true → c < C) : ∀ (lo : Nat) (y : pV) (M : pM), lo ≤ 1024 → gM gAll M → QF T N M → (∀ s, lo ≤ s → s < 1024 → nan s x1 = 0 → (M 82 s ≠ 0 ↔ s = x1 ∨ rQ N M S T R sv x1 s 0)) → ∃ (A : Nat → Prop) (z : Int) (M' : pM), xE D 259 68 [.inr 62, .inl (x1 : Int), .inl ((lo : Int) - 1), y] [] M = rI z M' ∧ (∀ s, s < 1024 → nan s x1 = 0 → (A s ↔ s = x1 ∨ cNX x1 (fun u => A u ∧ LW N S T R sv u = true) s)) ∧ (A 0 → z = (popc x1 : Nat)) ∧ (¬ A 0 → z = -2) := by
  intro lo
  induction lo with
  | zero =>
    intro y M hlo g hq hcc
    have b82 := gm_r g (o := 82) (lo := 0) (hi := 1) (by decide +kernel) (by decide +kernel) (k := 0) (show 0 < 1024 by decide)
    have hA : ∀ s, s < 1024 → nan s x1 = 0 → (M 82 s ≠ 0 ↔ s = x1 ∨ cNX x1 (fun u => M 82 u ≠ 0 ∧ LW N S T R sv u = true) s) := fun s h1 h2 => (hcc s (Nat.zero_le s) h1 h2).trans ⟨fun z => z.imp id fun ⟨c, _, c2, c3, c4, c5, c6⟩ => ⟨c, c2, c3, c4, c5, c6⟩, fun z => z.imp id fun ⟨c, c2, c3, c4, c5, c6⟩ => ⟨c, Nat.zero_le c, c2, c3, c4, c5, c6⟩⟩
    rw [L_M_queue_68, if_pos (by decide)]
    by_cases q : eq32 (M 82 0) 0
    · rw [if_neg (fun z => z q)]
      exact ⟨fun s => M 82 s ≠ 0, -2, M, rfl, hA, fun z => absurd ((eq32_iff (by omega) (by omega) (by omega) (by omega)).mp q) z, fun _ => rfl⟩
    · have cc : ∀ s', s' < 1024 → nan s' x1 = 0 → CCs N (pset M 60 16 0) S T R sv x1 s' := fun s' h1 h2 => by
        refine CCs_congr (M := M) ?_ (fun i => pset_ne (by decide))
        by_cases z : M 82 s' = 0
        · exact Or.inl z
        · exact Or.inr (((hcc s' (Nat.zero_le _) h1 h2).mp z).imp id fun ⟨c, _, c2, c3, c4, c5, c6⟩ => ⟨c, c2, c3, c4, c5, c6⟩)
      rw [if_pos q, show (.inl 0 : pV) = .inl ((0 : Nat) : Int) from rfl]
      obtain ⟨M', e⟩ := m_q146F hD hF h0 hR hx x1 0 0 y (pset M 60 16 0) (by omega) (by decide) (by unfold nan; rw [Nat.zero_and, Nat.zero_xor]) (gM_row0 g) (fun o i a b c e => by
        rw [← hq o i a b c e]; exact if_neg b) pset_eq (Nat.zero_le _) (by rw [pset_ne (by decide)]; exact fun z => q (by rw [z])) cc
      exact ⟨fun s => M 82 s ≠ 0, _, M', e, hA, fun _ => rfl, fun z => absurd (fun w => q (by rw [w])) z⟩
  | succ lo ih =>
    intro y M hlo g hq hcc
    have hn := nan_le lo x1
    have e1 : (((lo + 1 : Nat) : Int) - 1) = (lo : Int) := by omega
    have e2 : ((lo : Int) + (-1)) = (lo : Int) - 1 := by omega
    rw [e1, L_M_queue_68, if_neg (by rw [lt32_iff] <;> omega), jxor_m1 (by omega), jand_not (by omega) (by omega)]
    have g82 : ∀ {M : pM} {v : Int}, gM gAll M → 0 ≤ v → v ≤ 1 → gM gAll (pset M 82 lo v) := fun g a b => gM_r g (lo := 0) (hi := 1) (by decide +kernel) (by decide +kernel) a b
    by_cases q : nan lo x1 = 0
    · rw [if_pos (by rw [q]; rfl), if_pos (show (0 : Int) ≤ (lo : Int) ∧ (lo : Int) < 1024 by omega), if_pos (show (0 : Int) ≤ (lo : Int) ∧ (lo : Int) < 1024 by omega), Int.toNat_natCast]
      have go : ∀ v : Int, 0 ≤ v → v ≤ 1 → (v ≠ 0 ↔ lo = x1) → ∃ (A : Nat → Prop) (z : Int) (M' : pM), xE D 259 89 [.inr 62, .inl (x1 : Int), .inl (lo : Int), .inl 0] [] (pset M 82 lo v) = rI z M' ∧ (∀ s, s < 1024 → nan s x1 = 0 → (A s ↔ s = x1 ∨ cNX x1 (fun u => A u ∧ LW N S T R sv u = true) s)) ∧ (A 0 → z = (popc x1 : Nat)) ∧ (¬ A 0 → z = -2) := fun v v1 v2 v3 => by
        obtain ⟨y', M1, r1, r2, r3, r4, r5⟩ := m_q89F hD hF h0 hR hC hC2 hx xC (s := lo) (by omega) C 0 (pset M 82 lo v) (by omega) (g82 g v1 v2) (QF_82 hq)
        rw [show (.inl 0 : pV) = .inl ((0 : Nat) : Int) from rfl, r1, e2]
        refine ih y' M1 (by omega) r2 r3 (fun s a b c => ?_)
        by_cases w : s = lo
        · rw [w, r5, pset_eq, v3]
          have k : rQ N M1 S T R sv x1 lo 0 ↔ rQ N (pset M 82 lo v) S T R sv x1 lo 0 := rQ_cg fun i hi => r4 i (by omega)
          rw [k]
        · have k : rQ N M1 S T R sv x1 s 0 ↔ rQ N M S T R sv x1 s 0 := rQ_cg fun i hi => by rw [r4 i (by omega), pset_ne2 (by omega)]
          rw [k, r4 s w, pset_ne2 w]
          exact hcc s (by omega) b c
      by_cases q2 : lo = x1
      · rw [if_neg (fun z => z (by rw [q2]))]; exact go 1 (by decide) (by decide) ⟨fun _ => q2, fun _ => by decide⟩
      · rw [if_pos (by rw [eq32_iff] <;> omega)]; exact go 0 (by decide) (by decide) ⟨fun z => absurd rfl z, fun z => absurd z q2⟩
    · rw [if_neg (by rw [eq32_iff] <;> omega), e2]
      exact ih y M (by omega) g hq (fun s a b c => by
        by_cases qs : s = lo
        · rw [qs] at c; exact absurd c q
        · exact hcc s (by omega) b c)
theorem m_mv (W : WF G) (X : MH N G) (h72 : ∀ t, t < hT G → N 72 t = (oOf G t : Int)) (P : PL N G 81 p) : ∀ m k, k + m = hT G → xE D 259 40 [.inr 62, .inl (mvF G p k : Nat), .inl (k : Int), .inr 0] [] N = xE D 259 68 [.inr 62, .inl (mvF G p (hT G) : Nat), .inl (mvF G p (hT G) : Nat), .inr 0] [] N
  | 0, k, hk => by
    have w2 := W.2.1
    rw [L_M_queue_40, X.2.1, if_pos (by rw [le32_iff] <;> omega), show k = hT G by omega]
  | m + 1, k, hk => by
    have w1 := W.1
    have w2 := W.2.1
    have i1 : (0 : Int) ≤ (k : Int) ∧ (k : Int) < 10 := by omega
    have ih := m_mv W X h72 P m (k + 1) (by omega)
    have s : mvF G p (k + 1) = if G 6 k = p k then mvF G p k else mvF G p k ||| 2 ^ oOf G k := rfl
    have l := mvF_lt W p k (by omega)
    have o := (oOf_in W (show k < hT G by omega)).1
    have n := nC_le W
    have p10 := pow10 (show oOf G k < 10 by omega)
    have b1 := (W.2.2.2.2.2.2.2.1 k (by omega)).2.2.2
    have b2 := (P k (by omega)).2
    rw [L_M_queue_40, X.2.1, if_neg (by rw [le32_iff] <;> omega), if_pos i1, if_pos i1, Int.toNat_natCast, (X.2.2.2.2.2.1 k (by omega)).2.2.2, (P k (by omega)).1, show ((k : Int) + 1) = ((k + 1 : Nat) : Int) by omega]
    by_cases q : G 6 k = p k
    · rw [if_pos q] at s
      rw [if_pos (by rw [q]), show jor ((mvF G p k : Nat) : Int) 0 = ((mvF G p k ||| 0 : Nat) : Int) from jor_nat (b := 0) (by omega) (by decide), Nat.or_zero, ← s]
      exact ih
    · rw [if_neg q] at s
      rw [if_neg (by rw [eq32_iff] <;> omega), if_pos i1, h72 k (by omega), jshl_one _ (by omega), jor_nat (by omega) (by omega), ← s]
      exact ih
end QUM
/-! queue: one side's search -/
section QUX
variable {D d : Nat} {M M' M1 N G : pM} {p : Nat → Int} {v y : Int}
theorem x_mv (hd : 2 ≤ d) (W : WF G) (X : XH M G) (C : CL M G) (P : PL M G 58 p) : xF d 157 [.inr 9, .inr 60] M = rI (mvF G p (hT G) : Nat) M := by
  obtain ⟨D, rfl, hD⟩ := dsucc hd
  have w1 := W.1
  have w2 := W.2.1
  have key : ∀ m k, k + m = hT G → xE D 157 4 [.inr 9, .inr 60, .inl (mvF G p k : Nat), .inl (k : Int)] [] M = rI (mvF G p (hT G) : Nat) M := by
    intro m
    induction m with
    | zero =>
      intro k hk
      rw [L_Turns_movedClumps_4, X.2.1, if_pos (by rw [le32_iff] <;> omega), show k = hT G by omega]
    | succ m ih =>
      intro k hk
      have i1 : (0 : Int) ≤ (k : Int) ∧ (k : Int) < 10 := by omega
      have ih := ih (k + 1) (by omega)
      have s : mvF G p (k + 1) = if G 6 k = p k then mvF G p k else mvF G p k ||| 2 ^ oOf G k := rfl
      have l := mvF_lt W p k (by omega)
      have o := (oOf_in W (show k < hT G by omega)).1
      have n := nC_le W
      have p10 := pow10 (show oOf G k < 10 by omega)
      have b1 := (W.2.2.2.2.2.2.2.1 k (by omega)).2.2.2
      have b2 := (P k (by omega)).2
      have c16 : M 16 k = (oOf G k : Int) := C.2.2 k (by omega)
      rw [L_Turns_movedClumps_4, X.2.1, if_neg (by rw [le32_iff] <;> omega), if_pos i1, c_numberAt_58n hD (by omega), pbI_rI, Int.toNat_natCast, (X.2.2.2.2.2.1 k (by omega)).2.2.2, (P k (by omega)).1, show ((k : Int) + 1) = ((k + 1 : Nat) : Int) by omega]
      by_cases q : G 6 k = p k
      · rw [if_pos q] at s
        rw [if_pos (by rw [q]), ← s]
        exact ih
      · rw [if_neg q] at s
        rw [if_neg (by rw [eq32_iff] <;> omega), if_pos i1, c16, jshl_one _ (by omega), jor_nat (by omega) (by omega), ← s]
        exact ih
  rw [T_Turns_movedClumps]
  exact key (hT G) 0 (by omega)
theorem x_lawT (hd : 5 ≤ d) (W : WF G) (X : XH M G) (C : CL M G) (P : PL M G 58 p) {s : Nat} (hs : s < 1024) : ∃ M', xF d 159 [.inr 50, .inr 9, .inr 60, .inl (s : Int)] M = rI (if ovf G (qA G p s) = 0 then 1 else 0) M' ∧ ∀ o i, o ≠ 51 → M' o i = M o i := by
  obtain ⟨D, rfl, hD⟩ := dsucc hd
  have w1 := W.1
  have w2 := W.2.1
  have hp : ∀ t, t < hT G → 0 ≤ p t ∧ p t < hR G := fun t ht => (P t ht).2
  have key : ∀ m k (M1 : pM), k + m = hT G → (∀ o i, o ≠ 51 → M1 o i = M o i) → (∀ i, i < k → M1 51 i = qA G p s i) → ∃ M', xE D 159 2 [.inr 50, .inr 9, .inr 60, .inl (s : Int), .inl (k : Int)] [] M1 = rI (if ovf G (qA G p s) = 0 then 1 else 0) M' ∧ ∀ o i, o ≠ 51 → M' o i = M o i := by
    intro m
    induction m with
    | zero =>
      intro k M1 hk f h51
      have X1 : XH M1 G := XH_eq X (fun o i _ _ _ => f o i (by omega))
      have P1 : PL M1 G 51 (qA G p s) := fun t ht => ⟨h51 t (by omega), qA_rg W hp s t ht⟩
      rw [L_Turns_isLawful_2, X1.2.1, if_pos (by rw [le32_iff] <;> omega), c_overfull_51 (by omega) W X1 P1, pbI_rI]
      by_cases z : ovf G (qA G p s) = 0
      · rw [if_neg (fun y => y (by rw [z]; decide)), if_pos z]
        exact ⟨M1, rfl, f⟩
      · have z' : ¬ eq32 ((ovf G (qA G p s) : Nat) : Int) 0 := (bits_ne (by omega)).mpr z
        rw [if_pos z', if_neg z]
        exact ⟨M1, rfl, f⟩
    | succ m ih =>
      intro k M1 hk f h51
      have i1 : (0 : Int) ≤ (k : Int) ∧ (k : Int) < 10 := by omega
      have X1 : XH M1 G := XH_eq X (fun o i _ _ _ => f o i (by omega))
      have o := (oOf_in W (show k < hT G by omega)).1
      have n := nC_le W
      have c16 : M1 16 k = (oOf G k : Int) := (f 16 k (by decide)).trans (C.2.2 k (by omega))
      have c13 : M1 13 k = G 6 k := (X1.2.2.2.2.2.1 k (by omega)).2.2.2
      have c58 : M1 58 k = p k := (f 58 k (by decide)).trans (P k (by omega)).1
      have go : ∀ z : Int, z = qA G p s k → ∃ M', xE D 159 2 [.inr 50, .inr 9, .inr 60, .inl (s : Int), .inl ((k + 1 : Nat) : Int)] [] (pset M1 51 k z) = rI (if ovf G (qA G p s) = 0 then 1 else 0) M' ∧ ∀ o i, o ≠ 51 → M' o i = M o i := fun z hz => by
        refine ih (k + 1) _ (by omega) (fun o i h => by rw [pset_ne h, f o i h]) (fun i hi => ?_)
        by_cases w : i = k
        · rw [w, pset_eq, hz]
        · rw [pset_ne2 w]; exact h51 i (by omega)
      rw [L_Turns_isLawful_2, X1.2.1, if_neg (by rw [le32_iff] <;> omega), if_pos i1, Int.toNat_natCast, c16, c_has (by omega) (by omega) (by omega), pbI_rI, show ((k : Int) + 1) = ((k + 1 : Nat) : Int) by omega]
      by_cases b : s.testBit (oOf G k) = true
      · rw [if_pos b, if_neg (by decide), c_numberAt_58n (by omega) (by omega), pbI_rI, if_pos i1, c58]
        exact go _ (by unfold qA; rw [if_pos b])
      · rw [if_neg b, if_pos rfl, if_pos i1, if_pos i1, c13]
        exact go _ (by unfold qA; rw [if_neg b])
  rw [T_Turns_isLawful]
  exact key (hT G) 0 M (by omega) (fun _ _ _ => rfl) (fun i hi => absurd hi (Nat.not_lt_zero i))
theorem x_open (hd : 2 ≤ d) {s x : Nat} (hs : s < 1024) (hx : x < 1024) : (∃ c, c < 10 ∧ x.testBit c = true ∧ s.testBit c = false ∧ nzQ (M 49 (s ||| 2 ^ c)) ∧ xF d 158 [.inr 50, .inl (s : Int), .inl (x : Int)] M = rI (c : Int) M) ∨ (¬ cNX x (fun u => nzQ (M 49 u)) s ∧ xF d 158 [.inr 50, .inl (s : Int), .inl (x : Int)] M = rI (-1) M) := by
  obtain ⟨D, rfl, hD⟩ := dsucc hd
  have hn := nan_le x s
  have key : ∀ m k (y : pV), k + m = 10 → (∃ c, k ≤ c ∧ c < 10 ∧ x.testBit c = true ∧ s.testBit c = false ∧ nzQ (M 49 (s ||| 2 ^ c)) ∧ xE D 158 2 [.inr 50, .inl (s : Int), .inl (x : Int), .inl (k : Int), y] [] M = rI (c : Int) M) ∨ ((∀ c, k ≤ c → c < 10 → x.testBit c = true → s.testBit c = false → ¬ nzQ (M 49 (s ||| 2 ^ c))) ∧ xE D 158 2 [.inr 50, .inl (s : Int), .inl (x : Int), .inl (k : Int), y] [] M = rI (-1) M) := by
    intro m
    induction m with
    | zero =>
      intro k y hk
      refine Or.inr ⟨fun c h1 h2 => by omega, ?_⟩
      rw [L_Turns_firstOpen_2, if_pos (by rw [le32_iff] <;> omega)]
    | succ m ih =>
      intro k y hk
      have st : (x.testBit k = true ∧ s.testBit k = false ∧ nzQ (M 49 (s ||| 2 ^ k)) ∧ xE D 158 2 [.inr 50, .inl (s : Int), .inl (x : Int), .inl (k : Int), y] [] M = rI (k : Int) M) ∨ (¬ (x.testBit k = true ∧ s.testBit k = false ∧ nzQ (M 49 (s ||| 2 ^ k))) ∧ ∃ y', xE D 158 2 [.inr 50, .inl (s : Int), .inl (x : Int), .inl (k : Int), y] [] M = xE D 158 2 [.inr 50, .inl (s : Int), .inl (x : Int), .inl ((k + 1 : Nat) : Int), y'] [] M) := by
        have p10 := pow10 (show k < 10 by omega)
        have o1 := or_bit (c := k) (by omega) hs
        rw [L_Turns_firstOpen_2, if_neg (by rw [le32_iff] <;> omega), jxor_m1 (by omega), jand_not (by omega) (by omega), c_has hD (by omega) (by omega), pbI_rI, jshl_one k (by omega), jor_nat (by omega) (by omega), show ((k : Int) + 1) = ((k + 1 : Nat) : Int) by omega]
        by_cases b : (nan x s).testBit k = true
        · have b3 : x.testBit k = true ∧ s.testBit k = false := by
            rw [nan_bit, Bool.and_eq_true] at b
            exact ⟨b.1, by rw [← Bool.not_eq_true']; exact b.2⟩
          rw [if_pos b, if_neg (by decide), if_neg (by rw [lt32_iff] <;> omega), if_neg (by rw [le32_iff] <;> omega), if_pos (by omega), Int.toNat_natCast]
          by_cases z : eq32 (M 49 (s ||| 2 ^ k)) 0
          · rw [if_pos z]
            exact Or.inr ⟨fun w => w.2.2 z, _, rfl⟩
          · rw [if_neg z]
            exact Or.inl ⟨b3.1, b3.2, z, rfl⟩
        · rw [if_neg b, if_pos rfl]
          exact Or.inr ⟨fun w => b (by rw [nan_bit, w.1, w.2.1]; rfl), _, rfl⟩
      rcases st with ⟨h1, h2, h3, h4⟩ | ⟨h1, y', h2⟩
      · exact Or.inl ⟨k, Nat.le_refl k, by omega, h1, h2, h3, h4⟩
      · rcases ih (k + 1) y' (by omega) with ⟨c, c1, c2, c3, c4, c5, c6⟩ | ⟨c1, c2⟩
        · exact Or.inl ⟨c, by omega, c2, c3, c4, c5, h2.trans c6⟩
        · refine Or.inr ⟨fun c g1 g2 g3 g4 g5 => ?_, h2.trans c2⟩
          by_cases w : c = k
          · rw [w] at g3 g4 g5
            exact h1 ⟨g3, g4, g5⟩
          · exact c1 c (by omega) g2 g3 g4 g5
  rw [T_Turns_firstOpen, show (.inl 0 : pV) = .inl ((0 : Nat) : Int) from rfl]
  rcases key 10 0 (.inr 0) (by omega) with ⟨c, -, c2, c3, c4, c5, c6⟩ | ⟨c1, c2⟩
  · exact Or.inl ⟨c, c2, c3, c4, c5, c6⟩
  · exact Or.inr ⟨fun ⟨c, g2, g3, g4, g5⟩ => c1 c (Nat.zero_le c) g2 g3 g4 g5, c2⟩
theorem x_f6 (hD : 6 ≤ D) (W : WF G) {x : Nat} (hx : x < 1024) : ∀ (lo : Nat) (M : pM), lo ≤ x → XH M G → CL M G → PL M G 58 p → (∀ s, lo < s → s < 1024 → nan s x = 0 → (nzQ (M 49 s) ↔ ovf G (qA G p s) = 0 ∧ (s = x ∨ cNX x (fun u => nzQ (M 49 u)) s))) → ∃ M', xE D 156 6 [.inr 50, .inr 9, .inr 60, .inl (x : Int), .inl (lo : Int), .inr 0, .inr 0] [] M = xE D 156 50 [.inr 50, .inr 9, .inr 60, .inl (x : Int), .inl ((0 : Nat) : Int), .inl ((0 : Nat) : Int), .inr 0] [] (pset M' 48 3 0) ∧ (∀ s, 0 < s → s < 1024 → nan s x = 0 → (nzQ (M' 49 s) ↔ ovf G (qA G p s) = 0 ∧ (s = x ∨ cNX x (fun u => nzQ (M' 49 u)) s))) ∧ ∀ o i, o ≠ 49 → o ≠ 51 → M' o i = M o i := by
  intro lo
  induction lo with
  | zero =>
    intro M hlo X C P h
    rw [L_Turns_find_6, if_pos (by decide)]
    exact ⟨M, rfl, h, fun _ _ _ _ => rfl⟩
  | succ lo ih =>
    intro M hlo X C P h
    have hn := nan_le (lo + 1) x
    have i1 : (0 : Int) ≤ ((lo + 1 : Nat) : Int) ∧ ((lo + 1 : Nat) : Int) < 1024 := by omega
    rw [L_Turns_find_6, if_neg (by rw [le32_iff] <;> omega), jxor_m1 (by omega), jand_not (by omega) (by omega), show (((lo + 1 : Nat) : Int) + (-1)) = (lo : Int) by omega]
    by_cases q : nan (lo + 1) x = 0
    · obtain ⟨M1, e1, f1⟩ := x_lawT (d := D) (s := lo + 1) (by omega) W X C P (by omega)
      have k49 : ∀ i, M1 49 i = M 49 i := fun i => f1 49 i (by decide)
      rw [if_neg (fun z => z (by rw [q]; decide)), if_neg (by rw [le32_iff] <;> omega), e1, pbI_rI]
      have go : ∀ v : Int, (nzQ v ↔ ovf G (qA G p (lo + 1)) = 0 ∧ (lo + 1 = x ∨ cNX x (fun u => nzQ (M1 49 u)) (lo + 1))) → ∃ M', xE D 156 6 [.inr 50, .inr 9, .inr 60, .inl (x : Int), .inl (lo : Int), .inr 0, .inr 0] [] (pset M1 49 (lo + 1) v) = xE D 156 50 [.inr 50, .inr 9, .inr 60, .inl (x : Int), .inl ((0 : Nat) : Int), .inl ((0 : Nat) : Int), .inr 0] [] (pset M' 48 3 0) ∧ (∀ s, 0 < s → s < 1024 → nan s x = 0 → (nzQ (M' 49 s) ↔ ovf G (qA G p s) = 0 ∧ (s = x ∨ cNX x (fun u => nzQ (M' 49 u)) s))) ∧ ∀ o i, o ≠ 49 → o ≠ 51 → M' o i = M o i := fun v hv => by
        have f2 : ∀ o i, o ≠ 49 → o ≠ 51 → pset M1 49 (lo + 1) v o i = M o i := fun o i a b => by rw [pset_ne a, f1 o i b]
        obtain ⟨M', a1, a2, a3⟩ := ih (pset M1 49 (lo + 1) v) (by omega) (XH_eq X (fun o i _ _ _ => f2 o i (by omega) (by omega))) ⟨by rw [f2 7 12 (by decide) (by decide)]; exact C.1, fun i hi => by rw [f2 15 i (by decide) (by decide)]; exact C.2.1 i hi, fun t ht => by rw [f2 16 t (by decide) (by decide)]; exact C.2.2 t ht⟩ (fun t ht => by rw [f2 58 t (by decide) (by decide)]; exact P t ht) (fun s a b c => by
          have cg : cNX x (fun u => nzQ (pset M1 49 (lo + 1) v 49 u)) s ↔ cNX x (fun u => nzQ (M 49 u)) s := cNX_cg fun u hu => by rw [pset_ne2 (by omega), k49]
          rw [cg]
          by_cases w : s = lo + 1
          · have cg2 : cNX x (fun u => nzQ (M1 49 u)) (lo + 1) ↔ cNX x (fun u => nzQ (M 49 u)) (lo + 1) := cNX_cg fun u hu => by rw [k49]
            rw [w, pset_eq, hv, cg2]
          · rw [pset_ne2 w, k49]
            exact h s (by omega) b c)
        exact ⟨M', a1, a2, fun o i a b => by rw [a3 o i a b, f2 o i a b]⟩
      by_cases l : ovf G (qA G p (lo + 1)) = 0
      · rw [if_pos l, if_neg (by decide)]
        by_cases sx : lo + 1 = x
        · rw [if_pos (by rw [sx]), if_pos i1, Int.toNat_natCast]
          exact go 1 ⟨fun _ => ⟨l, Or.inl sx⟩, fun _ => by unfold nzQ; decide⟩
        · rw [if_neg (by rw [eq32_iff] <;> omega)]
          rcases x_open (M := M1) (d := D) (s := lo + 1) (x := x) (by omega) (by omega) hx with ⟨c, c1, c2, c3, c4, c5⟩ | ⟨c1, c2⟩
          · rw [c5, pbI_rI, if_neg (by rw [eq32_iff] <;> omega), if_pos i1, Int.toNat_natCast]
            exact go 1 ⟨fun _ => ⟨l, Or.inr ⟨c, c1, c2, c3, c4⟩⟩, fun _ => by unfold nzQ; decide⟩
          · rw [c2, pbI_rI, if_pos (by decide), if_pos i1, Int.toNat_natCast]
            exact go 0 ⟨fun z => absurd (show eq32 0 0 by decide) z, fun z => z.2.elim (fun w => absurd w sx) (fun w => absurd w c1)⟩
      · rw [if_neg l, if_pos rfl, if_pos i1, Int.toNat_natCast]
        exact go 0 ⟨fun z => absurd (show eq32 0 0 by decide) z, fun z => absurd z.1 l⟩
    · rw [if_pos (by rw [eq32_iff] <;> omega)]
      refine ih M (by omega) X C P (fun s a b c => ?_)
      by_cases w : s = lo + 1
      · rw [w] at c; exact absurd c q
      · exact h s (by omega) b c
theorem x_f50n (hD : 2 ≤ D) {x : Nat} (hx : x < 1024) (y : pV) (h : ¬ (0 = x ∨ cNX x (fun u => nzQ (M 49 u)) 0)) : xE D 156 50 [.inr 50, .inr 9, .inr 60, .inl (x : Int), .inl ((0 : Nat) : Int), .inl ((0 : Nat) : Int), y] [] M = rI 0 M := by
  have x0 : 0 ≠ x := fun z => h (Or.inl z)
  rw [L_Turns_find_50, if_neg (by decide), if_neg (by rw [eq32_iff] <;> omega)]
  rcases x_open (M := M) (d := D) (s := 0) (x := x) (by omega) (by decide) hx with ⟨c, c1, c2, c3, c4, c5⟩ | ⟨c1, c2⟩
  · exact absurd (Or.inr ⟨c, c1, c2, c3, c4⟩) h
  · rw [c2, pbI_rI, if_neg (fun z => z (by decide))]
theorem x_f50y (hD : 2 ≤ D) {x : Nat} (hx : x < 1024) : ∀ (m s k : Nat) (y : pV) (M : pM), x ≤ s + m → s < 1024 → nan s x = 0 → k = popc s → M 48 3 = (k : Int) → (∀ u, 0 < u → u < 1024 → nan u x = 0 → nzQ (M 49 u) → u = x ∨ cNX x (fun u => nzQ (M 49 u)) u) → (s = x ∨ cNX x (fun u => nzQ (M 49 u)) s) → ∃ M', xE D 156 50 [.inr 50, .inr 9, .inr 60, .inl (x : Int), .inl (s : Int), .inl (k : Int), y] [] M = rI 1 M' ∧ M' 48 3 = (popc x : Nat) ∧ ∀ o i, o ≠ 48 → o ≠ 50 → M' o i = M o i := by
  have fin : ∀ (s k : Nat) (y : pV) (M : pM), s = x → k = popc s → M 48 3 = (k : Int) → ∃ M', xE D 156 50 [.inr 50, .inr 9, .inr 60, .inl (x : Int), .inl (s : Int), .inl (k : Int), y] [] M = rI 1 M' ∧ M' 48 3 = (popc x : Nat) ∧ ∀ o i, o ≠ 48 → o ≠ 50 → M' o i = M o i := fun s k y M h1 h2 h3 => by
    have hp := popc_le s
    have n : ¬ ¬ eq32 (s : Int) (x : Int) := fun z => z (by rw [h1])
    refine ⟨M, ?_, by rw [h3, h2, h1], fun _ _ _ _ => rfl⟩
    rw [L_Turns_find_50]
    by_cases z : 10 ≤ k
    · rw [if_pos (by rw [le32_iff] <;> omega), if_neg n]
    · rw [if_neg (by rw [le32_iff] <;> omega), if_pos (by rw [h1]), if_neg n]
  intro m
  induction m with
  | zero =>
    intro s k y M hm hs hn hk h48 hh h
    exact fin s k y M (by have := nan_le2 hn; omega) hk h48
  | succ m ih =>
    intro s k y M hm hs hn hk h48 hh h
    by_cases q : s = x
    · exact fin s k y M q hk h48
    · have hc : cNX x (fun u => nzQ (M 49 u)) s := h.elim (fun z => absurd z q) id
      rcases x_open (M := M) (d := D) (s := s) (x := x) (by omega) hs hx with ⟨c, c1, c2, c3, c4, c5⟩ | ⟨c1, -⟩
      · have o1 := popc_or1 c1 c3
        have o2 := popc_le (s ||| 2 ^ c)
        have o3 := or_gt c3
        have o4 := or_bit c1 hs
        have p10 := pow10 c1
        have n1 := nan_or hn c2
        have e48 : pset M 50 k (c : Int) 48 3 = (k : Int) := by rw [pset_ne (by decide)]; exact h48
        have e49 : ∀ u, pset (pset M 50 k (c : Int)) 48 3 ((k + 1 : Nat) : Int) 49 u = M 49 u := fun u => by rw [pset_ne (by decide), pset_ne (by decide)]
        have cg : ∀ s, cNX x (fun u => nzQ (pset (pset M 50 k (c : Int)) 48 3 ((k + 1 : Nat) : Int) 49 u)) s ↔ cNX x (fun u => nzQ (M 49 u)) s := fun s => cNX_cg fun u _ => by rw [e49]
        rw [L_Turns_find_50, if_neg (by rw [le32_iff] <;> omega), if_neg (by rw [eq32_iff] <;> omega), c5, pbI_rI, if_pos (by rw [eq32_iff] <;> omega), if_pos (by omega), jshl_one c (by omega), jor_nat (by omega) (by omega), Int.toNat_natCast, e48, show ((k : Int) + 1) = ((k + 1 : Nat) : Int) by omega]
        obtain ⟨M', a1, a2, a3⟩ := ih (s ||| 2 ^ c) (k + 1) (.inl (c : Int)) (pset (pset M 50 k (c : Int)) 48 3 ((k + 1 : Nat) : Int)) (by omega) o4 n1 (by omega) pset_eq (fun u u1 u2 u3 u4 => by
          rw [cg]
          rw [e49] at u4
          exact hh u u1 u2 u3 u4) (by
          rw [cg]
          exact hh _ (by omega) o4 n1 c4)
        exact ⟨M', a1, a2, fun o i h1 h2 => by rw [a3 o i h1 h2, pset_ne h1, pset_ne h2]⟩
      · exact absurd hc c1
theorem x_q41 (hD : 1 ≤ D) {K : Nat} (hK : K ≤ 10) : ∀ (m k : Nat) (M : pM), k + m = K → M 48 3 = (K : Int) → M 5 1 = (k : Int) → ∃ M', xE D 40 41 [.inr 2, .inl (k : Int)] [] M = rI (K : Int) M'
  | 0, k, M, hk, h48, h5 => by
    rw [L_X_queue_41, h48, if_pos (by rw [le32_iff] <;> omega)]
    exact ⟨M, rfl⟩
  | m + 1, k, M, hk, h48, h5 => by
    obtain ⟨M1, e1, a1, f1⟩ := x_tell (d := D) (M := M) (n := k) hD (by omega) h5 (M 50 k)
    obtain ⟨M', e⟩ := x_q41 hD hK m (k + 1) M1 (by omega) (by rw [f1 48 3 (by decide) (by decide)]; exact h48) a1
    rw [L_X_queue_41, h48, if_neg (by rw [le32_iff] <;> omega), c_numberAt_50n hD (by omega), pbI_rI, e1, pbN_rV, show ((k : Int) + 1) = ((k + 1 : Nat) : Int) by omega]
    exact ⟨M', e⟩
/-- no aim; or what is asked before the search -/
theorem x_queue (hd : 9 ≤ d) (W : WF G) (X : XG M G) (C : CL M G) {v : Int} (ee : xF d 40 [.inr 2] M = rI v M') : (M 0 14 = hT G → 0 < M 0 14 → PL M G 58 p → (ptd G p ≠ 0 ∨ ptd G (G 6) ≠ 0 → v = -5) ∧ (ptd G p = 0 → ptd G (G 6) = 0 → cto G p < 0 → v = -2) ∧ (ptd G p = 0 → ptd G (G 6) = 0 → ¬ cto G p < 0 → ∃ B : Nat → Prop, (∀ s, 0 < s → s < 1024 → nan s (mvF G p (hT G)) = 0 → (B s ↔ ovf G (qA G p s) = 0 ∧ (s = mvF G p (hT G) ∨ cNX (mvF G p (hT G)) B s))) ∧ (0 = mvF G p (hT G) ∨ cNX (mvF G p (hT G)) B 0 → v = (popc (mvF G p (hT G)) : Nat)) ∧ (¬ (0 = mvF G p (hT G) ∨ cNX (mvF G p (hT G)) B 0) → v = -2))) ∧ (¬ (M 0 14 = hT G ∧ 0 < M 0 14) → -2147483648 ≤ M 0 14 ∧ M 0 14 ≤ 2147483647 → v = -4) := by
  obtain ⟨D, rfl, hD⟩ := dsucc hd
  obtain ⟨D', rfl, hD'⟩ := dsucc (show 1 ≤ D by omega)
  have w2 := W.2.1
  have w3 := W.2.2.1
  rw [T_X_queue, T_X_hasAim, X.1.2.1] at ee
  refine ⟨fun q1 q2 P => ?_, fun q r => ?_⟩
  · have P6 := PL13 W X
    have cr := cto_range W p
    rw [if_neg (by rw [le32_iff] <;> omega), if_neg (fun z => z (by rw [q1])), pbI_rI, if_pos (by decide), c_parted_58 (by omega) W X.1 P, pbI_rI] at ee
    by_cases a1 : ptd G p = 0
    · rw [if_neg (fun z => z (by rw [a1]; decide)), c_parted_13 (by omega) W X.1 P6, pbI_rI] at ee
      by_cases a2 : ptd G (G 6) = 0
      · rw [if_pos (by rw [a2]; decide), c_carriedTo_58 (by omega) W X.1 P, pbI_rI] at ee
        refine ⟨fun z => z.elim (fun z => absurd a1 z) (fun z => absurd a2 z), fun _ _ z => ?_, fun _ _ z => ?_⟩
        · rw [if_pos (by rw [lt32_iff] <;> omega)] at ee
          exact (rI_inj ee).1.symm
        · have hx := mvF_lt W p (hT G) (Nat.le_refl _)
          have px := popc_le (mvF G p (hT G))
          rw [if_neg (by rw [lt32_iff] <;> omega), T_Turns_find, x_mv (by omega) W X.1 C P, pbI_rI] at ee
          generalize mvF G p (hT G) = x at hx px ee ⊢
          obtain ⟨N, n1, n2, n3⟩ := x_f6 (D := D') (p := p) (by omega) W hx x M (Nat.le_refl x) X.1 C P (fun s h1 h2 h3 => by have := nan_le2 h3; omega)
          rw [n1] at ee
          have k49 : ∀ u, pset N 48 3 0 49 u = N 49 u := fun u => pset_ne (by decide)
          have cg : ∀ s, cNX x (fun u => nzQ (pset N 48 3 0 49 u)) s ↔ cNX x (fun u => nzQ (N 49 u)) s := fun s => cNX_cg fun u _ => by rw [k49]
          refine ⟨fun u => nzQ (N 49 u), n2, fun h => ?_, fun h => ?_⟩
          · obtain ⟨M2, e2, a48, f2⟩ := x_f50y (D := D') (by omega) hx x 0 0 (.inr 0) (pset N 48 3 0) (by omega) (by decide) (by unfold nan; rw [Nat.zero_and, Nat.zero_xor]) (by decide) pset_eq (fun u u1 u2 u3 u4 => by
              rw [cg]
              rw [k49] at u4
              exact ((n2 u u1 u2 u3).mp u4).2) (by rw [cg]; exact h)
            obtain ⟨M3, e3⟩ := x_q41 (D := D' + 1) (by omega) px (popc x) 0 (pset M2 5 1 0) (by omega) (by rw [pset_ne (by decide)]; exact a48) pset_eq
            rw [e2, pbI_rI, if_pos (by decide), T_Numbers_start, pbN_rV, show (.inl 0 : pV) = .inl ((0 : Nat) : Int) from rfl, e3] at ee
            exact (rI_inj ee).1.symm
          · rw [x_f50n (D := D') (M := pset N 48 3 0) (by omega) hx (.inr 0) (by rw [cg]; exact h), pbI_rI, if_neg (fun z => z (by decide))] at ee
            exact (rI_inj ee).1.symm
      · have z' : ¬ eq32 ((ptd G (G 6) : Nat) : Int) 0 := (bits_ne (by omega)).mpr a2
        rw [if_neg z'] at ee
        exact ⟨fun _ => (rI_inj ee).1.symm, fun _ z => absurd z a2, fun _ z => absurd z a2⟩
    · have z' : ¬ eq32 ((ptd G p : Nat) : Int) 0 := (bits_ne (by omega)).mpr a1
      rw [if_pos z'] at ee
      exact ⟨fun _ => (rI_inj ee).1.symm, fun z => absurd z a1, fun z => absurd z a1⟩
  · by_cases z : 0 < M 0 14
    · rw [if_neg (by rw [le32_iff] <;> omega), if_pos (by rw [eq32_iff] <;> omega), pbI_rI, if_neg (fun z => z (by decide))] at ee
      exact (rI_inj ee).1.symm
    · rw [if_pos (by rw [le32_iff] <;> omega), pbI_rI, if_neg (fun z => z (by decide))] at ee
      exact (rI_inj ee).1.symm
end QUX
section QUK
variable {D d : Nat} {M M' M1 M2 N G : pM} {p : Nat → Int} {w1 : List (Nat × Nat)} {v y : Int}
theorem m_queue (hd : 9 ≤ d) (W : WF G) (hM : gM gAll M) (X : MG M G) {v : Int} (ee : xF d 259 [.inr 62] M = rI v M') : (M 60 44 = 1 → M 60 43 = hT G → PL M G 81 p → (ptd G p ≠ 0 ∨ ptd G (G 6) ≠ 0 → v = -5) ∧ (ptd G p = 0 → ptd G (G 6) = 0 → cto G p < 0 → v = -2) ∧ (ptd G p = 0 → ptd G (G 6) = 0 → ¬ cto G p < 0 → ∃ A : Nat → Prop, (∀ s, s < 1024 → nan s (mvF G p (hT G)) = 0 → (A s ↔ s = mvF G p (hT G) ∨ cNX (mvF G p (hT G)) (fun u => A u ∧ ovf G (qA G p u) = 0) s)) ∧ (A 0 → v = (popc (mvF G p (hT G)) : Nat)) ∧ (¬ A 0 → v = -2))) ∧ (M 60 44 = 0 ∨ (M 60 44 = 1 ∧ M 60 43 ≠ hT G ∧ 0 ≤ M 60 43 ∧ M 60 43 ≤ 10) → v = -4) := by
  obtain ⟨D, rfl, hD⟩ := dsucc hd
  obtain ⟨D', rfl, hD'⟩ := dsucc (show 1 ≤ D by omega)
  have hw1 := W.1
  have w2 := W.2.1
  have w3 := W.2.2.1
  have X1 := MG_thr X
  have g1 := gM_thr hM
  have k44 : pset M 60 17 0 60 44 = M 60 44 := pset_ne2 (by decide)
  have k43 : pset M 60 17 0 60 43 = M 60 43 := pset_ne2 (by decide)
  rw [T_M_queue, T_M_hasAim, X1.1.2.1, k44, k43] at ee
  refine ⟨fun q1 q2 P => ?_, fun q => ?_⟩
  · have cr := cto_range W p
    have hp : ∀ t, t < hT G → 0 ≤ p t ∧ p t < hR G := fun t ht => (P t ht).2
    have h6 : ∀ t, t < hT G → 0 ≤ G 6 t ∧ G 6 t < hR G := fun t ht => (W.2.2.2.2.2.2.2.1 t ht).2.2.2
    have P1 : PL (pset M 60 17 0) G 81 p := fun t ht => by rw [pset_ne (by decide)]; exact P t ht
    rw [q1, if_neg (by decide), if_neg (fun z => z (by rw [q2])), pbI_rI, if_pos (by decide)] at ee
    generalize pset M 60 17 0 = N0 at ee X1 g1 P1
    have F := MH_fc W X1.1
    have pc : ∀ q q' : Nat → Int, (∀ t, t < hT G → q t = q' t) → (∀ t, t < hT G → 0 ≤ q' t ∧ q' t < hR G) → bitsOf (fun s => pdF q (me G s) (hT G)) (hS G) = ptd G q' := fun q q' e r => by
      rw [ptd_same W (fun t ht => by rw [e t ht]; exact r t ht), ptd_cg e]
    rw [m_parted_81 (by omega) F, pbI_rI, pc (N0 81) p (fun t ht => (P1 t ht).1) hp] at ee
    by_cases a1 : ptd G p = 0
    · rw [if_neg (fun z => z (by rw [a1]; decide)), m_parted_66 (by omega) F, pbI_rI, pc (N0 66) (G 6) (fun t ht => (X1.1.2.2.2.2.2.1 t ht).2.2.2) h6] at ee
      by_cases a2 : ptd G (G 6) = 0
      · obtain ⟨N1, u1, u2⟩ := m_cost81 (d := D' + 1) (by omega) W X1.1 P1
        have e209 := u1
        rw [if_pos (by rw [a2]; decide), u1, pbI_rI] at ee
        refine ⟨fun z => z.elim (fun z => absurd a1 z) (fun z => absurd a2 z), fun _ _ z => ?_, fun _ _ z => ?_⟩
        · rw [if_pos z, if_neg (by decide)] at ee
          exact (rI_inj ee).1.symm
        · obtain ⟨c0, N1', e1', g1', f1', -⟩ := u_costA (d := D' + 1) (by omega) (a2 := 0) (a4 := 0) g1 (by decide) (by decide)
          obtain ⟨-, rfl⟩ := rI_inj (u1.symm.trans e1')
          have X2 : MG N1 G := MG_ag (fun o i q => u2 o i (fun z => by rw [z] at q; cases q)) X1
          obtain ⟨N2, e2, g2, f2, c30, -, c72⟩ := m_fcF (d := D' + 1) (by omega) g1' W X2.1
          have X3 : MG N2 G := MG_Fr f2 (by decide) X2
          have P3 : PL N2 G 81 p := fun t ht => by rw [f2 81 t (by rfl), u2 81 t (by decide)]; exact P1 t ht
          have hx := mvF_lt W p (hT G) (Nat.le_refl _)
          have xC : ∀ c, (mvF G p (hT G)).testBit c = true → c < nC G := fun c h => mvF_in W p (hT G) (Nat.le_refl _) h
          rw [if_neg z, if_pos (by rw [lt32_iff] <;> omega), e2, pbN_rV] at ee
          have e40 := m_mv (D := D' + 1) W X3.1 c72 P3 (hT G) 0 (by omega)
          have e40' : xE (D' + 1) 259 40 [.inr 62, .inl 0, .inl 0, .inr 0] [] N2 = xE (D' + 1) 259 68 [.inr 62, .inl (mvF G p (hT G) : Nat), .inl (mvF G p (hT G) : Nat), .inr 0] [] N2 := e40
          have lw : ∀ s, LW N2 (hS G) (hT G) (hR G) (me G) s = true ↔ ovf G (qA G p s) = 0 := LW_ovf W X3.1 c72 P3 a1 a2
          rw [e40'] at ee
          generalize mvF G p (hT G) = x at hx xC ee ⊢
          obtain ⟨A, z', M3, b1, b2, b3, b4⟩ := m_q68F (D := D' + 1) (by omega) (MH_fc W X3.1) X3.1.1 hw1 c30 (nC_le W) hx xC (x + 1) (.inr 0) N2 (by omega) g2 (fun _ _ _ _ _ _ => rfl) (fun s h1 h2 h3 => by have := nan_le2 h3; omega)
          rw [show (((x + 1 : Nat) : Int) - 1) = (x : Int) by omega] at b1
          obtain ⟨rfl, -⟩ := rI_inj (ee.symm.trans b1)
          refine ⟨A, fun s h1 h2 => (b2 s h1 h2).trans (or_congr Iff.rfl (cNX_cg fun u _ => and_congr Iff.rfl (lw u))), b3, b4⟩
      · have z' : ¬ eq32 ((ptd G (G 6) : Nat) : Int) 0 := (bits_ne (by omega)).mpr a2
        rw [if_neg z'] at ee
        exact ⟨fun _ => (rI_inj ee).1.symm, fun _ z => absurd z a2, fun _ z => absurd z a2⟩
    · have z' : ¬ eq32 ((ptd G p : Nat) : Int) 0 := (bits_ne (by omega)).mpr a1
      rw [if_pos z'] at ee
      exact ⟨fun _ => (rI_inj ee).1.symm, fun z => absurd z a1, fun z => absurd z a1⟩
  · rcases q with q | ⟨q1, q2, q3, q4⟩
    · rw [q, if_pos (by decide), pbI_rI, if_neg (fun z => z (by decide))] at ee
      exact (rI_inj ee).1.symm
    · rw [q1, if_neg (by decide), if_pos (by rw [eq32_iff] <;> omega), pbI_rI, if_neg (fun z => z (by decide))] at ee
      exact (rI_inj ee).1.symm
theorem kc_queue (R : RI0 M) (C : CI M) (A : GA M) (K : CK M) (R1 : RI0 M1) (e1 : xF 1000 40 [.inr 2] M = rI v M1) (f1 : Fr w1 M M1) (k1 : okW cm cmo w1 = true) (k2 : okW cg cgo w1 = true) (e2 : xF 1000 259 [.inr 62] M1 = rI y M2) : v = y := by
  obtain ⟨G, X, Y⟩ := C
  obtain ⟨W, -⟩ := ci_facts R X Y
  have w2 := W.2.1
  have gk : ∀ o i, cg o i = true → M1 o i = M o i := fun o i q => f1 o i (okW_no cg_o k2 q)
  have hR0 := Y.1.1
  have C := CK_G K X.1
  rcases A with ⟨a1, a2⟩ | ⟨a1, a2, a3, a4⟩
  · have a := (x_queue (p := M 58) (by decide) W X C e1).2 (fun z => absurd z.2 (by omega)) (by omega)
    have b := (m_queue (p := M1 81) (by decide) W R1.1 (MG_Fr f1 k1 Y) e2).2 (Or.inl (by rw [gk 60 44 (by decide)]; exact a2))
    rw [a, b]
  · by_cases z : M 0 14 = hT G
    · have P : PL M G 58 (M 58) := fun t ht => by
        obtain ⟨-, b2, b3⟩ := a4 t (by omega)
        exact ⟨rfl, b2, by rw [← hR0]; exact b3⟩
      have P2 : PL M1 G 81 (M 58) := fun t ht => by
        obtain ⟨b1, b2, b3⟩ := a4 t (by omega)
        exact ⟨by rw [gk 81 t (by rfl)]; exact b1.symm, b2, by rw [← hR0]; exact b3⟩
      obtain ⟨x5, x2, xB⟩ := (x_queue (p := M 58) (by decide) W X C e1).1 z a1 P
      obtain ⟨m5, m2, mA⟩ := (m_queue (p := M 58) (by decide) W R1.1 (MG_Fr f1 k1 Y) e2).1 (by rw [gk 60 44 (by decide)]; exact a2) (by rw [gk 60 43 (by decide), a3]; exact z) P2
      by_cases q : ptd G (M 58) ≠ 0 ∨ ptd G (G 6) ≠ 0
      · rw [x5 q, m5 q]
      · have q1 : ptd G (M 58) = 0 := Decidable.byContradiction fun w => q (Or.inl w)
        have q2 : ptd G (G 6) = 0 := Decidable.byContradiction fun w => q (Or.inr w)
        by_cases q3 : cto G (M 58) < 0
        · rw [x2 q1 q2 q3, m2 q1 q2 q3]
        · obtain ⟨B, hB, b1, b2⟩ := xB q1 q2 q3
          obtain ⟨A, hA, c1, c2⟩ := mA q1 q2 q3
          have t := q_meet0 (L := fun u => ovf G (qA G (M 58) u) = 0) hA hB
          rcases Classical.em (A 0) with w | w
          · rw [b1 (t.mp w), c1 w]
          · rw [b2 (fun u => w (t.mpr u)), c2 w]
    · have b43 := gm_i R.1 60 43 (lo := 0) (hi := 10) (by decide +kernel) (by decide +kernel)
      have a := (x_queue (p := M 58) (by decide) W X C e1).2 (fun u => absurd u.1 z) (by omega)
      have b := (m_queue (p := M1 81) (by decide) W R1.1 (MG_Fr f1 k1 Y) e2).2 (Or.inr ⟨by rw [gk 60 44 (by decide)]; exact a2, by rw [gk 60 43 (by decide), a3]; exact z, by rw [gk 60 43 (by decide)]; exact b43.1, by rw [gk 60 43 (by decide)]; exact b43.2⟩)
      rw [a, b]
end QUK
/-! the list of the arrangements that are lawful, and what it costs between them -/
section LST
variable {D d : Nat} {M M' N G : pM} {p : Nat → Int} {f g : Nat → Nat} {v y : Int}
end LST
/-! what it costs from one of the list to another, on both sides -/
section CST
variable {D d : Nat} {M M' N G : pM} {p : Nat → Int} {f g : Nat → Nat} {v y : Int}
def c6 (G : pM) (t a b : Nat) : Int := if cst G t a b < 0 then 1000000 else cst G t a b
end CST
/-! the fewest evenings, on one side -/
section FEW
variable {D d : Nat} {M M' M1 N G : pM} {p : Nat → Int} {v y w : Int}
end FEW
/-! the list and its costs on the other side -/
section AIF
variable {D d : Nat} {M M' M1 N G : pM} {p : Nat → Int} {f g : Nat → Nat} {v y w : Int}
end AIF
/-! the fewest evenings on the other side; evenings joined -/
section EVF
variable {D d : Nat} {M M' M1 M2 N G : pM} {p : Nat → Int} {w1 : List (Nat × Nat)} {v y w : Int}
end EVF
/-! evenings: what it answers, on both sides -/
section EVJ
variable {D d : Nat} {M M' M1 M2 N G : pM} {p : Nat → Int} {w1 : List (Nat × Nat)} {v y w : Int}
end EVJ
/-! the least strength, on one side -/
section WEK
variable {D d : Nat} {M M' M1 N G : pM} {p : Nat → Int} {v y w : Int}
end WEK
/-! the least strength, on one side: the search -/
section WEL
variable {D d : Nat} {M M' M1 N N0 G : pM} {p : Nat → Int} {v y w : Int}
end WEL
/-! the least strength, on one side: to its end; what is answered -/
section WEM
variable {D d : Nat} {M M' M1 N N0 G : pM} {p : Nat → Int} {v y w : Int}
end WEM
/-! the least strength on the other side; weakest joined -/
section WEO
variable {D d : Nat} {M M' M1 M2 N G : pM} {p : Nat → Int} {w1 : List (Nat × Nat)} {v y w : Int}
end WEO
end
