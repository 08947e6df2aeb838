section
/-! what both sides hold stays the same -/
def CI (M : pM) : Prop := ∃ G, XG M G ∧ MG M G
section CIS
variable {M M1 M2 G : pM} {w1 w2 : List (Nat × Nat)} {v y : Int}
theorem ci_Fr {w : List (Nat × Nat)} (f : Fr w M M1) (h1 : okW cx cxo w = true) (h2 : okW cm cmo w = true) (C : CI M) : CI M1 := by
  obtain ⟨G, X, Y⟩ := C
  exact ⟨G, XG_Fr f h1 X, MG_Fr f h2 Y⟩
theorem ci_facts (R : RI0 M) (X : XG M G) (Y : MG M G) : WF G ∧ (0 ≤ G 9 0 ∧ G 9 0 ≤ 20) ∧ (∀ k : Nat, (k : Int) < G 9 0 → 0 ≤ G 10 k ∧ G 10 k ≤ 9) ∧ ∀ i, i < 2 → 0 ≤ G 13 i ∧ G 13 i ≤ 1 := by
  have b33 := gm_i R.1 60 33 (lo := 0) (hi := 20) (by decide +kernel) (by decide +kernel)
  rw [Y.2.2.1.1] at b33
  refine ⟨WF_MH R.1 R.2.2.1 Y.1, b33, fun k hk => ?_, fun i hi => ?_⟩
  · rw [← (Y.2.2.1.2 k hk).1]
    exact gR0 (by rw [← (g75 k (by omega)).1]; exact R.1 75 (3 * k) (p75 (by omega)).1)
  · have := (X.2.2.2 i hi).1
    rw [← this]
    rcases (show i = 0 ∨ i = 1 by omega) with rfl | rfl
    · exact gm_i R.1 44 1 (lo := 0) (hi := 1) (by decide +kernel) (by decide +kernel)
    · exact gm_i R.1 46 1 (lo := 0) (hi := 1) (by decide +kernel) (by decide +kernel)
theorem kc_widen (R : RI0 M) (C : CI M) {a1 a2 a3 : Int} (h1 : -2147483648 ≤ a1 ∧ a1 ≤ 2147483647) (h2 : -2147483648 ≤ a2 ∧ a2 ≤ 2147483647) (h3 : -2147483648 ≤ a3 ∧ a3 ≤ 2147483647) (e1 : xF 1000 8 [.inr 2, .inl a1, .inl a2, .inl a3] M = rI v M1) (f1 : Fr w1 M M1) (k1 : okW cm cmo w1 = true) (e2 : xF 1000 204 [.inr 62, .inl a1, .inl a2, .inl a3] M1 = rI y M2) (f2 : Fr w2 M1 M2) (k2 : okW cx cxo w2 = true) : v = y ∧ CI M2 := by
  obtain ⟨G, X, Y⟩ := C
  obtain ⟨W, -⟩ := ci_facts R X Y
  obtain ⟨p1, p2⟩ := x_widen (d := 1000) (by decide) W X h1 h2 h3 e1
  obtain ⟨q1, q2⟩ := m_widen (d := 1000) (by decide) W (MG_Fr f1 k1 Y) h1 h2 h3 e2
  by_cases q : wdC G a1 a2 a3
  · exact ⟨by rw [(p1 q).1, (q1 q).1], _, XG_Fr f2 k2 (p1 q).2, (q1 q).2⟩
  · exact ⟨by rw [(p2 q).1, (q2 q).1], _, XG_Fr f2 k2 (p2 q).2, (q2 q).2⟩
theorem kc_sheet (R : RI0 M) (C : CI M) {a1 a2 a3 a4 : Int} (h1 : -2147483648 ≤ a1 ∧ a1 ≤ 2147483647) (h2 : -2147483648 ≤ a2 ∧ a2 ≤ 2147483647) (e1 : xF 1000 10 [.inr 2, .inl a1, .inl a2, .inl a3, .inl a4] M = rI v M1) (f1 : Fr w1 M M1) (k1 : okW cm cmo w1 = true) (e2 : xF 1000 206 [.inr 62, .inl a1, .inl a2, .inl a3, .inl a4] M1 = rI y M2) (f2 : Fr w2 M1 M2) (k2 : okW cx cxo w2 = true) : v = y ∧ CI M2 := by
  obtain ⟨G, X, Y⟩ := C
  obtain ⟨W, -⟩ := ci_facts R X Y
  obtain ⟨p1, p2⟩ := xg_sheet (d := 1000) (by decide) W X h1 h2 e1
  obtain ⟨q1, q2⟩ := mg_sheet (d := 1000) (by decide) W (MG_Fr f1 k1 Y) h1 h2 e2
  exact ⟨by rw [p1, q1], _, XG_Fr f2 k2 p2, q2⟩
theorem kc_breaks (R : RI0 M) (C : CI M) (R1 : RI0 M1) {a1 : Int} (h1 : -2147483648 ≤ a1 ∧ a1 ≤ 2147483647) (e1 : xF 1000 19 [.inr 2, .inl a1] M = rI v M1) (f1 : Fr w1 M M1) (k1 : okW cm cmo w1 = true) (e2 : xF 1000 226 [.inr 62, .inl a1] M1 = rI y M2) (f2 : Fr w2 M1 M2) (k2 : okW cx cxo w2 = true) : CI M2 := by
  obtain ⟨G, X, Y⟩ := C
  obtain ⟨W, -⟩ := ci_facts R X Y
  obtain ⟨p1, p2⟩ := xg_breaks (d := 1000) (by decide) W R.1 X h1 e1
  obtain ⟨q1, q2⟩ := mg_breaks (d := 1000) (by decide) W R1.1 (MG_Fr f1 k1 Y) h1 e2
  by_cases q : 0 ≤ a1 ∧ a1 < hT G
  · exact ⟨_, XG_Fr f2 k2 (p1 q), q1 q⟩
  · exact ⟨_, XG_Fr f2 k2 (p2 q).2, (q2 q).2⟩
theorem kc_carry (R : RI0 M) (C : CI M) {a1 a2 : Int} (h1 : -2147483648 ≤ a1 ∧ a1 ≤ 2147483647) (h2 : -2147483648 ≤ a2 ∧ a2 ≤ 2147483647) (e1 : xF 1000 11 [.inr 2, .inl a1, .inl a2] M = rI v M1) (f1 : Fr w1 M M1) (k1 : okW cm cmo w1 = true) (e2 : xF 1000 216 [.inr 62, .inl a1, .inl a2] M1 = rI y M2) (f2 : Fr w2 M1 M2) (k2 : okW cx cxo w2 = true) : v = y ∧ CI M2 := by
  obtain ⟨G, X, Y⟩ := C
  obtain ⟨W, hn, -⟩ := ci_facts R X Y
  obtain ⟨p0, p1, p2⟩ := xg_carry (d := 1000) (by decide) W X hn h1 h2 e1
  obtain ⟨q0, q1, q2⟩ := mg_carry (d := 1000) (by decide) W (MG_Fr f1 k1 Y) hn h1 h2 e2
  by_cases q : 0 ≤ attF G (G 6) (G 8 1) a1 a2
  · exact ⟨by rw [p0, q0], _, XG_Fr f2 k2 (p1 q), q1 q⟩
  · exact ⟨by rw [p0, q0], _, XG_Fr f2 k2 (p2 (by omega)), q2 (by omega)⟩
theorem kc_evening (R : RI0 M) (C : CI M) (e1 : xF 1000 12 [.inr 2] M = rI v M1) (f1 : Fr w1 M M1) (k1 : okW cm cmo w1 = true) (e2 : xF 1000 218 [.inr 62] M1 = rI y M2) (f2 : Fr w2 M1 M2) (k2 : okW cx cxo w2 = true) : v = y ∧ CI M2 := by
  obtain ⟨G, X, Y⟩ := C
  obtain ⟨W, -⟩ := ci_facts R X Y
  obtain ⟨p1, p2⟩ := xg_evening (d := 1000) (by decide) W X e1
  obtain ⟨q1, q2⟩ := mg_evening (d := 1000) (by decide) W (MG_Fr f1 k1 Y) e2
  by_cases q : lwf G (G 6)
  · exact ⟨by rw [(p1 q).1, (q1 q).1], _, XG_Fr f2 k2 (p1 q).2, (q1 q).2⟩
  · exact ⟨by rw [(p2 q).1, (q2 q).1], _, XG_Fr f2 k2 (p2 q).2, (q2 q).2⟩
theorem kc_undo (R : RI0 M) (C : CI M) (e1 : xF 1000 14 [.inr 2] M = rI v M1) (f1 : Fr w1 M M1) (k1 : okW cm cmo w1 = true) (e2 : xF 1000 220 [.inr 62] M1 = rI y M2) (f2 : Fr w2 M1 M2) (k2 : okW cx cxo w2 = true) : v = y ∧ CI M2 := by
  obtain ⟨G, X, Y⟩ := C
  obtain ⟨W, hn, hu, -⟩ := ci_facts R X Y
  obtain ⟨p1, p2⟩ := xg_undo (d := 1000) (by decide) W X hn hu e1
  obtain ⟨q1, q2⟩ := mg_undo (d := 1000) (by decide) (MG_Fr f1 k1 Y) hn hu e2
  by_cases q : G 9 0 = 0
  · exact ⟨by rw [(p2 q).1, (q2 q).1], _, XG_Fr f2 k2 (p2 q).2, (q2 q).2⟩
  · exact ⟨by rw [(p1 q).1, (q1 q).1], _, XG_Fr f2 k2 (p1 q).2, (q1 q).2⟩
theorem kc_judge (R : RI0 M) (C : CI M) {a1 a2 : Int} (h1 : -2147483648 ≤ a1 ∧ a1 ≤ 2147483647) (e1 : xF 1000 15 [.inr 2, .inl a1, .inl a2] M = rI v M1) (f1 : Fr w1 M M1) (k1 : okW cm cmo w1 = true) (k3 : okW cx cxo w1 = true) (e2 : xF 1000 221 [.inr 62, .inl a1, .inl a2] M1 = rI y M2) (f2 : Fr w2 M1 M2) (k2 : okW cx cxo w2 = true) : v = y ∧ CI M2 := by
  obtain ⟨G, X, Y⟩ := C
  obtain ⟨W, -⟩ := ci_facts R X Y
  have p1 := xg_judge (d := 1000) (by decide) W X h1 e1
  obtain ⟨q1, q2⟩ := mg_judge (d := 1000) (by decide) W (MG_Fr f1 k1 Y) h1 e2
  exact ⟨by rw [p1, q1], _, XG_Fr f2 k2 (XG_Fr f1 k3 X), q2⟩
theorem kc_hinge (R : RI0 M) (C : CI M) {a1 : Int} (h1 : -2147483648 ≤ a1 ∧ a1 ≤ 2147483647) (e1 : xF 1000 37 [.inr 2, .inl a1] M = rI v M1) (f1 : Fr w1 M M1) (k1 : okW cm cmo w1 = true) (e2 : xF 1000 254 [.inr 62, .inl a1] M1 = rI y M2) (f2 : Fr w2 M1 M2) (k2 : okW cx cxo w2 = true) : v = y ∧ CI M2 := by
  obtain ⟨G, X, Y⟩ := C
  obtain ⟨W, -⟩ := ci_facts R X Y
  obtain ⟨p1, p2⟩ := xg_hinge (d := 1000) (by decide) W X h1 e1
  obtain ⟨q1, q2⟩ := mg_hinge (d := 1000) (by decide) W (MG_Fr f1 k1 Y) h1 e2
  exact ⟨by rw [p1, q1], _, XG_Fr f2 k2 p2, q2⟩
theorem kc_keep (R : RI0 M) (C : CI M) {a1 : Int} (h1 : -2147483648 ≤ a1 ∧ a1 ≤ 2147483647) (e1 : xF 1000 43 [.inr 2, .inl a1] M = rI v M1) (f1 : Fr w1 M M1) (k1 : okW cm cmo w1 = true) (e2 : xF 1000 266 [.inr 62, .inl a1] M1 = rI y M2) (f2 : Fr w2 M1 M2) (k2 : okW cx cxo w2 = true) : CI M2 := by
  obtain ⟨G, X, Y⟩ := C
  obtain ⟨W, -⟩ := ci_facts R X Y
  obtain ⟨p1, p2⟩ := xg_keep (d := 1000) (by decide) W X h1.1 h1.2 e1
  obtain ⟨q1, q2⟩ := mg_keep (d := 1000) (by decide) W (MG_Fr f1 k1 Y) h1.1 h1.2 e2
  by_cases q : 0 ≤ a1 ∧ a1 ≤ 1
  · exact ⟨_, XG_Fr f2 k2 (p1 q), q1 q⟩
  · exact ⟨_, XG_Fr f2 k2 (p2 q), q2 q⟩
theorem kc_again (R : RI0 M) (C : CI M) (R1 : RI0 M1) {a1 : Int} (h1 : -2147483648 ≤ a1 ∧ a1 ≤ 2147483647) (e1 : xF 1000 44 [.inr 2, .inl a1] M = rI v M1) (f1 : Fr w1 M M1) (k1 : okW cm cmo w1 = true) (e2 : xF 1000 267 [.inr 62, .inl a1] M1 = rI y M2) (f2 : Fr w2 M1 M2) (k2 : okW cx cxo w2 = true) : v = y ∧ CI M2 := by
  obtain ⟨G, X, Y⟩ := C
  obtain ⟨W, -, -, hk⟩ := ci_facts R X Y
  obtain ⟨p1, p2⟩ := xg_again (d := 1000) (by decide) W R.1 X h1.1 h1.2 e1
  obtain ⟨q1, q2⟩ := mg_again (d := 1000) (by decide) W R1 (MG_Fr f1 k1 Y) hk h1.1 h1.2 e2
  by_cases q : agC G a1
  · exact ⟨by rw [(p1 q).1, (q1 q).1], _, XG_Fr f2 k2 (p1 q).2, (q1 q).2⟩
  · exact ⟨by rw [(p2 q).1, (q2 q).1], _, XG_Fr f2 k2 (p2 q).2, (q2 q).2⟩
/-- the texts are the same -/
def TI (M : pM) : Prop := M 1 1 = M 60 14 ∧ ∀ i, i < 80 → M 2 i = ux (M 68 i)
theorem kc_house (R : RI0 M) (C : CI M) (T : TI M) (R1 : RI0 M1) (e1 : xF 1000 2 [.inr 2] M = rI v M1) (f1 : Fr w1 M M1) (k1 : okW cm cmo w1 = true) (k3 : w1.all (fun q => decide (q.1 ≠ 0 ∧ (q.1 < 40 ∨ 47 < q.1))) = true) (k5 : wOK w1 60 14 = false) (k6 : ∀ i, wOK w1 68 i = false) (e2 : xF 1000 184 [.inr 62] M1 = rI y M2) (f2 : Fr w2 M1 M2) (k2 : okW cx cxo w2 = true) : v = y ∧ CI M2 ∧ M1 60 0 ≤ M2 60 0 := by
  obtain ⟨G, X, Y⟩ := C
  obtain ⟨W, -⟩ := ci_facts R X Y
  have b0 := gm_i R.1 1 1 (lo := 0) (hi := 80) (by decide +kernel) (by decide +kernel)
  obtain ⟨L, hL⟩ := natI b0.1
  have htx : ∀ i, i < 80 → -128 ≤ M 68 i ∧ M 68 i ≤ 127 := fun i hi => gm_r R.1 (o := 68) (lo := -128) (hi := 127) (by decide +kernel) (by decide +kernel) (show i < 80 from hi)
  obtain ⟨p0, p1, p2⟩ := xg_house (tx := fun i => M 68 i) (L := L) (d := 1000) (by decide) W R.1 X hL T.2 htx e1 (fun o i hc n1 n2 => f1 o i (by
    cases z : wOK w1 o i with
    | false => rfl
    | true =>
      obtain ⟨r, hr, h2⟩ := List.any_eq_true.mp z
      rw [Bool.and_eq_true] at h2
      have e := Nat.eq_of_beq_eq_true h2.1
      have k := of_decide_eq_true (List.all_eq_true.mp k3 r hr)
      rw [e] at k
      exfalso
      unfold cx at hc
      simp only [Bool.or_eq_true, Bool.and_eq_true, Nat.beq_eq, Nat.ble_eq] at hc
      omega))
  obtain ⟨q0, q1, q2, q3⟩ := mg_house (tx := fun i => M 68 i) (L := L) (d := 1000) (by decide) W R1.1 (MG_Fr f1 k1 Y) (by rw [f1 60 14 k5, ← T.1]; exact hL) (fun i _ => f1 68 i (k6 i)) e2
  by_cases q : hsN (fun i => M 68 i) L G
  · exact ⟨by rw [p0, q0], ⟨_, XG_Fr f2 k2 (p1 q), q1 q⟩, q3⟩
  · exact ⟨by rw [p0, q0], ⟨_, XG_Fr f2 k2 (p2 q), q2 q⟩, q3⟩
theorem kc_day (R : RI0 M) (C : CI M) (T : TI M) (e1 : xF 1000 13 [.inr 2] M = rI v M1) (f1 : Fr w1 M M1) (k1 : okW cm cmo w1 = true) (k5 : wOK w1 60 14 = false) (k6 : ∀ i, wOK w1 68 i = false) (e2 : xF 1000 219 [.inr 62] M1 = rI y M2) (f2 : Fr w2 M1 M2) (k2 : okW cx cxo w2 = true) : v = y ∧ CI M2 := by
  obtain ⟨G, X, Y⟩ := C
  obtain ⟨W, hn, -⟩ := ci_facts R X Y
  have b0 := gm_i R.1 1 1 (lo := 0) (hi := 80) (by decide +kernel) (by decide +kernel)
  obtain ⟨L, hL⟩ := natI b0.1
  have htx : ∀ i, i < 80 → -128 ≤ M 68 i ∧ M 68 i ≤ 127 := fun i hi => gm_r R.1 (o := 68) (lo := -128) (hi := 127) (by decide +kernel) (by decide +kernel) (show i < 80 from hi)
  obtain ⟨p1, p2⟩ := xg_day (tx := fun i => M 68 i) (L := L) (d := 1000) (by decide) W X hn (by omega) hL T.2 htx e1
  obtain ⟨q1, q2⟩ := mg_day (tx := fun i => M 68 i) (L := L) (d := 1000) (by decide) W (MG_Fr f1 k1 Y) hn (by omega) (by rw [f1 60 14 k5, ← T.1]; exact hL) (fun i _ => f1 68 i (k6 i)) htx e2
  by_cases q : dyF (fun i => M 68 i) L = -1
  · obtain ⟨r0, r1, r2⟩ := p2 q
    obtain ⟨s0, s1, s2⟩ := q2 q
    by_cases z : (dyRun (fun i => M 68 i) ((L + 1) / 4) 0 G).1 = (L + 1) / 4 ∧ lwf (dyRun (fun i => M 68 i) ((L + 1) / 4) 0 G).2 ((dyRun (fun i => M 68 i) ((L + 1) / 4) 0 G).2 6)
    · exact ⟨by rw [r0, s0], _, XG_Fr f2 k2 (r1 z), s1 z⟩
    · exact ⟨by rw [r0, s0], _, XG_Fr f2 k2 (r2 z), s2 z⟩
  · exact ⟨by rw [(p1 q).1, (q1 q).1], _, XG_Fr f2 k2 (p1 q).2, (q1 q).2⟩
/-! strength -/
def gStr (G : pM) (v : Int) : pM := fun o i => if o = 8 ∧ i = 2 then v else G o i
theorem kc_strength (C : CI M) (f1 : Fr [(0, 17)] M M1) (f2 : Fr [(60, 12), (60, 17)] M1 M2) (e : M1 0 17 = M2 60 12) : CI M2 := by
  obtain ⟨G, X, Y⟩ := C
  have e17 : M2 0 17 = M2 60 12 := by rw [f2 0 17 (by decide)]; exact e
  have eM : ∀ o i, ¬ (o = 0 ∧ i = 17) → ¬ (o = 60 ∧ (i = 12 ∨ i = 17)) → M2 o i = M o i := fun o i a b => by
    rw [f2 o i, f1 o i]
    · cases z : wOK [(0, 17)] o i with
      | false => rfl
      | true =>
        obtain ⟨r, hr, h2⟩ := List.any_eq_true.mp z
        rw [Bool.and_eq_true, Bool.or_eq_true] at h2
        rw [List.mem_singleton.mp hr] at h2
        rcases h2.2 with y | y
        · exact absurd ⟨(Nat.eq_of_beq_eq_true h2.1).symm, (Nat.eq_of_beq_eq_true y).symm⟩ a
        · exact absurd y (by decide)
    · cases z : wOK [(60, 12), (60, 17)] o i with
      | false => rfl
      | true =>
        obtain ⟨r, hr, h2⟩ := List.any_eq_true.mp z
        rw [Bool.and_eq_true, Bool.or_eq_true] at h2
        simp only [List.mem_cons, List.not_mem_nil, or_false] at hr
        rcases hr with rfl | rfl
        · rcases h2.2 with y | y
          · exact absurd ⟨(Nat.eq_of_beq_eq_true h2.1).symm, Or.inl (Nat.eq_of_beq_eq_true y).symm⟩ b
          · exact absurd y (by decide)
        · rcases h2.2 with y | y
          · exact absurd ⟨(Nat.eq_of_beq_eq_true h2.1).symm, Or.inr (Nat.eq_of_beq_eq_true y).symm⟩ b
          · exact absurd y (by decide)
  have g : ∀ o i, o ≠ 8 → gStr G (M2 60 12) o i = G o i := fun o i h => if_neg (fun z => h z.1)
  refine ⟨gStr G (M2 60 12), ?_, ?_⟩
  · obtain ⟨H, ⟨d1, d2, d3⟩, ⟨p1, p2⟩, k⟩ := X
    refine ⟨XH_cg (fun o i ho => g o i (by omega)) (XH_eq H (fun o i a b c => eM o i (by omega) (by omega))), ⟨?_, ?_, ?_⟩, ⟨?_, fun j hj => ?_⟩, fun i hi => ?_⟩
    · rw [eM 0 15 (by omega) (by omega)]; exact d1
    · rw [eM 0 16 (by omega) (by omega)]; exact d2
    · rw [e17]; exact (if_pos ⟨rfl, rfl⟩).symm
    · rw [eM 39 3 (by omega) (by omega)]; exact p1
    · rw [eM 40 j (by omega) (by omega), eM 41 j (by omega) (by omega), eM 42 j (by omega) (by omega)]; exact p2 j hj
    · have a : ∀ j, M2 (44 + 2 * i) j = M (44 + 2 * i) j := fun j => eM _ j (by omega) (by omega)
      have b : ∀ j, M2 (45 + 2 * i) j = M (45 + 2 * i) j := fun j => eM _ j (by omega) (by omega)
      have g16 : ∀ j, gStr G (M2 60 12) (16 + i) j = G (16 + i) j := fun j => g _ j (by omega)
      simp only [a, b, g16, g 13 i (by decide), g 14 i (by decide), g 15 i (by decide), g 18 i (by decide), g 19 i (by decide)]
      exact k i hi
  · obtain ⟨H, ⟨d1, d2, d3⟩, ⟨p1, p2⟩, k⟩ := Y
    refine ⟨MH_cg (fun o i ho => g o i (by omega)) ?_, ⟨?_, ?_, (if_pos ⟨rfl, rfl⟩).symm⟩, ⟨?_, fun j hj => ?_⟩, fun i hi => ?_⟩
    · obtain ⟨x1, x2, x3, x4, x5, x6, x7⟩ := H
      exact ⟨by rw [eM 60 0 (by omega) (by omega)]; exact x1, by rw [eM 60 3 (by omega) (by omega)]; exact x2, by rw [eM 60 8 (by omega) (by omega)]; exact x3, fun r hr => by rw [eM 61 r (by omega) (by omega)]; exact x4 r hr, fun p hp => by rw [eM 62 p (by omega) (by omega)]; exact x5 p hp, fun t ht => by rw [eM 63 t (by omega) (by omega), eM 64 t (by omega) (by omega), eM 65 t (by omega) (by omega), eM 66 t (by omega) (by omega)]; exact x6 t ht, fun s hs => by rw [eM 67 s (by omega) (by omega)]; exact x7 s hs⟩
    · rw [eM 60 10 (by omega) (by omega)]; exact d1
    · rw [eM 60 11 (by omega) (by omega)]; exact d2
    · rw [eM 60 33 (by omega) (by omega)]; exact p1
    · rw [eM 75 _ (by omega) (by omega), eM 75 _ (by omega) (by omega), eM 75 _ (by omega) (by omega)]; exact p2 j hj
    · have a : ∀ j, M2 87 j = M 87 j := fun j => eM 87 j (by omega) (by omega)
      have b : ∀ j, M2 88 j = M 88 j := fun j => eM 88 j (by omega) (by omega)
      have c : ∀ j, M2 89 j = M 89 j := fun j => eM 89 j (by omega) (by omega)
      have g16 : ∀ j, gStr G (M2 60 12) (16 + i) j = G (16 + i) j := fun j => g _ j (by omega)
      simp only [a, b, c, eM 60 52 (by omega) (by omega), g16, g 13 i (by decide), g 14 i (by decide), g 15 i (by decide), g 18 i (by decide), g 19 i (by decide)]
      exact k i hi
end CIS
/-! what the small questions are answered: room, set, door -/
section ASK
variable {D d : Nat} {M M' G : pM}
end ASK
/-! the texts and the aim stay the same on both sides -/
def cw (o i : Nat) : Bool := (Nat.beq o 1 && Nat.beq i 1) || Nat.beq o 2 || (Nat.beq o 60 && Nat.beq i 14) || Nat.beq o 68
def cwo (o : Nat) : Bool := Nat.beq o 1 || Nat.beq o 2 || Nat.beq o 60 || Nat.beq o 68
theorem cw_o (o i : Nat) (h : cw o i = true) : cwo o = true := by
  unfold cw at h
  unfold cwo
  simp only [Bool.or_eq_true, Bool.and_eq_true] at h ⊢
  rcases h with ((h | h) | h) | h
  · exact Or.inl (Or.inl (Or.inl h.1))
  · exact Or.inl (Or.inl (Or.inr h))
  · exact Or.inl (Or.inr h.1)
  · exact Or.inr h
def cl (o i : Nat) : Bool := Nat.beq o 2 || Nat.beq o 68
theorem cl_o (o i : Nat) (h : cl o i = true) : (Nat.beq o 2 || Nat.beq o 68) = true := h
/-- the aim is the same, and it is one of rooms that are there -/
def GA (M : pM) : Prop := (M 0 14 = 0 ∧ M 60 44 = 0) ∨ (0 < M 0 14 ∧ M 60 44 = 1 ∧ M 60 43 = M 0 14 ∧ ∀ t : Nat, (t : Int) < M 0 14 → M 58 t = M 81 t ∧ 0 ≤ M 58 t ∧ M 58 t < M 60 0)
def cg (o i : Nat) : Bool := (Nat.beq o 0 && Nat.beq i 14) || Nat.beq o 58 || (Nat.beq o 60 && (Nat.beq i 43 || Nat.beq i 44)) || Nat.beq o 81
def cgo (o : Nat) : Bool := Nat.beq o 0 || Nat.beq o 58 || Nat.beq o 60 || Nat.beq o 81
theorem cg_o (o i : Nat) (h : cg o i = true) : cgo o = true := by
  unfold cg at h
  unfold cgo
  simp only [Bool.or_eq_true, Bool.and_eq_true] at h ⊢
  rcases h with ((h | h) | h) | h
  · exact Or.inl (Or.inl (Or.inl h.1))
  · exact Or.inl (Or.inl (Or.inr h))
  · exact Or.inl (Or.inr h.1)
  · exact Or.inr h
section TXS
variable {M M1 M2 : pM} {w w1 w2 : List (Nat × Nat)} {v y : Int}
theorem TI_Fr (f : Fr w M M1) (h : okW cw cwo w = true) (T : TI M) : TI M1 := by
  have e : ∀ o i, cw o i = true → M1 o i = M o i := fun o i q => f o i (okW_no cw_o h q)
  exact ⟨by rw [e 1 1 rfl, e 60 14 rfl]; exact T.1, fun i hi => by rw [e 2 i rfl, e 68 i rfl]; exact T.2 i hi⟩
theorem TI_0 (T : TI M) (f1 : Fr w1 M M1) (h1 : okW cl (fun o => Nat.beq o 2 || Nat.beq o 68) w1 = true) (k1 : M1 1 1 = 0) (f2 : Fr w2 M1 M2) (h2 : okW cl (fun o => Nat.beq o 2 || Nat.beq o 68) w2 = true) (h3 : wOK w2 1 1 = false) (k2 : M2 60 14 = 0) : TI M2 := by
  have e1 : ∀ o i, cl o i = true → M1 o i = M o i := fun o i q => f1 o i (okW_no cl_o h1 q)
  have e2 : ∀ o i, cl o i = true → M2 o i = M1 o i := fun o i q => f2 o i (okW_no cl_o h2 q)
  exact ⟨by rw [f2 1 1 h3, k1, k2], fun i hi => by rw [e2 2 i rfl, e1 2 i rfl, e2 68 i rfl, e1 68 i rfl]; exact T.2 i hi⟩
theorem GA_Fr (f : Fr w M M1) (h : okW cg cgo w = true) (h0 : M 60 0 ≤ M1 60 0) (A : GA M) : GA M1 := by
  have e : ∀ o i, cg o i = true → M1 o i = M o i := fun o i q => f o i (okW_no cg_o h q)
  unfold GA at A ⊢
  rw [e 0 14 rfl, e 60 43 rfl, e 60 44 rfl]
  rcases A with A | ⟨a1, a2, a3, a4⟩
  · exact Or.inl A
  · refine Or.inr ⟨a1, a2, a3, fun t ht => ?_⟩
    obtain ⟨b1, b2, b3⟩ := a4 t ht
    rw [e 58 t rfl, e 81 t rfl]
    exact ⟨b1, b2, by omega⟩
theorem ge_of (f : Fr w M M1) (h : wOK w 60 0 = false) : M 60 0 ≤ M1 60 0 := by rw [f 60 0 h]; exact Int.le_refl _
theorem kc_sign (R : RI0 M) (T : TI M) {a1 : Int} (e1 : xF 1000 0 [.inr 2, .inl a1] M = rI v M1) (f1 : Fr w1 M M1) (k5 : wOK w1 60 14 = false) (k6 : ∀ i, wOK w1 68 i = false) (e2 : xF 1000 175 [.inr 62, .inl a1] M1 = rI y M2) (f2 : Fr w2 M1 M2) (k1 : wOK w2 1 1 = false) (k2 : ∀ i, wOK w2 2 i = false) : v = y ∧ TI M2 := by
  have b0 := gm_i R.1 1 1 (lo := 0) (hi := 80) (by decide +kernel) (by decide +kernel)
  obtain ⟨L, hL⟩ := natI b0.1
  have t1 := c_sign (d := 1000) (by decide) hL (by omega) (b := a1)
  have hL2 : M1 60 14 = (L : Int) := by rw [f1 60 14 k5, ← T.1]; exact hL
  have t2 := m_sign (d := 1000) (by decide) hL2 (by omega) (b := a1)
  rw [e1] at t1
  rw [e2] at t2
  by_cases q : L + 4 ≤ 80
  · rw [if_pos q] at t1 t2
    refine ⟨by rw [(rI_inj t1).1, (rI_inj t2).1], ?_, fun i hi => ?_⟩
    · rw [f2 1 1 k1, (rI_inj t1).2, (rI_inj t2).2, tapp_len (by decide), tapp_len (by decide)]
    · have m2 : M2 2 i = M1 2 i := f2 2 i (k2 i)
      have m68 : M1 68 i = M 68 i := f1 68 i (k6 i)
      rw [m2, (rI_inj t1).2, (rI_inj t2).2]
      unfold tapp
      by_cases z : L ≤ i ∧ i < L + 4
      · rw [if_pos ⟨rfl, z⟩, if_pos ⟨rfl, z⟩]; exact sg_ux a1 (i - L) (by omega)
      · rw [if_neg (fun y => z y.2), if_neg (fun y => absurd y.1 (by decide)), if_neg (fun y => z y.2), if_neg (fun y => absurd y.1 (by decide)), pset_ne (show 68 ≠ 60 by decide), m68]
        exact T.2 i hi
  · rw [if_neg q] at t1 t2
    refine ⟨by rw [(rI_inj t1).1, (rI_inj t2).1], ?_, fun i hi => ?_⟩
    · rw [f2 1 1 k1, (rI_inj t2).2, pset_ne2 (show 14 ≠ 17 by decide), hL2, (rI_inj t1).2, hL]
    · have m2 : M2 2 i = M1 2 i := f2 2 i (k2 i)
      have m68 : M1 68 i = M 68 i := f1 68 i (k6 i)
      rw [m2, (rI_inj t2).2, pset_ne (show 68 ≠ 60 by decide), m68, (rI_inj t1).2]
      exact T.2 i hi
theorem kc_end (R : RI0 M) (T : TI M) {a1 : Int} (h1 : -2147483648 ≤ a1 ∧ a1 ≤ 2147483647) (e1 : xF 1000 1 [.inr 2, .inl a1] M = rI v M1) (f1 : Fr w1 M M1) (k5 : wOK w1 60 14 = false) (e2 : xF 1000 176 [.inr 62, .inl a1] M1 = rI y M2) (f2 : Fr w2 M1 M2) (k1 : wOK w2 1 1 = false) (l1 : okW cl (fun o => Nat.beq o 2 || Nat.beq o 68) w1 = true) (l2 : okW cl (fun o => Nat.beq o 2 || Nat.beq o 68) w2 = true) : v = y ∧ TI M2 := by
  have b0 := gm_i R.1 1 1 (lo := 0) (hi := 80) (by decide +kernel) (by decide +kernel)
  have k60 : M1 60 14 = M 1 1 := by rw [f1 60 14 k5]; exact T.1.symm
  have g1 : ∀ o i, cl o i = true → M1 o i = M o i := fun o i q => f1 o i (okW_no cl_o l1 q)
  have g2 : ∀ o i, cl o i = true → M2 o i = M1 o i := fun o i q => f2 o i (okW_no cl_o l2 q)
  have lt : ∀ i, i < 80 → M2 2 i = ux (M2 68 i) := fun i hi => by rw [g2 2 i rfl, g1 2 i rfl, g2 68 i rfl, g1 68 i rfl]; exact T.2 i hi
  have t1 : xF (999 + 1) 1 [.inr 2, .inl a1] M = rI v M1 := e1
  have t2 : xF (999 + 1) 176 [.inr 62, .inl a1] M1 = rI y M2 := e2
  rw [T_X_end, x_cut (by decide) h1.1 (by omega) R.1] at t1
  rw [T_M_end, m_in (by decide), pbI_rI, pset_ne2 (show 14 ≠ 17 by decide), k60] at t2
  by_cases q : 0 ≤ a1 ∧ a1 ≤ M 1 1
  · rw [if_pos q, pbI_rI, if_pos (Or.inr rfl)] at t1
    have hz : ¬ (lt32 a1 0 ∨ lt32 (M 1 1) a1) := by
      rw [lt32_iff (by omega) (by omega) (by omega) (by omega), lt32_iff (by omega) (by omega) (by omega) (by omega)]
      omega
    rw [if_neg hz, if_pos (by decide)] at t2
    exact ⟨by rw [← (rI_inj t1).1, ← (rI_inj t2).1], by rw [f2 1 1 k1, ← (rI_inj t1).2, ← (rI_inj t2).2, pset_eq, pset_eq], lt⟩
  · rw [if_neg q, pbI_rI, if_pos (Or.inl rfl)] at t1
    have hz : lt32 a1 0 ∨ lt32 (M 1 1) a1 := by
      rw [lt32_iff (by omega) (by omega) (by omega) (by omega), lt32_iff (by omega) (by omega) (by omega) (by omega)]
      omega
    rw [if_pos hz, if_neg (fun z => z rfl)] at t2
    exact ⟨by rw [← (rI_inj t1).1, ← (rI_inj t2).1], by rw [f2 1 1 k1, ← (rI_inj t2).2, pset_ne2 (show 14 ≠ 17 by decide), k60, ← (rI_inj t1).2], lt⟩
theorem amA_pos {tx : Nat → Int} {L T R : Nat} (hR : R ≤ 6) (h : 0 < amA tx L T R) : L ≠ 0 ∧ amA tx L T R = (L : Int) ∧ ∀ i, i < L → 48 ≤ tx i ∧ tx i ≤ (R : Int) + 47 := by
  by_cases q : L = 0
  · have u : amA tx L T R = 0 := if_pos q
    rw [u] at h; omega
  · have u : amA tx L T R = match amS tx (min L T) R T with
      | .inl p => -1 - (p : Int)
      | .inr _ => if L ≤ T then (L : Int) else -1 - (T : Int) := if_neg q
    cases z : amS tx (min L T) R T with
    | inl p =>
      rw [z] at u
      have u : amA tx L T R = -1 - (p : Int) := u
      omega
    | inr a =>
      rw [z] at u
      have u : amA tx L T R = if L ≤ T then (L : Int) else -1 - (T : Int) := u
      by_cases q2 : L ≤ T
      · rw [if_pos q2] at u
        refine ⟨q, u, fun i hi => ?_⟩
        have := (amS_inr hR T a z).2 i (by omega)
        unfold hc at this
        rw [if_pos (by omega)] at this; exact this
      · rw [if_neg q2] at u; omega
theorem kc_aim (R : RI0 M) (C : CI M) (T : TI M) (A : GA M) (e1 : xF 1000 38 [.inr 2] M = rI v M1) (f1 : Fr [(0, 14), (1, 1), (3, 1), (3, 2), (3, 3), (58, 999)] M M1) (e2 : xF 1000 255 [.inr 62] M1 = rI y M2) (f2 : Fr [(60, 14), (60, 17), (60, 43), (60, 44), (81, 999)] M1 M2) : v = y ∧ GA M2 ∧ M1 1 1 = 0 ∧ M2 60 14 = 0 := by
  obtain ⟨G, X, Y⟩ := C
  obtain ⟨W, -⟩ := ci_facts R X Y
  have b0 := gm_i R.1 1 1 (lo := 0) (hi := 80) (by decide +kernel) (by decide +kernel)
  obtain ⟨L, hL⟩ := natI b0.1
  have htx : ∀ i, i < 80 → -128 ≤ M 68 i ∧ M 68 i ≤ 127 := fun i hi => gm_r R.1 (o := 68) (lo := -128) (hi := 127) (by decide +kernel) (by decide +kernel) (show i < 80 from hi)
  obtain ⟨N1, t1, k1, a1, -⟩ := x_aim (tx := fun i => M 68 i) (R := hR G) (T := hT G) (L := L) (M := M) (d := 1000) (by decide) W.1 W.2.1 (by omega) X.1.1 X.1.2.1 hL T.2 htx
  obtain ⟨rfl, rfl⟩ := rI_inj (e1.symm.trans t1)
  have Y0 : M1 60 0 = (hR G : Int) := by rw [f1 60 0 (by decide)]; exact Y.1.1
  obtain ⟨N2, t2, k2, a2, -⟩ := m_aim (tx := fun i => M 68 i) (R := hR G) (T := hT G) (L := L) (M := M1) (d := 1000) (by decide) W.1 W.2.1 (by omega) Y0 (by rw [f1 60 3 (by decide)]; exact Y.1.2.1) (by rw [f1 60 14 (by decide), ← T.1]; exact hL) (fun i _ => f1 68 i (wOK_no (by decide) i)) htx
  obtain ⟨rfl, rfl⟩ := rI_inj (e2.symm.trans t2)
  refine ⟨rfl, ?_, k1, k2⟩
  have c14 : M2 0 14 = M1 0 14 := f2 0 14 (by decide)
  have c58 : ∀ t, M2 58 t = M1 58 t := fun t => f2 58 t (wOK_no (by decide) t)
  have c0 : M2 60 0 = (hR G : Int) := by rw [f2 60 0 (by decide)]; exact Y0
  have d0 : M 60 0 = (hR G : Int) := Y.1.1
  unfold amX at a1
  unfold amM at a2
  by_cases q : 0 < amA (fun i => M 68 i) L (hT G) (hR G)
  · rw [if_pos q] at a1 a2
    obtain ⟨l1, l2, l3⟩ := amA_pos W.1 q
    refine Or.inr ⟨by rw [c14, a1.1]; omega, a2.2.1, by rw [a2.1, c14, a1.1], fun t ht => ?_⟩
    rw [c14, a1.1] at ht
    have l4 := l3 t (by omega)
    have l4 : 48 ≤ M 68 t ∧ M 68 t ≤ (hR G : Int) + 47 := l4
    rw [c58, a1.2 t (by omega), a2.2.2 t (by omega), c0]
    show M 68 t - 48 = M 68 t - 48 ∧ 0 ≤ M 68 t - 48 ∧ M 68 t - 48 < (hR G : Int)
    exact ⟨rfl, by omega, by omega⟩
  · rw [if_neg q] at a1 a2
    by_cases q2 : L = 0
    · rw [if_pos q2] at a1 a2
      exact Or.inl ⟨by rw [c14]; exact a1, a2⟩
    · rw [if_neg q2] at a1 a2
      have m44 : M1 60 44 = M 60 44 := f1 60 44 (by decide)
      have m43 : M1 60 43 = M 60 43 := f1 60 43 (by decide)
      have m81 : ∀ t, M1 81 t = M 81 t := fun t => f1 81 t (wOK_no (by decide) t)
      unfold GA at A ⊢
      rw [c14, a1.1, a2.1, a2.2.1, m44, m43]
      rcases A with A | ⟨b1, b2, b3, b4⟩
      · exact Or.inl A
      · refine Or.inr ⟨b1, b2, b3, fun t ht => ?_⟩
        have := b4 t ht
        rw [c58, a1.2 t, a2.2.2 t, m81, c0]
        exact ⟨this.1, this.2.1, by omega⟩
end TXS
/-! way, widest, stuck: what they answer, on both sides -/
theorem pbI_inv {x : Option pR} {f : Int → pM → Option pR} {r : pR} (h : pbI x f = some r) : ∃ v M1, x = rI v M1 ∧ f v M1 = some r := by
  unfold pbI at h
  split at h
  · exact ⟨_, _, rfl, h⟩
  · cases h
section WYS
variable {D d : Nat} {M M' G : pM} {w : Int}
end WYS
/-! what it costs to come to another arrangement, on both sides: swap, apart -/
section CTO
variable {D d : Nat} {M M' N G h : pM} {p q : Nat → Int}
theorem stp_self {w : Int} {a : Nat} (hR0 : 0 < hR h) : stp h w a a = 0 := by
  unfold stp
  have : (rch h w a 0).testBit a = true := rch_zero.mpr rfl
  rcases firstN_spec (fun n => (rch h w a n).testBit a) (hR h) 0 with ⟨-, no⟩ | ⟨j, e, -, -, -, j3⟩
  · have := no 0 (by omega) (by omega)
    simp only [*] at this
    cases this
  · rw [e]
    rcases Nat.eq_zero_or_pos j with z | z
    · rw [z]; rfl
    · have u := j3 0 (by omega) z
      simp only [*] at u
      cases u
end CTO
/-! swap: what it answers, on both sides -/
section SWP
variable {D d : Nat} {M M' N G h : pM} {p q : Nat → Int}
end SWP
/-! apart: what it answers, on both sides -/
section APT
variable {D d : Nat} {M M' N G h : pM} {p q : Nat → Int}
end APT
end
section
/-! the class's sets and clumps -/
theorem me_lt {h : pM} (W : WF h) {s : Nat} (hs : s < hS h) : me h s < 1024 := Nat.lt_of_lt_of_le (W.2.2.2.2.2.2.2.2 s hs) (pow_le_of W.2.1)
theorem pow10 {t : Nat} (ht : t < 10) : 2 ^ t < 1024 := show 2 ^ t < 2 ^ 10 from Nat.pow_lt_pow_right (by decide) ht
theorem jand_lt {a b : Nat} (ha : a < 1024) : (a &&& b) < 1024 := Nat.lt_of_le_of_lt Nat.and_le_left ha
theorem eq32_0 {a : Nat} (ha : a < 2147483648) : eq32 (a : Int) 0 ↔ a = 0 := by
  rw [eq32_iff] <;> omega
section ST
variable {h M : pM} {d : Nat}
/-- what hangs on something: one look at the sets, some looks -/
def hngI (h : pM) (amo sets seen : Nat) : Nat → Nat
  | 0 => seen
  | k + 1 => if sets.testBit k = true ∧ me h k &&& hngI h amo sets seen k ≠ 0 then hngI h amo sets seen k ||| (me h k &&& amo) else hngI h amo sets seen k
def hng (h : pM) (amo sets seen : Nat) : Nat → Nat
  | 0 => seen
  | n + 1 => hngI h amo sets (hng h amo sets seen n) (hS h)
theorem hngI_lt (W : WF h) {amo sets seen : Nat} (hs : seen < 1024) : ∀ k, k ≤ hS h → hngI h amo sets seen k < 1024
  | 0, _ => hs
  | k + 1, hk => by
    have ih := hngI_lt W (amo := amo) (sets := sets) hs k (by omega)
    unfold hngI
    split
    · exact Nat.or_lt_two_pow (n := 10) ih (jand_lt (me_lt W (by omega)))
    · exact ih
theorem hng_lt (W : WF h) {amo sets seen : Nat} (hs : seen < 1024) : ∀ n, hng h amo sets seen n < 1024
  | 0 => hs
  | n + 1 => hngI_lt W (hng_lt W hs n) _ (Nat.le_refl _)
theorem c_hangingOn (hd : 2 ≤ d) (W : WF h) (X : XH M h) {t amo sets : Nat} (ht : t < 10) (ha : amo < 2147483648) (hsets : sets < 2147483648) : xF d 96 [.inr 9, .inl (t : Int), .inl (amo : Int), .inl (sets : Int)] M = rI (hng h amo sets (2 ^ t) (hS h)) M := by
  obtain ⟨D, rfl, hD⟩ := dsucc hd
  have w3 := W.2.2.1
  have ht2 := pow10 ht
  rw [T_House_hangingOn, jshl_one t (by omega)]
  have inner : ∀ (seen : Nat) (n : Nat), seen < 1024 → ∀ k : Nat, k ≤ hS h → xE D 96 12 [.inr 9, .inl (t : Int), .inl (amo : Int), .inl (sets : Int), .inl (seen : Int), .inl (n : Int), .inl 0] [] M = xE D 96 12 [.inr 9, .inl (t : Int), .inl (amo : Int), .inl (sets : Int), .inl (hngI h amo sets seen k : Nat), .inl (n : Int), .inl (k : Int)] [] M := by
    intro seen n hs k
    induction k with
    | zero => intro _; rfl
    | succ k ih =>
      intro hk
      have hm := me_lt W (s := k) (by omega)
      have hi := hngI_lt W (amo := amo) (sets := sets) hs k (by omega)
      rw [ih (by omega), L_House_hangingOn_12, X.2.2.1, if_neg (by rw [le32_iff] <;> omega), c_has hD hsets (by omega), pbI_rI, ite01, hngI]
      cases hb : sets.testBit k with
      | false => rw [if_neg (by simp), if_neg (by simp)]; rfl
      | true =>
        simp only [if_true]
        have hk8 : (0 : Int) ≤ (k : Int) ∧ (k : Int) < 8 := by omega
        rw [if_pos hk8, if_pos hk8, Int.toNat_natCast, X.2.2.2.2.2.2 k (by omega), jand_nat (by omega) (by omega), jand_nat (by omega) ha, jor_nat (by omega) (Nat.lt_trans (jand_lt hm) (by decide))]
        by_cases q : me h k &&& hngI h amo sets seen k = 0
        · rw [if_pos ((eq32_0 (Nat.lt_trans (jand_lt hm) (by decide))).mpr q), if_neg (by simp [q])]; rfl
        · rw [if_neg (fun z => q ((eq32_0 (Nat.lt_trans (jand_lt hm) (by decide))).mp z)), if_pos ⟨trivial, q⟩]; rfl
  have outer : ∀ n : Nat, n ≤ hS h → ∀ y : pV, ∃ y' : pV, xE D 96 6 [.inr 9, .inl (t : Int), .inl (amo : Int), .inl (sets : Int), .inl (2 ^ t : Nat), .inl 0, y] [] M = xE D 96 6 [.inr 9, .inl (t : Int), .inl (amo : Int), .inl (sets : Int), .inl (hng h amo sets (2 ^ t) n : Nat), .inl (n : Int), y'] [] M := by
    intro n
    induction n with
    | zero => intro _ y; exact ⟨y, rfl⟩
    | succ n ih =>
      intro hn y
      obtain ⟨y', e⟩ := ih (by omega) y
      refine ⟨.inl (hS h : Int), ?_⟩
      rw [e, L_House_hangingOn_6, X.2.2.1, if_neg (by rw [le32_iff] <;> omega), inner _ n (hng_lt W ht2 n) (hS h) (Nat.le_refl _), L_House_hangingOn_12, X.2.2.1, if_pos (by rw [le32_iff] <;> omega)]
      rfl
  obtain ⟨y', e⟩ := outer (hS h) (Nat.le_refl _) (.inr 0)
  rw [e, L_House_hangingOn_6, X.2.2.1, if_pos (by rw [le32_iff] <;> omega)]
/-- how many clumps some things make by some sets -/
def cbL (h : pM) (amo sets : Nat) : Nat → Nat × Nat
  | 0 => (0, amo)
  | k + 1 => if (cbL h amo sets k).2.testBit k then ((cbL h amo sets k).1 + 1, nan (cbL h amo sets k).2 (hng h amo sets (2 ^ k) (hS h))) else cbL h amo sets k
theorem cbL_le {amo sets : Nat} : ∀ k, (cbL h amo sets k).1 ≤ k ∧ (cbL h amo sets k).2 ≤ amo
  | 0 => ⟨Nat.le_refl 0, Nat.le_refl _⟩
  | k + 1 => by
    have ih := cbL_le (amo := amo) (sets := sets) k
    unfold cbL
    split
    · exact ⟨Nat.succ_le_succ ih.1, Nat.le_trans (nan_le _ _) ih.2⟩
    · exact ⟨Nat.le_succ_of_le ih.1, ih.2⟩
end ST
/-! the class's clumps: hang -/
def aT (h : pM) : Nat := 2 ^ hT h - 1
def aS (h : pM) : Nat := 2 ^ hS h - 1
/-- the walk over the things: how many clumps so far, what is left; the clump that thing k begins -/
def cgA (h : pM) (k : Nat) : Nat × Nat := cbL h (aT h) (aS h) k
def cgM (h : pM) (k : Nat) : Nat := hng h (aT h) (aS h) (2 ^ k) (hS h)
def cmk (h : pM) : Nat → Nat → Nat
  | 0, _ => 0
  | k + 1, i => if (cgA h k).2.testBit k = true ∧ i = (cgA h k).1 then cgM h k else cmk h k i
def own (h : pM) : Nat → Nat → Nat
  | 0, _ => 0
  | k + 1, t => if (cgA h k).2.testBit k = true ∧ (cgM h k).testBit t = true then (cgA h k).1 else own h k t
def nC (h : pM) : Nat := (cgA h (hT h)).1
def CL (M h : pM) : Prop := M 7 12 = nC h ∧ (∀ i, i < nC h → M 15 i = cmk h (hT h) i) ∧ (∀ t, t < hT h → M 16 t = own h (hT h) t)
def agH : Nat → Nat → Bool := fun o i => o == 15 || o == 16 || (o == 7 && i == 12)
theorem aT_lt {h : pM} (W : WF h) : aT h < 1024 := by
  have := p_T W
  have := Nat.two_pow_pos (hT h)
  unfold aT; omega
theorem aS_lt {h : pM} (W : WF h) : aS h < 256 := by
  have := p_S W
  have := Nat.two_pow_pos (hS h)
  unfold aS; omega
section HG
variable {h M : pM} {d : Nat}
theorem cgM_lt (W : WF h) {k : Nat} (hk : k < 10) : cgM h k < 1024 := hng_lt W (pow10 hk) _
theorem cgA_le (k : Nat) : (cgA h k).1 ≤ k ∧ (cgA h k).2 ≤ aT h := cbL_le k
theorem cgA_succ (k : Nat) : cgA h (k + 1) = if (cgA h k).2.testBit k then ((cgA h k).1 + 1, nan (cgA h k).2 (cgM h k)) else cgA h k := rfl
theorem XH_agH {M' : pM} (a : ag agH M M') (X : XH M h) : XH M' h := XH_ag a (fun o i h1 h2 h3 => by
  unfold agH
  have e1 : (o == 15) = false := by simp; omega
  have e2 : (o == 16) = false := by simp; omega
  rw [e1, e2]
  by_cases q : o = 7
  · have h4 := h3 q
    have e3 : (i == 12) = false := by simp; omega
    rw [e3]; simp
  · have e3 : (o == 7) = false := by simpa using q
    rw [e3]; rfl) X
theorem hngI_has {amo sets seen i : Nat} (hb : seen.testBit i = true) : ∀ k, (hngI h amo sets seen k).testBit i = true
  | 0 => hb
  | k + 1 => by
    have ih := hngI_has (amo := amo) (sets := sets) hb k
    unfold hngI
    split
    · rw [Nat.testBit_or, ih]; rfl
    · exact ih
theorem hng_has {amo sets seen i : Nat} (hb : seen.testBit i = true) : ∀ n, (hng h amo sets seen n).testBit i = true
  | 0 => hb
  | n + 1 => hngI_has (hng_has hb n) _
theorem rest_k : ∀ k t, t < k → (cgA h k).2.testBit t = false
  | 0, t, ht => absurd ht (Nat.not_lt_zero t)
  | k + 1, t, ht => by
    rw [cgA_succ]
    cases hb : (cgA h k).2.testBit k with
    | false =>
      rw [if_neg (by decide)]
      rcases Nat.lt_or_ge t k with q | q
      · exact rest_k k t q
      · rw [show t = k by omega]; exact hb
    | true =>
      rw [if_pos rfl]
      show (nan (cgA h k).2 (cgM h k)).testBit t = false
      rw [nan_bit]
      rcases Nat.lt_or_ge t k with q | q
      · rw [rest_k k t q]; rfl
      · rw [show t = k by omega]
        have e : (cgM h k).testBit k = true := hng_has (by rw [Nat.testBit_two_pow_self]) _
        rw [e]; simp
/-- one clump more -/
def adM (M : pM) (mask : Nat) (v : Int) (n : Nat) : pM := fun o i => if o = 16 ∧ i < n ∧ mask.testBit i = true then v else M o i
theorem c_addClump (hd : 2 ≤ d) (W : WF h) (X : XH M h) {n mask : Nat} (hn : n < 10) (hM : M 7 12 = n) (hm : mask < 2147483648) : ∃ M', xF d 99 [.inr 9, .inl (mask : Int)] M = rV M' ∧ ag agH M M' ∧ M' 7 12 = ((n + 1 : Nat) : Int) ∧ (∀ i, M' 15 i = if i = n then (mask : Int) else M 15 i) ∧ (∀ t, t < hT h → M' 16 t = if mask.testBit t then (n : Int) else M 16 t) := by
  obtain ⟨D, rfl, hD⟩ := dsucc hd
  have w2 := W.2.1
  rw [T_House_addClump, hM, if_neg (by rw [lt32_iff] <;> omega), if_neg (by rw [le32_iff] <;> omega), if_pos (by omega), Int.toNat_natCast]
  have key : ∀ k : Nat, k ≤ hT h → xE D 99 15 [.inr 9, .inl (mask : Int), .inl 0] [] (pset M 15 n mask) = xE D 99 15 [.inr 9, .inl (mask : Int), .inl (k : Int)] [] (adM (pset M 15 n mask) mask n k) := by
    intro k
    induction k with
    | zero =>
      intro _
      have e : adM (pset M 15 n mask) mask n 0 = pset M 15 n mask := by
        funext o i
        unfold adM
        rw [if_neg (fun z => absurd z.2.1 (by omega))]
      rw [e]; rfl
    | succ k ih =>
      intro hk
      have e7 : ∀ i, adM (pset M 15 n mask) mask n k 7 i = M 7 i := fun i => by
        unfold adM
        rw [if_neg (fun z => absurd z.1 (by decide)), pset_ne (by decide)]
      rw [ih (by omega), L_House_addClump_15, e7, X.2.1, if_neg (by rw [le32_iff] <;> omega), c_has hD hm (by omega), pbI_rI, ite01]
      cases hb : mask.testBit k with
      | false =>
        have e : adM (pset M 15 n mask) mask n (k + 1) = adM (pset M 15 n mask) mask n k := by
          funext o i
          unfold adM
          by_cases q : o = 16 ∧ i < k ∧ mask.testBit i = true
          · rw [if_pos q, if_pos ⟨q.1, by omega, q.2.2⟩]
          · rw [if_neg q, if_neg (fun z => q ⟨z.1, by
              rcases Nat.lt_or_ge i k with y | y
              · exact y
              · rw [show i = k by omega, hb] at z; exact absurd z.2.2 (by decide), z.2.2⟩)]
        rw [e]; rfl
      | true =>
        have e : pset (adM (pset M 15 n mask) mask n k) 16 k n = adM (pset M 15 n mask) mask n (k + 1) := by
          funext o i
          by_cases q1 : o = 16
          · subst q1
            by_cases q2 : i = k
            · subst q2
              rw [pset_eq]; unfold adM
              rw [if_pos ⟨rfl, by omega, hb⟩]
            · rw [pset_ne2 q2]; unfold adM
              by_cases q : (16 : Nat) = 16 ∧ i < k ∧ mask.testBit i = true
              · rw [if_pos q, if_pos ⟨rfl, by omega, q.2.2⟩]
              · rw [if_neg q, if_neg (fun z => q ⟨rfl, by omega, z.2.2⟩)]
          · rw [pset_ne q1]; unfold adM
            rw [if_neg (fun z => q1 z.1), if_neg (fun z => q1 z.1)]
        simp only [if_true]
        rw [if_pos (by omega), Int.toNat_natCast, e7, hM, e]
        rfl
  have e7 : ∀ i, adM (pset M 15 n mask) mask n (hT h) 7 i = M 7 i := fun i => by
    unfold adM
    rw [if_neg (fun z => absurd z.1 (by decide)), pset_ne (by decide)]
  refine ⟨pset (adM (pset M 15 n mask) mask n (hT h)) 7 12 ((n : Int) + 1), ?_, ?_, ?_, ?_, ?_⟩
  · rw [key _ (Nat.le_refl _), L_House_addClump_15, e7, e7, X.2.1, if_pos (by rw [le32_iff] <;> omega), hM]
  · intro o i hc
    unfold agH at hc
    have h1 : o ≠ 15 := fun z => by rw [z] at hc; simp at hc
    have h2 : o ≠ 16 := fun z => by rw [z] at hc; simp at hc
    by_cases q : o = 7
    · subst q
      have h3 : i ≠ 12 := fun z => by rw [z] at hc; exact absurd hc (by decide)
      rw [pset_ne2 h3, e7]
    · rw [pset_ne q]; unfold adM
      rw [if_neg (fun z => h2 z.1), pset_ne h1]
  · rw [pset_eq]; omega
  · intro i
    rw [pset_ne (by decide)]; unfold adM
    rw [if_neg (fun z => absurd z.1 (by decide))]
    by_cases q : i = n
    · rw [if_pos q, q, pset_eq]
    · rw [if_neg q, pset_ne2 q]
  · intro t ht
    rw [pset_ne (by decide)]; unfold adM
    by_cases q : mask.testBit t = true
    · rw [if_pos ⟨rfl, ht, q⟩, if_pos q]
    · rw [if_neg (fun z => q z.2.2), if_neg q, pset_ne (by decide)]
theorem c_hang (hd : 3 ≤ d) (W : WF h) (X : XH M h) : ∃ M', xF d 98 [.inr 9] M = rV M' ∧ ag agH M M' ∧ CL M' h := by
  obtain ⟨D, rfl, hD⟩ := dsucc hd
  have w2 := W.2.1
  have hA := aT_lt W
  have hS9 := aS_lt W
  have ag0 : ag agH M (pset M 7 12 0) := ag_pset ag_rfl rfl
  rw [T_House_hang, c_allThings (by omega) W (XH_agH ag0 X), pbI_rI]
  have key : ∀ k : Nat, k ≤ hT h → ∃ (M' : pM) (y : pV), xE D 98 8 [.inr 9, .inl (aT h : Int), .inl 0, .inr 0] [] (pset M 7 12 0) = xE D 98 8 [.inr 9, .inl ((cgA h k).2 : Int), .inl (k : Int), y] [] M' ∧ ag agH M M' ∧ M' 7 12 = ((cgA h k).1 : Int) ∧ (∀ i, i < (cgA h k).1 → M' 15 i = cmk h k i) ∧ (∀ t, t < hT h → (cgA h k).2.testBit t = false → M' 16 t = own h k t) := by
    intro k
    induction k with
    | zero =>
      intro _
      refine ⟨_, .inr 0, rfl, ag0, by rw [pset_eq]; rfl, fun i hi => absurd hi (Nat.not_lt_zero i), fun t ht hb => ?_⟩
      have e : (cgA h 0).2.testBit t = true := by
        show (2 ^ hT h - 1).testBit t = true
        rw [Nat.testBit_two_pow_sub_one]
        simpa using ht
      rw [e] at hb
      cases hb
    | succ k ih =>
      intro hk
      obtain ⟨M1, y, e1, a1, c1, c2, c3⟩ := ih (by omega)
      have X1 := XH_agH a1 X
      have hl := cgA_le (h := h) k
      have hg := cgM_lt W (k := k) (by omega)
      rw [e1, L_House_hang_8, X1.2.1, if_neg (by rw [le32_iff] <;> omega), c_has (by omega) (by omega) (by omega), pbI_rI, ite01]
      cases hb : (cgA h k).2.testBit k with
      | false =>
        refine ⟨M1, y, ?_, a1, ?_, ?_, ?_⟩
        · rw [if_neg (by decide), cgA_succ, hb, if_neg (by decide)]; rfl
        · rw [cgA_succ, hb, if_neg (by decide)]; exact c1
        · rw [cgA_succ, hb, if_neg (by decide)]
          intro i hi
          rw [cmk, hb, if_neg (fun z => absurd z.1 (by decide))]
          exact c2 i hi
        · rw [cgA_succ, hb, if_neg (by decide)]
          intro t ht ht2
          rw [own, hb, if_neg (fun z => absurd z.1 (by decide))]
          exact c3 t ht ht2
      | true =>
        obtain ⟨M2, e2, a2, d1, d2, d3⟩ := c_addClump (d := D) (M := M1) hD W X1 (n := (cgA h k).1) (mask := cgM h k) (by omega) c1 (by omega)
        refine ⟨M2, .inl (cgM h k : Int), ?_, ag_trans a1 a2, ?_, ?_, ?_⟩
        · rw [if_pos rfl, c_allThings (by omega) W X1, pbI_rI, c_allSets (by omega) W X1, pbI_rI]
          have e3 := c_hangingOn (d := D) hD W X1 (t := k) (amo := aT h) (sets := aS h) (by omega) (by omega) (by omega)
          unfold aT aS at e3
          rw [e3, pbI_rI]
          have e4 : hng h (2 ^ hT h - 1) (2 ^ hS h - 1) (2 ^ k) (hS h) = cgM h k := rfl
          rw [e4, e2, pbN_rV, jxor_m1 (by omega), jand_not (by omega) (by omega), cgA_succ, hb, if_pos rfl]
          rfl
        · rw [cgA_succ, hb, if_pos rfl]; exact d1
        · rw [cgA_succ, hb, if_pos rfl]
          intro i hi
          rw [d2, cmk, hb]
          by_cases q : i = (cgA h k).1
          · rw [if_pos q, if_pos ⟨rfl, q⟩]
          · rw [if_neg q, if_neg (fun z => q z.2)]
            exact c2 i (by simp only at hi; omega)
        · rw [cgA_succ, hb, if_pos rfl]
          intro t ht ht2
          rw [d3 t ht, own, hb]
          by_cases q : (cgM h k).testBit t = true
          · rw [if_pos q, if_pos ⟨rfl, q⟩]
          · rw [if_neg q, if_neg (fun z => q z.2)]
            refine c3 t ht ?_
            rw [nan_bit] at ht2
            cases e : (cgA h k).2.testBit t with
            | false => rfl
            | true =>
              have q' : (cgM h k).testBit t = false := by simpa using q
              rw [e, q'] at ht2
              cases ht2
  obtain ⟨M1, y, e1, a1, c1, c2, c3⟩ := key _ (Nat.le_refl _)
  refine ⟨M1, ?_, a1, c1, c2, fun t ht => c3 t ht ?_⟩
  · have e2 : xE D 98 8 [.inr 9, .inl ((2 ^ hT h - 1 : Nat) : Int), .inl 0, .inr 0] [] (pset M 7 12 0) = _ := e1
    rw [e2, L_House_hang_8, (XH_agH a1 X).2.1, if_pos (by rw [le32_iff] <;> omega)]
  · exact rest_k _ t ht
end HG
/-! what is asked of the clumps that stand -/
theorem cmk_lt {h : pM} (W : WF h) (i : Nat) : ∀ k, k ≤ 10 → cmk h k i < 1024
  | 0, _ => by show 0 < 1024; decide
  | k + 1, hk => by
    unfold cmk
    split
    · exact cgM_lt W (by omega)
    · exact cmk_lt W i k (by omega)
/-- the clump i, and the clump of a thing -/
def cOf (h : pM) (i : Nat) : Nat := cmk h (hT h) i
def oOf (h : pM) (t : Nat) : Nat := own h (hT h) t
theorem cOf_lt {h : pM} (W : WF h) (i : Nat) : cOf h i < 1024 := cmk_lt W i _ W.2.1
theorem nC_le {h : pM} (W : WF h) : nC h ≤ 10 := Nat.le_trans (cgA_le _).1 W.2.1
section OC
variable {h M : pM} {d : Nat}
theorem c_clumpBulk (hd : 3 ≤ d) (W : WF h) (X : XH M h) (C : CL M h) {i : Nat} (hi : i < nC h) : xF d 101 [.inr 9, .inl (i : Int)] M = rI (blk h (cOf h i)) M := by
  obtain ⟨D, rfl, hD⟩ := dsucc hd
  have hn := nC_le W
  have hc := cOf_lt W i
  have e : M 15 i = ((cOf h i : Nat) : Int) := C.2.1 i hi
  rw [T_House_clumpBulk, c_numberAt_15n (by omega) (by omega), pbI_rI, e, c_bulkOf hD W X (by omega), pbI_rI]
/-- too many arrangements of the clumps: rooms to the power of clumps, up to 20000 -/
def pwr (r : Nat) : Nat → Nat → Nat
  | 0, a => a
  | n + 1, a => if 20000 < a then a else pwr r n (a * r)
theorem c_tooMany (hd : 1 ≤ d) (W : WF h) (X : XH M h) (C : CL M h) : xF d 92 [.inr 9] M = rI (if 20000 < pwr (hR h) (nC h) 1 then 1 else 0) M := by
  obtain ⟨D, rfl, hD⟩ := dsucc hd
  have w1 := W.1
  have hn := nC_le W
  rw [T_House_tooMany]
  have fin : ∀ a : Nat, a ≤ 120000 → (if le32 (a : Int) 20000 then some (some (Sum.inl 0), M) else (some (some (Sum.inl 1), M) : Option pR)) = rI (if 20000 < a then 1 else 0) M := fun a ha => by
    by_cases q : 20000 < a
    · rw [if_neg (by rw [le32_iff] <;> omega), if_pos q]
    · rw [if_pos (by rw [le32_iff] <;> omega), if_neg q]
  have key : ∀ m k a : Nat, k + m = nC h → a ≤ 120000 → xE D 92 4 [.inr 9, .inl (a : Int), .inl (k : Int)] [] M = rI (if 20000 < pwr (hR h) m a then 1 else 0) M := by
    intro m
    induction m with
    | zero =>
      intro k a hk ha
      rw [L_House_tooMany_4, C.1, if_pos (by rw [le32_iff] <;> omega)]
      exact fin a ha
    | succ m ih =>
      intro k a hk ha
      rw [L_House_tooMany_4, C.1, if_neg (by rw [le32_iff] <;> omega), pwr]
      by_cases q : 20000 < a
      · rw [if_pos (by rw [lt32_iff] <;> omega), if_pos q]
        exact fin a ha
      · rw [if_neg (by rw [lt32_iff] <;> omega), if_neg q, X.1]
        have h2 : a * hR h ≤ 20000 * 6 := Nat.mul_le_mul (by omega) w1
        have := ih (k + 1) (a * hR h) (by omega) (by omega)
        rw [Int.natCast_mul] at this
        exact this
  exact key _ 0 1 (by omega) (by decide)
end OC
/-! what hangs together: both sides find the same -/
section SMC
variable {sv : Nat → Nat} {ns g S b : Nat} {h M : pM}
theorem or_sub {a b : Nat} : a ||| b = b ↔ ∀ i, a.testBit i = true → b.testBit i = true := by
  constructor
  · intro e i hi
    have : (a ||| b).testBit i = b.testBit i := by rw [e]
    rw [Nat.testBit_or, hi] at this
    exact this.symm
  · intro q
    refine Nat.eq_of_testBit_eq fun i => ?_
    rw [Nat.testBit_or]
    cases e : a.testBit i with
    | false => rfl
    | true => rw [q i e]; rfl
theorem fcP_ne : ∀ n, fcP sv ns g b n ≠ b → ∃ k, k < n ∧ ¬ nan (sv k) g ||| b = b ∧ nan (sv k) g ||| fcP sv ns g b n = fcP sv ns g b n
  | 0, q => absurd rfl q
  | n + 1, q => by
    by_cases e : fcP sv ns g b n = b
    · refine ⟨n, Nat.lt_succ_self n, ?_, ?_⟩
      · intro z
        apply q
        unfold fcP
        rw [e]
        split
        · rfl
        · rw [Nat.or_comm]; exact z
      · have q' := q
        unfold fcP at q'
        rw [e] at q'
        have u : fcP sv ns g b (n + 1) = b ||| nan (sv n) g := by
          unfold fcP
          rw [e]
          split
          · rename_i z
            rw [if_pos z] at q'
            exact absurd rfl q'
          · rfl
        rw [u]
        exact or_sub.mpr fun i hi => by rw [Nat.testBit_or, hi, Bool.or_true]
    · obtain ⟨k, k1, k2, k3⟩ := fcP_ne n e
      refine ⟨k, Nat.lt_succ_of_lt k1, k2, or_sub.mpr fun i hi => ?_⟩
      have := or_sub.mp k3 i hi
      unfold fcP
      split
      · exact this
      · rw [Nat.testBit_or, this]; rfl
def abN (sv : Nat → Nat) (g S b : Nat) : Nat := cntTo (fun k => decide (nan (sv k) g ||| b = b)) S
theorem abN_lt (q : fcP sv ns g b S ≠ b) : abN sv g S b + 1 ≤ abN sv g S (fcP sv ns g b S) := by
  obtain ⟨k, k1, k2, k3⟩ := fcP_ne S q
  refine (cntTo_lt (f := fun k => decide (nan (sv k) g ||| b = b)) (g := fun k => decide (nan (sv k) g ||| fcP sv ns g b S = fcP sv ns g b S)) (fun i hi => ?_) (c := k) (decide_eq_false k2) (decide_eq_true k3) S).2 k1
  have := or_sub.mp (of_decide_eq_true hi)
  exact decide_eq_true (or_sub.mpr fun j hj => fcP_bit (this j hj) S)
theorem fcI_fixS : ∀ (n b : Nat), S ≤ n + abN sv g S b → fcP sv ns g (fcI sv ns g S n b) S = fcI sv ns g S n b
  | 0, b, q => by
    show fcP sv ns g b S = b
    apply Classical.byContradiction
    intro z
    have h1 := abN_lt z
    have h2 : abN sv g S (fcP sv ns g b S) ≤ S := cntTo_le _
    omega
  | n + 1, b, q => by
    by_cases e : fcP sv ns g b S = b
    · rw [fcI_fix e]; exact e
    · have h1 := abN_lt e
      exact fcI_fixS n _ (by omega)
theorem fcX_S (hS : S ≤ 1024) : fcX sv ns g S b = fcI sv ns g S S b := by
  have e : fcX sv ns g S b = fcI sv ns g S (S + (1024 - S)) b := by
    unfold fcX
    rw [show S + (1024 - S) = 1024 by omega]
  rw [e, fcI_add, fcI_fix (fcI_fixS S b (by omega))]
theorem hngI_P {amo sets : Nat} (E : ∀ k, k < hS h → sets.testBit k = !ns.testBit k) (A : ∀ k, k < hS h → me h k &&& amo = nan (me h k) g) : ∀ k, k ≤ hS h → hngI h amo sets b k = fcP (me h) ns g b k
  | 0, _ => rfl
  | k + 1, hk => by
    have ih := hngI_P E A k (by omega)
    unfold hngI fcP
    rw [ih, A k (by omega), E k (by omega)]
    cases ns.testBit k with
    | true => rw [if_neg (fun z => by cases z.1), if_pos (Or.inl rfl)]
    | false =>
      by_cases q : me h k &&& fcP (me h) ns g b k = 0
      · rw [if_neg (fun z => z.2 q), if_pos (Or.inr q)]
      · rw [if_pos ⟨rfl, q⟩, if_neg (fun z => z.elim (fun y => by cases y) q)]
theorem hng_I {amo sets : Nat} (E : ∀ k, k < hS h → sets.testBit k = !ns.testBit k) (A : ∀ k, k < hS h → me h k &&& amo = nan (me h k) g) : ∀ n, hng h amo sets b n = fcI (me h) ns g (hS h) n b
  | 0 => rfl
  | n + 1 => by
    show hngI h amo sets (hng h amo sets b n) (hS h) = _
    rw [hngI_P E A _ (Nat.le_refl _), hng_I E A n, fcI_add n 1]
    rfl
theorem hng_X (W : WF h) {amo sets : Nat} (E : ∀ k, k < hS h → sets.testBit k = !ns.testBit k) (A : ∀ k, k < hS h → me h k &&& amo = nan (me h k) g) : hng h amo sets b (hS h) = fcX (me h) ns g (hS h) b := by
  have := W.2.2.1
  rw [hng_I E A, fcX_S (by omega)]
theorem cb_A (W : WF h) {amo sets : Nat} (E : ∀ k, k < hS h → sets.testBit k = !ns.testBit k) (A : ∀ k, k < hS h → me h k &&& amo = nan (me h k) g) (B : ∀ t, t < hT h → amo.testBit t = !g.testBit t) : ∀ k, k ≤ hT h → (cbL h amo sets k).1 = (fcA (me h) ns g (hS h) k).1 ∧ ∀ t, t < hT h → (cbL h amo sets k).2.testBit t = !(fcA (me h) ns g (hS h) k).2.testBit t
  | 0, _ => ⟨rfl, B⟩
  | k + 1, hk => by
    obtain ⟨i1, i2⟩ := cb_A W E A B k (by omega)
    have e := i2 k (by omega)
    rw [fcA_s]
    unfold cbL
    cases q : (fcA (me h) ns g (hS h) k).2.testBit k with
    | true =>
      rw [q] at e
      rw [e, if_pos rfl, if_neg (by decide)]
      exact ⟨i1, i2⟩
    | false =>
      rw [q] at e
      rw [e, Bool.not_false, if_pos rfl, if_neg (by decide)]
      refine ⟨by rw [i1], fun t ht => ?_⟩
      show (nan (cbL h amo sets k).2 (hng h amo sets (2 ^ k) (hS h))).testBit t = !((fcA (me h) ns g (hS h) k).2 ||| fcX (me h) ns g (hS h) (2 ^ k)).testBit t
      rw [nan_bit, i2 t ht, hng_X W E A, Nat.testBit_or, Bool.not_or]
theorem hE (h : pM) : ∀ k, k < hS h → (aS h).testBit k = !(0 : Nat).testBit k := fun k hk => by
  unfold aS
  rw [Nat.testBit_two_pow_sub_one, decide_eq_true hk, Nat.zero_testBit]; rfl
theorem hA (W : WF h) : ∀ k, k < hS h → me h k &&& aT h = nan (me h k) 0 := fun k hk => by
  refine Nat.eq_of_testBit_eq fun i => ?_
  unfold aT
  rw [Nat.testBit_and, nan_bit, Nat.testBit_two_pow_sub_one, Nat.zero_testBit]
  cases e : (me h k).testBit i with
  | false => rfl
  | true => rw [decide_eq_true (bit_lt (W.2.2.2.2.2.2.2.2 k hk) e)]; rfl
theorem hB (h : pM) : ∀ t, t < hT h → (aT h).testBit t = !(0 : Nat).testBit t := fun t ht => by
  unfold aT
  rw [Nat.testBit_two_pow_sub_one, decide_eq_true ht, Nat.zero_testBit]; rfl
theorem cg_A (W : WF h) {k : Nat} (hk : k ≤ hT h) : (cgA h k).1 = (fcA (me h) 0 0 (hS h) k).1 ∧ ∀ t, t < hT h → (cgA h k).2.testBit t = !(fcA (me h) 0 0 (hS h) k).2.testBit t := cb_A W (hE h) (hA W) (hB h) k hk
theorem cg_M (W : WF h) (k : Nat) : cgM h k = fcX (me h) 0 0 (hS h) (2 ^ k) := hng_X W (hE h) (hA W)
theorem cmk_M (W : WF h) {f : Nat → Int} {i : Nat} : ∀ k, k ≤ hT h → i < (cgA h k).1 → fcM (me h) 0 0 (hS h) f k i = (cmk h k i : Int)
  | 0, _, hi => absurd hi (Nat.not_lt_zero i)
  | k + 1, hk, hi => by
    obtain ⟨a1, a2⟩ := cg_A W (k := k) (by omega)
    have e := a2 k (by omega)
    rw [fcM_s]
    unfold cmk
    rw [cgA_succ] at hi
    cases q : (fcA (me h) 0 0 (hS h) k).2.testBit k with
    | true =>
      rw [q] at e
      rw [e, if_neg (by decide)] at hi
      rw [e, if_neg (fun z => by cases z.1), if_neg (fun z => by cases z.1)]
      exact cmk_M W k (by omega) hi
    | false =>
      rw [q] at e
      rw [e, if_pos (by decide)] at hi
      rw [e, ← a1]
      by_cases z : i = (cgA h k).1
      · rw [if_pos ⟨rfl, z⟩, if_pos ⟨rfl, z⟩, cg_M W]
      · rw [if_neg (fun y => z y.2), if_neg (fun y => z y.2)]
        exact cmk_M W k (by omega) (by have : i < (cgA h k).1 + 1 := hi; omega)
theorem own_O (W : WF h) {f : Nat → Int} {o : Nat} (ho : o < hT h) : ∀ k, k ≤ hT h → (cgA h k).2.testBit o = false → fcO (me h) 0 0 (hS h) f k o = (own h k o : Int)
  | 0, _, hi => by
    have : (cgA h 0).2 = aT h := rfl
    rw [this, hB h o ho, Nat.zero_testBit] at hi; cases hi
  | k + 1, hk, hi => by
    obtain ⟨a1, a2⟩ := cg_A W (k := k) (by omega)
    have e := a2 k (by omega)
    rw [fcO_s]
    unfold own
    rw [cgA_succ] at hi
    cases q : (fcA (me h) 0 0 (hS h) k).2.testBit k with
    | true =>
      rw [q] at e
      rw [e, if_neg (by decide)] at hi
      rw [e, if_neg (fun z => by cases z.1), if_neg (fun z => by cases z.1)]
      exact own_O W ho k (by omega) hi
    | false =>
      rw [q] at e
      rw [e, if_pos (by decide)] at hi
      have hi2 : (nan (cgA h k).2 (cgM h k)).testBit o = false := hi
      rw [nan_bit] at hi2
      rw [e, ← a1, ← cg_M W]
      cases z : (cgM h k).testBit o with
      | true => rw [if_pos ⟨rfl, rfl⟩, if_pos ⟨rfl, rfl⟩]
      | false =>
        rw [if_neg (fun y => by cases y.2), if_neg (fun y => by cases y.2)]
        rw [z, Bool.not_false, Bool.and_true] at hi2
        exact own_O W ho k (by omega) hi2
theorem m_fcF {d : Nat} (hd : 2 ≤ d) (hM : gM gAll M) (W : WF h) (X : MH M h) : ∃ M', xF d 200 [.inr 62, .inl 0, .inl 0] M = rV M' ∧ gM gAll M' ∧ Fr FCw M M' ∧ M' 60 30 = (nC h : Int) ∧ (∀ i, i < nC h → M' 73 i = (cOf h i : Int)) ∧ ∀ o, o < hT h → M' 72 o = (oOf h o : Int) := by
  obtain ⟨M', e, g', f, c1, c2, c3⟩ := m_findClumps (ns := 0) (g := 0) hd hM (MH_fc W X) (by decide) (by decide)
  have u := (cg_A W (k := hT h) (Nat.le_refl _)).1
  refine ⟨M', e, g', f, by rw [c1, ← u]; rfl, fun i hi => ?_, fun o ho => ?_⟩
  · rw [c3 i, cmk_M W (hT h) (Nat.le_refl _) hi]; rfl
  · rw [c2 o ho, own_O W ho (hT h) (Nat.le_refl _) (rest_k (hT h) o ho)]; rfl
end SMC
/-! the class's clumps are those of its sets, whatever is called -/
section CKS
variable {D d L : Nat} {M M' M1 M2 G h h' : pM} {w w1 w2 : List (Nat × Nat)} {v y : Int} {tx : Nat → Int}
def CK (M : pM) : Prop := ∃ h, (M 7 10 = hT h ∧ M 7 11 = hS h ∧ ∀ s, s < hS h → M 14 s = me h s) ∧ CL M h
def cc (o i : Nat) : Bool := (Nat.beq o 7 && (Nat.beq i 10 || Nat.beq i 11 || Nat.beq i 12)) || (Nat.ble 14 o && Nat.ble o 16)
def cco (o : Nat) : Bool := Nat.beq o 7 || (Nat.ble 14 o && Nat.ble o 16)
theorem cc_o (o i : Nat) (h : cc o i = true) : cco o = true := by
  unfold cc at h
  unfold cco
  rw [Bool.or_eq_true] at h
  rcases h with h | h
  · rw [Bool.and_eq_true] at h
    rw [h.1]; rfl
  · rw [h, Bool.or_true]
theorem CK_ag (e : ∀ o i, cc o i = true → M' o i = M o i) (C : CK M) : CK M' := by
  obtain ⟨h, ⟨a1, a2, a3⟩, b1, b2, b3⟩ := C
  exact ⟨h, ⟨by rw [e 7 10 rfl]; exact a1, by rw [e 7 11 rfl]; exact a2, fun s hs => by rw [e 14 s rfl]; exact a3 s hs⟩, by rw [e 7 12 rfl]; exact b1, fun i hi => by rw [e 15 i rfl]; exact b2 i hi, fun t ht => by rw [e 16 t rfl]; exact b3 t ht⟩
theorem CK_Fr (f : Fr w M M') (k : okW cc cco w = true) (C : CK M) : CK M' := CK_ag (fun o i q => f o i (okW_no cc_o k q)) C
theorem hngI_cg (e2 : hS h' = hS h) (e3 : ∀ s, s < hS h → me h' s = me h s) {amo sets seen : Nat} : ∀ k, k ≤ hS h → hngI h' amo sets seen k = hngI h amo sets seen k
  | 0, _ => rfl
  | k + 1, hk => by
    have ih := hngI_cg e2 e3 (amo := amo) (sets := sets) (seen := seen) k (by omega)
    unfold hngI
    rw [ih, e3 k (by omega)]
theorem hng_cg (e2 : hS h' = hS h) (e3 : ∀ s, s < hS h → me h' s = me h s) {amo sets seen : Nat} : ∀ n, hng h' amo sets seen n = hng h amo sets seen n
  | 0 => rfl
  | n + 1 => by
    unfold hng
    rw [hng_cg e2 e3 n, e2, hngI_cg e2 e3 _ (Nat.le_refl _)]
theorem cbL_cg (e2 : hS h' = hS h) (e3 : ∀ s, s < hS h → me h' s = me h s) {amo sets : Nat} : ∀ k, cbL h' amo sets k = cbL h amo sets k
  | 0 => rfl
  | k + 1 => by
    unfold cbL
    rw [cbL_cg e2 e3 k, e2, hng_cg e2 e3]
theorem cgA_cg (e1 : hT h' = hT h) (e2 : hS h' = hS h) (e3 : ∀ s, s < hS h → me h' s = me h s) (k : Nat) : cgA h' k = cgA h k := by
  unfold cgA aT aS
  rw [e1, e2, cbL_cg e2 e3]
theorem cgM_cg (e1 : hT h' = hT h) (e2 : hS h' = hS h) (e3 : ∀ s, s < hS h → me h' s = me h s) (k : Nat) : cgM h' k = cgM h k := by
  unfold cgM aT aS
  rw [e1, e2, hng_cg e2 e3]
theorem cmk_cg (e1 : hT h' = hT h) (e2 : hS h' = hS h) (e3 : ∀ s, s < hS h → me h' s = me h s) (i : Nat) : ∀ k, cmk h' k i = cmk h k i
  | 0 => rfl
  | k + 1 => by
    unfold cmk
    rw [cgA_cg e1 e2 e3, cgM_cg e1 e2 e3, cmk_cg e1 e2 e3 i k]
theorem own_cg (e1 : hT h' = hT h) (e2 : hS h' = hS h) (e3 : ∀ s, s < hS h → me h' s = me h s) (t : Nat) : ∀ k, own h' k t = own h k t
  | 0 => rfl
  | k + 1 => by
    unfold own
    rw [cgA_cg e1 e2 e3, cgM_cg e1 e2 e3, own_cg e1 e2 e3 t k]
theorem CL_cg (e1 : hT h' = hT h) (e2 : hS h' = hS h) (e3 : ∀ s, s < hS h → me h' s = me h s) (C : CL M h) : CL M h' := by
  obtain ⟨b1, b2, b3⟩ := C
  have u : nC h' = nC h := by unfold nC; rw [e1, cgA_cg e1 e2 e3]
  exact ⟨by rw [u]; exact b1, fun i hi => by rw [u] at hi; rw [e1, cmk_cg e1 e2 e3]; exact b2 i hi, fun t ht => by rw [e1] at ht; rw [e1, own_cg e1 e2 e3]; exact b3 t ht⟩
/-- seen from the house that the class holds -/
theorem CK_G (C : CK M) (X : XH M G) : CL M G := by
  obtain ⟨h, ⟨a1, a2, a3⟩, b⟩ := C
  obtain ⟨x1, x2, x3, x4, x5, x6, x7⟩ := X
  have e1 : hT G = hT h := by omega
  have e2 : hS G = hS h := by omega
  refine CL_cg e1 e2 (fun s hs => ?_) b
  have := a3 s hs
  have := x7 s (by omega)
  omega
theorem CK_of (X : XH M G) (C : CL M G) : CK M := ⟨G, ⟨X.2.1, X.2.2.1, X.2.2.2.2.2.2⟩, C⟩
theorem x_houseC {d : Nat} (hd : 10 ≤ d) (hM : gM gAll M) (X : XH M h) (W : BD h) (h1 : M 1 1 = (L : Int)) (ht : ∀ i, i < 80 → M 2 i = ux (tx i)) (hx : ∀ i, i < 80 → -128 ≤ tx i ∧ tx i ≤ 127) (WN : hsN tx L h → WF (hsH tx L h)) {z : Int} (e : xF d 2 [.inr 2] M = rI z M') : (hsN tx L h → CL M' (hsH tx L h)) ∧ (¬ hsN tx L h → ∀ o i, 7 ≤ o → o ≤ 16 → M' o i = M o i) := by
  obtain ⟨D, rfl, hD⟩ := dsucc hd
  have b1 := gm_i hM 1 1 (lo := 0) (hi := 80) (by decide +kernel) (by decide +kernel)
  rw [T_X_house, h1] at e
  by_cases q : L = 0
  · rw [if_neg (fun y => y (by rw [q]; rfl))] at e
    rw [← (rI_inj e).2]
    exact ⟨fun y => absurd q y.1, fun _ _ _ _ _ => rfl⟩
  · obtain ⟨M1, e1, g1, -⟩ := v_copy2 (d := D) (by omega) hM
    obtain ⟨M1', e1', y1, c1⟩ := x_become17 (d := D) (by omega) X W
    obtain rfl := rV_inj (e1.symm.trans e1')
    obtain ⟨v, M2, e2, g2, -⟩ := v_read (d := D) (by omega) g1
    obtain ⟨v', M2', e2', a2, r2⟩ := x_readH (tx := tx) (D := D) (by omega) y1 W (by rw [c1 1 1 (by omega)]; exact h1) (by omega) (fun i hi => by rw [c1 2 i (by omega)]; exact ht i hi) hx
    obtain ⟨rfl, rfl⟩ := rI_inj (e2.symm.trans e2')
    obtain ⟨e3, g3⟩ := x_cut0 (d := D) (by omega) g2
    rw [if_pos (by rw [eq32_iff] <;> omega), e1, pbN_rV, e2, pbI_rI, e3, pbI_rI] at e
    have uH : hsH tx L h = match phE L (phS tx (min L 76) 78 0 h 0).1 with
      | .inl _ => h
      | .inr _ => (phS tx (min L 76) 78 0 h 0).2.1 := if_neg q
    have hn := phS_n tx (min L 76) 78 0 h 0
    unfold rdA at r2
    cases hp : phE L (phS tx (min L 76) 78 0 h 0).1 with
    | inl p =>
      rw [hp] at r2 uH
      obtain ⟨r2, p80⟩ : v = -1 - (p : Int) ∧ p ≤ 80 := r2
      have hp80 : lt32 v 0 := by rw [lt32_iff] <;> omega
      rw [if_pos hp80] at e
      rw [← (rI_inj e).2]
      refine ⟨fun y => ?_, fun _ o i o1 o2 => ?_⟩
      · obtain ⟨-, b, hb⟩ := y
        rw [hp] at hb; cases hb
      · rw [pset_ne (by omega), a2 o i (by omega) (by omega), pset_ne (by omega), pset_ne (by omega), pset_ne (by omega), c1 o i (by omega)]
    | inr b =>
      have hN : hsN tx L h := ⟨q, b, hp⟩
      have WW := WN hN
      rw [hp] at r2 uH
      obtain ⟨r3, r4⟩ := r2
      have hp2 : ∃ c, (phS tx (min L 76) 78 0 h 0).1 = .inr c := by
        cases k : (phS tx (min L 76) 78 0 h 0).1 with
        | inl p => rw [k] at hp; cases hp
        | inr c => exact ⟨c, rfl⟩
      obtain ⟨c, hp3⟩ := hp2
      have W3 := BD_phS 78 0 h 0 c W hp3
      obtain ⟨M4, e4, g4, f4⟩ := v_become (d := D) (by omega) g3
      have y3 : YH (pset M2 1 1 0) (phS tx (min L 76) 78 0 h 0).2.1 := by
        obtain ⟨y1, y2, y3, y4, y5, y6, y7⟩ := r4
        exact ⟨by rw [pset_ne (by decide)]; exact y1, by rw [pset_ne (by decide)]; exact y2, by rw [pset_ne (by decide)]; exact y3, fun r hr => by rw [pset_ne (by decide)]; exact y4 r hr, fun p hp => by rw [pset_ne (by decide)]; exact y5 p hp, fun t ht => by rw [pset_ne (by decide), pset_ne (by decide), pset_ne (by decide), pset_ne (by decide)]; exact y6 t ht, fun s hs => by rw [pset_ne (by decide)]; exact y7 s hs⟩
      obtain ⟨M4', e4', X4⟩ := x_become7 (d := D) (by omega) y3 W3.1 W3.2.1 W3.2.2
      obtain rfl := rV_inj (e4.symm.trans e4')
      have uH' : hsH tx L h = (phS tx (min L 76) 78 0 h 0).2.1 := uH
      rw [uH'] at WW
      obtain ⟨M5, e5, a5, C5⟩ := c_hang (d := D) (by omega) WW X4
      obtain ⟨D', rfl, -⟩ := dsucc (show 1 ≤ D by omega)
      rw [if_neg (by rw [lt32_iff] <;> omega), e4, pbN_rV, e5, pbN_rV, T_Past_forget, pbN_rV] at e
      rw [uH', ← (rI_inj e).2]
      refine ⟨fun _ => ?_, fun y => absurd hN y⟩
      obtain ⟨b1, b2, b3⟩ := C5
      exact ⟨by rw [pset_ne (by decide)]; exact b1, fun i hi => by rw [pset_ne (by decide)]; exact b2 i hi, fun t ht => by rw [pset_ne (by decide)]; exact b3 t ht⟩
theorem x_breaksC (hd : 4 ≤ d) (W : WF G) (hM : gM gAll M) (X : XG M G) (WN : ∀ t, t < hT G → WF (gBr G t)) {b : Int} (hb : -2147483648 ≤ b ∧ b ≤ 2147483647) {v : Int} (ee : xF d 19 [.inr 2, .inl b] M = rI v M') : (0 ≤ b ∧ b < hT G → CL M' (gBr G b.toNat) ∧ v = nC (gBr G b.toNat)) ∧ (¬ (0 ≤ b ∧ b < hT G) → M' = M) := by
  obtain ⟨D, rfl, hD⟩ := dsucc hd
  obtain ⟨D', rfl, -⟩ := dsucc (show 1 ≤ D by omega)
  have w2 := W.2.1
  rw [T_X_breaks, c_isThing7 (by omega) W X.1 (by omega) (by omega), pbI_rI, ite01pn] at ee
  by_cases q : 0 ≤ b ∧ b < hT G
  · obtain ⟨t, rfl⟩ := natI q.1
    obtain ⟨M1, e1, g1, r1, f1⟩ := x_leave (D := D') W (t := t) (by omega) (hS G) 0 M (by omega) hM X.1.2.2.1 (fun i hi => by rw [X.1.2.2.2.2.2.2 i hi, if_neg (Nat.not_lt_zero i)])
    have X1 : XG M1 (gBr G t) := XG_gBr X r1 (fun o i ho _ => f1 o i ho)
    obtain ⟨M2, e2, -, C2⟩ := c_hang (d := D' + 1) (by omega) (WN t (by omega)) X1.1
    rw [if_pos q, T_House_leaveSets, show (.inl 0 : pV) = .inl ((0 : Nat) : Int) from rfl, e1, pbN_rV, e2, pbN_rV] at ee
    refine ⟨fun _ => ?_, fun z => absurd q z⟩
    rw [← (rI_inj ee).2, Int.toNat_natCast, ← (rI_inj ee).1]
    exact ⟨C2, C2.1⟩
  · rw [if_neg q] at ee
    exact ⟨fun z => absurd z q, fun _ => (rI_inj ee).2.symm⟩
end CKS
/-! clumps, heaviest, without, breaks, ties: what they answer, on both sides -/
section CLC
variable {D d : Nat} {M M' M1 M2 G h : pM} {w1 w2 : List (Nat × Nat)} {v y : Int}
theorem WF_cg {h' : pM} (W : WF h) (e : ∀ o i, o < 8 → h' o i = h o i) : WF h' := by
  have r : hR h' = hR h := by unfold hR; rw [e 0 0 (by decide)]
  have t : hT h' = hT h := by unfold hT; rw [e 0 1 (by decide)]
  have s : hS h' = hS h := by unfold hS; rw [e 0 2 (by decide)]
  obtain ⟨a1, a2, a3, a4, a5, a6, a7, a8, a9⟩ := W
  refine ⟨by rw [r]; exact a1, by rw [t]; exact a2, by rw [s]; exact a3, fun i hi => ?_, fun p hp => ?_, fun a b ha hb => ?_, fun a b ha hb q => ?_, fun i hi => ?_, fun i hi => ?_⟩
  · rw [r] at hi; rw [e 1 i (by decide)]; exact a4 i hi
  · rw [e 2 p (by decide)]; exact a5 p hp
  · rw [e 2 _ (by decide), e 2 _ (by decide)]; exact a6 a b ha hb
  · rw [r] at q; rw [e 2 _ (by decide)]; exact a7 a b ha hb q
  · rw [t] at hi; rw [e 3 i (by decide), e 4 i (by decide), e 5 i (by decide), e 6 i (by decide), r]; exact a8 i hi
  · rw [s] at hi; rw [t]
    have := a9 i hi
    unfold me at this ⊢
    rw [e 7 i (by decide)]; exact this
theorem WF_gBr (W : WF G) (t : Nat) : WF (gBr G t) := by
  obtain ⟨a1, a2, a3, a4, a5, a6, a7, a8, a9⟩ := W
  refine ⟨a1, a2, a3, fun i hi => ?_, fun p hp => ?_, fun a b ha hb => ?_, fun a b ha hb q => ?_, fun i hi => ?_, fun i hi => ?_⟩
  · rw [gBr_ne (by decide)]; exact a4 i hi
  · rw [gBr_ne (by decide)]; exact a5 p hp
  · rw [gBr_ne (by decide), gBr_ne (by decide)]; exact a6 a b ha hb
  · rw [gBr_ne (by decide)]; exact a7 a b ha hb q
  · rw [gBr_ne (by decide), gBr_ne (by decide), gBr_ne (by decide), gBr_ne (by decide)]; exact a8 i hi
  · have hi : i < hS G := hi
    rw [gBr_me hi]
    exact Nat.lt_of_le_of_lt (nan_le _ _) (a9 i hi)
theorem kcC_house (R : RI0 M) (C : CI M) (K : CK M) (T : TI M) (R1 : RI0 M1) (R2 : RI0 M2) (e1 : xF 1000 2 [.inr 2] M = rI v M1) (f1 : Fr w1 M M1) (k1 : okW cm cmo w1 = true) (k5 : wOK w1 60 14 = false) (k6 : ∀ i, wOK w1 68 i = false) (e2 : xF 1000 184 [.inr 62] M1 = rI y M2) : CK M1 := by
  obtain ⟨G, X, Y⟩ := C
  obtain ⟨W, -⟩ := ci_facts R X Y
  have b0 := gm_i R.1 1 1 (lo := 0) (hi := 80) (by decide +kernel) (by decide +kernel)
  obtain ⟨L, hL⟩ := natI b0.1
  have htx : ∀ i, i < 80 → -128 ≤ M 68 i ∧ M 68 i ≤ 127 := fun i hi => gm_r R.1 (o := 68) (lo := -128) (hi := 127) (by decide +kernel) (by decide +kernel) (show i < 80 from hi)
  obtain ⟨q0, q1, q2, q3⟩ := mg_house (tx := fun i => M 68 i) (L := L) (d := 1000) (by decide) W R1.1 (MG_Fr f1 k1 Y) (by rw [f1 60 14 k5, ← T.1]; exact hL) (fun i _ => f1 68 i (k6 i)) e2
  have B : BD G := ⟨W.1, W.2.1, W.2.2.1⟩
  obtain ⟨a1, a2⟩ := x_houseC (tx := fun i => M 68 i) (L := L) (d := 1000) (by decide) R.1 X.1 B hL T.2 htx (fun n => WF_cg (WF_MH R2.1 R2.2.2.1 (q1 n).1) (fun o i ho => (gNew_lo ho).symm)) e1
  obtain ⟨p0, p1, -⟩ := x_house (tx := fun i => M 68 i) (L := L) (d := 1000) (by decide) R.1 X.1 B hL T.2 htx e1
  by_cases q : hsN (fun i => M 68 i) L G
  · exact CK_of p1 (a1 q)
  · refine CK_ag (fun o i c => a2 q o i ?_ ?_) K
    · unfold cc at c
      simp only [Bool.or_eq_true, Bool.and_eq_true, Nat.beq_eq, Nat.ble_eq] at c
      omega
    · unfold cc at c
      simp only [Bool.or_eq_true, Bool.and_eq_true, Nat.beq_eq, Nat.ble_eq] at c
      omega
theorem m_breaksV (hd : 3 ≤ d) (W : WF G) (hM : gM gAll M) (X : MG M G) {b : Int} (hb : 0 ≤ b ∧ b < hT G) (ee : xF d 226 [.inr 62, .inl b] M = rI v M') : v = nC (gBr G b.toNat) := by
  obtain ⟨D, rfl, hD⟩ := dsucc hd
  have w2 := W.2.1
  have w3 := W.2.2.1
  have X1 := MG_thr X
  have hM1 := gM_thr hM
  rw [T_M_breaks] at ee
  generalize pset M 60 17 0 = M1 at X1 hM1 ee
  rw [m_isThing (by omega) X1.1.2.1 (by omega) (by omega) (by omega), pbI_rI] at ee
  obtain ⟨t, rfl⟩ := natI hb.1
  obtain ⟨M2, e1, g1, r1, f1⟩ := m_leave (D := D) W (t := t) (by omega) (hS G) 0 M1 (by omega) hM1 X1.1.2.2.1 (fun i hi => by rw [X1.1.2.2.2.2.2.2 i hi, if_neg (Nat.not_lt_zero i)])
  have X2 : MG M2 (gBr G t) := MG_gBr X1 r1 (fun o i ho _ => f1 o i ho)
  obtain ⟨M3, e2, g2, f2, c2, -⟩ := m_fcF (d := D) (by omega) g1 (WF_gBr W t) X2.1
  rw [if_pos hb, if_pos (by decide), show (.inl 0 : pV) = .inl ((0 : Nat) : Int) from rfl, e1, L_M_breaks_11, f1 60 8 (by decide), X1.1.2.2.1, if_pos (by rw [le32_iff] <;> omega), e2, pbN_rV] at ee
  rw [← (rI_inj ee).1, c2, Int.toNat_natCast]
theorem kc_breaksV (R : RI0 M) (C : CI M) (K : CK M) (R1 : RI0 M1) {a1 : Int} (h1 : -2147483648 ≤ a1 ∧ a1 ≤ 2147483647) (e1 : xF 1000 19 [.inr 2, .inl a1] M = rI v M1) (f1 : Fr w1 M M1) (k1 : okW cm cmo w1 = true) (e2 : xF 1000 226 [.inr 62, .inl a1] M1 = rI y M2) : v = y ∧ CK M1 := by
  obtain ⟨G, X, Y⟩ := C
  obtain ⟨W, -⟩ := ci_facts R X Y
  obtain ⟨p1, p2⟩ := xg_breaks (d := 1000) (by decide) W R.1 X h1 e1
  obtain ⟨a, b⟩ := x_breaksC (d := 1000) (by decide) W R.1 X (fun t _ => WF_gBr W t) h1 e1
  obtain ⟨q1, q2⟩ := mg_breaks (d := 1000) (by decide) W R1.1 (MG_Fr f1 k1 Y) h1 e2
  by_cases q : 0 ≤ a1 ∧ a1 < hT G
  · exact ⟨by rw [(a q).2, m_breaksV (d := 1000) (by decide) W R1.1 (MG_Fr f1 k1 Y) q e2], CK_of (p1 q).1 (a q).1⟩
  · rw [b q]
    exact ⟨by rw [(p2 q).1, (q2 q).1], K⟩
end CLC
end
section
/-! the walk over the arrangements, without a machine: codes, digits, what fits -/
section WKA
variable {R n : Nat} {sz bk : Nat → Int} {q q' : Nat → Nat}
def pcd (R : Nat) (q : Nat → Nat) : Nat → Nat
  | 0 => 0
  | k + 1 => pcd R q k * R + q k
def wlq (bk : Nat → Int) (q : Nat → Nat) (r : Nat) (k : Nat) : Int := sumTo (fun j => if q j = r then bk j else 0) k
def fnW (R n : Nat) (sz bk : Nat → Int) (c : Nat) : Bool := allTo (fun r => decide (wlq bk (dg R n c) r n ≤ sz r)) R
theorem dg_step {c k : Nat} (hk : k < n) : c / R ^ (n - (k + 1)) = c / R ^ (n - k) * R + dg R n c k := by
  unfold dg
  have e : n - k = n - (k + 1) + 1 := by omega
  rw [show n - 1 - k = n - (k + 1) by omega, e, Nat.pow_succ, ← Nat.div_div_eq_div_mul, Nat.mul_comm]
  exact (Nat.div_add_mod _ _).symm
theorem quo_eq {a b c d R : Nat} (h : a * R + b = c * R + d) (hb : b < R) (hd : d < R) : a = c ∧ b = d := by
  have e1 : (a * R + b) / R = a := by rw [Nat.mul_comm, Nat.mul_add_div (by omega), Nat.div_eq_of_lt hb, Nat.add_zero]
  have e2 : (c * R + d) / R = c := by rw [Nat.mul_comm, Nat.mul_add_div (by omega), Nat.div_eq_of_lt hd, Nat.add_zero]
  have e3 : (a * R + b) % R = b := by rw [Nat.mul_comm, Nat.mul_add_mod, Nat.mod_eq_of_lt hb]
  have e4 : (c * R + d) % R = d := by rw [Nat.mul_comm, Nat.mul_add_mod, Nat.mod_eq_of_lt hd]
  rw [h] at e1 e3
  exact ⟨e1.symm.trans e2, e3.symm.trans e4⟩
theorem dg_of {c : Nat} (h1 : 1 ≤ R) : ∀ k, k ≤ n → (∀ j, j < k → q j < R) → c / R ^ (n - k) = pcd R q k → ∀ j, j < k → dg R n c j = q j
  | 0, _, _, _, j, hj => absurd hj (Nat.not_lt_zero j)
  | k + 1, hk, hq, e, j, hj => by
    rw [dg_step (by omega)] at e
    have e' : c / R ^ (n - k) * R + dg R n c k = pcd R q k * R + q k := e
    obtain ⟨a, b⟩ := quo_eq e' (dg_lt h1 k) (hq k (Nat.lt_succ_self k))
    rcases Nat.lt_or_ge j k with u | u
    · exact dg_of h1 k (by omega) (fun i hi => hq i (by omega)) a j u
    · rw [show j = k by omega]; exact b
theorem pcd_lt (h1 : 1 ≤ R) : ∀ k, (∀ j, j < k → q j < R) → pcd R q k + 1 ≤ R ^ k
  | 0, _ => Nat.le_refl 1
  | k + 1, hq => by
    have ih := pcd_lt h1 k (fun j hj => hq j (by omega))
    have hk := hq k (Nat.lt_succ_self k)
    have e : pcd R q (k + 1) + 1 ≤ (pcd R q k + 1) * R := by
      rw [Nat.add_mul, Nat.one_mul]
      show pcd R q k * R + q k + 1 ≤ _
      omega
    exact Nat.le_trans e (by rw [Nat.pow_succ]; exact Nat.mul_le_mul_right R ih)
theorem pcd_cg : ∀ k, (∀ j, j < k → q j = q' j) → pcd R q k = pcd R q' k
  | 0, _ => rfl
  | k + 1, e => by
    unfold pcd
    rw [pcd_cg k (fun j hj => e j (by omega)), e k (Nat.lt_succ_self k)]
theorem wlq_cg {r : Nat} : ∀ k, (∀ j, j < k → q j = q' j) → wlq bk q r k = wlq bk q' r k := fun k e => sumTo_congr fun i hi => by rw [e i hi]
theorem wlq_succ {r k : Nat} : wlq bk q r (k + 1) = wlq bk q r k + if q k = r then bk k else 0 := rfl
theorem wlq_mono {r : Nat} : ∀ m k, (∀ j, j < k + m → 0 ≤ bk j) → wlq bk q r k ≤ wlq bk q r (k + m)
  | 0, k, _ => Int.le_refl _
  | m + 1, k, hb => by
    have ih := wlq_mono (r := r) m k (fun j hj => hb j (by omega))
    have b := hb (k + m) (by omega)
    have e : wlq bk q r (k + (m + 1)) = wlq bk q r (k + m) + if q (k + m) = r then bk (k + m) else 0 := rfl
    rw [e]
    split <;> omega
theorem fnW_iff {c : Nat} : fnW R n sz bk c = true ↔ ∀ r, r < R → wlq bk (dg R n c) r n ≤ sz r := by
  unfold fnW
  rw [allTo_iff]
  exact ⟨fun h r hr => of_decide_eq_true (h r hr), fun h r hr => decide_eq_true (h r hr)⟩
theorem fnW_not {c k d : Nat} (hb : ∀ j, j < n → 0 ≤ bk j) (hk : k < n) (hd : d < R) (e : ∀ j, j < k → dg R n c j = q j) (ek : dg R n c k = d) (h : sz d < wlq bk q d k + bk k) : fnW R n sz bk c = false := by
  cases z : fnW R n sz bk c with
  | false => rfl
  | true =>
    have a := fnW_iff.mp z d hd
    have m := wlq_mono (bk := bk) (q := dg R n c) (r := d) (n - (k + 1)) (k + 1) (fun j hj => hb j (by omega))
    rw [show k + 1 + (n - (k + 1)) = n by omega, wlq_succ, if_pos ek, wlq_cg k e] at m
    omega
/-- none fits from a on, before b -/
def NF (R n : Nat) (sz bk : Nat → Int) (a b : Nat) : Prop := ∀ c, a ≤ c → c < b → fnW R n sz bk c = false
theorem NF_step {a k e r : Nat} (h1 : 1 ≤ R) (hb : ∀ j, j < n → 0 ≤ bk j) (hk : k < n) (hq : ∀ j, j < k → q j < R) (hr : r ≤ R) (no : ∀ d, e ≤ d → d < r → sz d < wlq bk q d k + bk k) (h : NF R n sz bk a ((pcd R q k * R + e) * R ^ (n - (k + 1)))) : NF R n sz bk a ((pcd R q k * R + r) * R ^ (n - (k + 1))) := by
  intro c ha hc
  rcases Nat.lt_or_ge c ((pcd R q k * R + e) * R ^ (n - (k + 1))) with u | u
  · exact h c ha u
  · have hp : 0 < R ^ (n - (k + 1)) := Nat.pow_pos h1
    have l1 : pcd R q k * R + e ≤ c / R ^ (n - (k + 1)) := (Nat.le_div_iff_mul_le hp).mpr u
    have l2 : c / R ^ (n - (k + 1)) < pcd R q k * R + r := (Nat.div_lt_iff_lt_mul hp).mpr hc
    have s := dg_step (R := R) (c := c) hk
    have dl := dg_lt (R := R) (C := n) (code := c) h1 k
    obtain ⟨d, hd⟩ : ∃ d, c / R ^ (n - (k + 1)) = pcd R q k * R + d := ⟨c / R ^ (n - (k + 1)) - pcd R q k * R, by omega⟩
    obtain ⟨x1, x2⟩ := quo_eq (s.symm.trans hd) dl (by omega)
    exact fnW_not hb hk (by omega) (dg_of h1 k (by omega) hq x1) x2 (no d (by omega) (by omega))
/-- the first code that is still to be looked at: the first k digits stand, the next one is e or more -/
def Xc (R n : Nat) (q : Nat → Nat) (k e : Nat) : Nat := (pcd R q k * R + e) * R ^ (n - (k + 1))
theorem Xc_mono {k e r : Nat} (h : e ≤ r) : Xc R n q k e ≤ Xc R n q k r := Nat.mul_le_mul_right _ (by omega)
theorem Xc_dn {k r : Nat} (hk : k + 1 < n) (e : ∀ j, j < k → q' j = q j) (ek : q' k = r) : Xc R n q' (k + 1) 0 = Xc R n q k r := by
  unfold Xc
  rw [show n - (k + 1) = (n - (k + 1 + 1)) + 1 by omega, Nat.pow_succ, show pcd R q' (k + 1) = pcd R q' k * R + q' k from rfl, pcd_cg k e, ek, Nat.add_zero, Nat.mul_assoc, Nat.mul_comm R]
theorem Xc_up {k : Nat} (hk : k + 1 < n) : Xc R n q k (q k + 1) = Xc R n q (k + 1) R := by
  unfold Xc
  rw [show n - (k + 1) = (n - (k + 1 + 1)) + 1 by omega, Nat.pow_succ, show pcd R q (k + 1) = pcd R q k * R + q k from rfl, show (pcd R q k * R + q k) * R + R = (pcd R q k * R + (q k + 1)) * R by rw [← Nat.add_assoc, Nat.add_mul (_ + _), Nat.one_mul], Nat.mul_assoc, Nat.mul_comm R]
theorem Xc_top (hn : 1 ≤ n) : Xc R n q 0 R = R ^ n := by
  unfold Xc
  show (0 * R + R) * R ^ (n - 1) = R ^ n
  have e : R ^ (n - 1 + 1) = R ^ (n - 1) * R := Nat.pow_succ _ _
  rw [show n - 1 + 1 = n by omega] at e
  rw [Nat.zero_mul, Nat.zero_add, Nat.mul_comm, e]
theorem Xc_fresh {k : Nat} (h1 : 1 ≤ R) : Xc R n q k 0 + 1 ≤ Xc R n q k R := by
  have hp : 0 < R ^ (n - (k + 1)) := Nat.pow_pos h1
  have : 1 * 1 ≤ R * R ^ (n - (k + 1)) := Nat.mul_le_mul h1 hp
  have e : (pcd R q k * R + R) * R ^ (n - (k + 1)) = pcd R q k * R * R ^ (n - (k + 1)) + R * R ^ (n - (k + 1)) := Nat.add_mul _ _ _
  show (pcd R q k * R + 0) * R ^ (n - (k + 1)) + 1 ≤ (pcd R q k * R + R) * R ^ (n - (k + 1))
  rw [e, show pcd R q k * R + 0 = pcd R q k * R from rfl]
  omega
theorem Xc_lt {k : Nat} (h1 : 1 ≤ R) (hk : k < n) (hq : ∀ j, j < k → q j < R) : Xc R n q k 0 < R ^ n := by
  have a := Xc_fresh (n := n) (q := q) (k := k) h1
  have b := pcd_lt h1 k hq
  have e : Xc R n q k R = (pcd R q k + 1) * R ^ (n - k) := by
    unfold Xc
    rw [show n - k = (n - (k + 1)) + 1 by omega, Nat.pow_succ, show pcd R q k * R + R = (pcd R q k + 1) * R by rw [Nat.add_mul, Nat.one_mul], Nat.mul_assoc, Nat.mul_comm R]
  have f : (pcd R q k + 1) * R ^ (n - k) ≤ R ^ n := by
    have := Nat.mul_le_mul_right (R ^ (n - k)) b
    rw [← Nat.pow_add, show k + (n - k) = n by omega] at this
    exact this
  omega
theorem Xc_last {k r : Nat} (hk : k + 1 = n) (e : ∀ j, j < k → q' j = q j) (ek : q' k = r) : Xc R n q k r = pcd R q' n := by
  unfold Xc
  rw [← hk, Nat.sub_self, Nat.pow_zero, Nat.mul_one, show pcd R q' (k + 1) = pcd R q' k * R + q' k from rfl, pcd_cg k e, ek]
end WKA
/-! the walk of the class: shift, next -/
section WKB
variable {R n D d : Nat} {sz bk : Nat → Int} {q q' : Nat → Nat} {M M' N : pM}
/-- what the walk goes over: rooms, parts, sizes, bulks -/
def WK (M : pM) (R n : Nat) (sz bk : Nat → Int) : Prop := M 32 6 = (R : Int) ∧ M 32 7 = (n : Int) ∧ (∀ r, r < R → M 33 r = sz r) ∧ ∀ j, j < n → M 35 j = bk j
def WB (R n : Nat) (sz bk : Nat → Int) : Prop := 1 ≤ R ∧ R ≤ 6 ∧ n ≤ 10 ∧ (∀ r, r < R → -10000 ≤ sz r ∧ sz r ≤ 10000) ∧ (∀ j, j < n → 0 ≤ bk j ∧ bk j ≤ 990) ∧ R ^ n ≤ 20000
/-- the first k parts have their rooms, part k had room e - 1, the rest none -/
def WD (M : pM) (R n : Nat) (bk : Nat → Int) (q : Nat → Nat) (k e : Nat) : Prop := (∀ j, j < k → M 36 j = (q j : Int) ∧ q j < R) ∧ (k < n → M 36 k = (e : Int) - 1 ∧ e ≤ R) ∧ (∀ j, k < j → j < n → M 36 j = -1) ∧ ∀ r, r < R → M 34 r = wlq bk q r k + (if k < n ∧ e = r + 1 then bk k else 0)
theorem wlq_range (B : WB R n sz bk) (q : Nat → Nat) (r : Nat) {k : Nat} (hk : k ≤ n) : 0 ≤ wlq bk q r k ∧ wlq bk q r k ≤ 9900 := by
  have b3 := B.2.2.1
  have := sumTo_range (f := fun j => if q j = r then bk j else 0) (lo := 0) (hi := 990) (n := k) (fun i hi => by
    have := B.2.2.2.2.1 i (by omega)
    show 0 ≤ (if q i = r then bk i else 0) ∧ (if q i = r then bk i else 0) ≤ 990
    split <;> omega)
  unfold wlq
  omega
theorem WK_ag (e : ∀ o i, o ≠ 34 → o ≠ 36 → ¬ (o = 32 ∧ (i = 8 ∨ i = 9)) → M' o i = M o i) (K : WK M R n sz bk) : WK M' R n sz bk := by
  obtain ⟨a, b, c, f⟩ := K
  exact ⟨by rw [e 32 6 (by decide) (by decide) (by omega)]; exact a, by rw [e 32 7 (by decide) (by decide) (by omega)]; exact b, fun r hr => by rw [e 33 r (by decide) (by decide) (by omega)]; exact c r hr, fun j hj => by rw [e 35 j (by decide) (by decide) (by omega)]; exact f j hj⟩
theorem x_sh28 (K : WK M R n sz bk) (B : WB R n sz bk) {k e : Nat} (hk : k < n) (x2 : Int) (ld : ∀ r, r < R → M 34 r = wlq bk q r k) : ∀ m x, x + m = R → e ≤ x → (∀ d, e ≤ d → d < x → sz d < wlq bk q d k + bk k) → (∃ r, e ≤ r ∧ r < R ∧ (∀ d, e ≤ d → d < r → sz d < wlq bk q d k + bk k) ∧ wlq bk q r k + bk k ≤ sz r ∧ xE D 165 28 [.inr 34, .inl (k : Int), .inl x2, .inl (x : Int)] [] M = rI 1 (pset (pset M 34 r (wlq bk q r k + bk k)) 36 k r)) ∨ ((∀ d, e ≤ d → d < R → sz d < wlq bk q d k + bk k) ∧ xE D 165 28 [.inr 34, .inl (k : Int), .inl x2, .inl (x : Int)] [] M = rI 0 (pset M 36 k (-1)))
  | 0, x, hx, he, no => by
    obtain ⟨b1, b2, b3, b4, b5, b6⟩ := B
    refine Or.inr ⟨fun d h1 h2 => no d h1 (by omega), ?_⟩
    rw [L_Walk_shift_28, K.1, if_pos (by rw [le32_iff] <;> omega), if_pos (by omega), Int.toNat_natCast]
  | m + 1, x, hx, he, no => by
    have wr := wlq_range B q x (k := k) (by omega)
    obtain ⟨b1, b2, b3, b4, b5, b6⟩ := B
    have s := b4 x (by omega)
    have b := b5 k hk
    have ih := x_sh28 (e := e) K ⟨b1, b2, b3, b4, b5, b6⟩ hk x2 ld m (x + 1) (by omega) (by omega)
    rw [L_Walk_shift_28, K.1, if_neg (by rw [le32_iff] <;> omega), if_pos (by omega), if_pos (by omega), if_pos (by omega), Int.toNat_natCast, Int.toNat_natCast, K.2.2.1 x (by omega), ld x (by omega), K.2.2.2 k hk]
    by_cases z : sz x < wlq bk q x k + bk k
    · rw [if_pos (by rw [lt32_iff] <;> omega), show ((x : Int) + 1) = ((x + 1 : Nat) : Int) by omega]
      exact ih (fun d h1 h2 => by
        rcases Nat.lt_or_ge d x with u | u
        · exact no d h1 u
        · rw [show d = x by omega]; exact z)
    · rw [if_neg (by rw [lt32_iff] <;> omega), if_pos (by omega), if_pos (by omega), if_pos (by omega), if_pos (by omega)]
      exact Or.inl ⟨x, he, by omega, no, by omega, rfl⟩
def qU (q : Nat → Nat) (k r : Nat) : Nat → Nat := fun j => if j = k then r else q j
theorem qU_lo {k r j : Nat} (h : j < k) : qU q k r j = q j := if_neg (by omega)
theorem qU_k {k r : Nat} : qU q k r k = r := if_pos rfl
theorem x_shift (hd : 1 ≤ d) (K : WK M R n sz bk) (B : WB R n sz bk) {k e : Nat} (hk : k < n) (W : WD M R n bk q k e) : (∃ r, e ≤ r ∧ r < R ∧ (∀ d, e ≤ d → d < r → sz d < wlq bk q d k + bk k) ∧ wlq bk q r k + bk k ≤ sz r ∧ ∃ M', xF d 165 [.inr 34, .inl (k : Int)] M = rI 1 M' ∧ WD M' R n bk (qU q k r) (k + 1) 0 ∧ ∀ o i, o ≠ 34 → o ≠ 36 → M' o i = M o i) ∨ ((∀ d, e ≤ d → d < R → sz d < wlq bk q d k + bk k) ∧ ∃ M', xF d 165 [.inr 34, .inl (k : Int)] M = rI 0 M' ∧ (1 ≤ k → WD M' R n bk q (k - 1) (q (k - 1) + 1)) ∧ ∀ o i, o ≠ 34 → o ≠ 36 → M' o i = M o i) := by
  obtain ⟨D, rfl, -⟩ := dsucc hd
  obtain ⟨b1, b2, b3, b4, b5, b6⟩ := id B
  obtain ⟨w1, w2, w3, w4⟩ := W
  obtain ⟨w2, w2'⟩ := w2 hk
  have bk' := b5 k hk
  -- the memory without part k
  have pre : ∃ M1, xF (D + 1) 165 [.inr 34, .inl (k : Int)] M = xE D 165 28 [.inr 34, .inl (k : Int), .inl ((e : Int) - 1), .inl (e : Int)] [] M1 ∧ (∀ r, r < R → M1 34 r = wlq bk q r k) ∧ ∀ o i, o ≠ 34 → M1 o i = M o i := by
    rw [T_Walk_shift, if_pos (by omega), Int.toNat_natCast, w2, show ((e : Int) - 1 + 1) = (e : Int) by omega, jmax_eq (by omega) (by omega) (by omega) (by omega)]
    by_cases z : e = 0
    · refine ⟨M, ?_, fun r hr => ?_, fun _ _ _ => rfl⟩
      · rw [if_pos (by rw [lt32_iff] <;> omega), show max (0 : Int) (e : Int) = (e : Int) by omega]
      · rw [w4 r hr, if_neg (by omega)]; omega
    · have l := w4 (e - 1) (by omega)
      rw [if_pos ⟨hk, by omega⟩] at l
      refine ⟨pset M 34 (e - 1) (wlq bk q (e - 1) k), ?_, fun r hr => ?_, fun o i h => pset_ne h⟩
      · rw [if_neg (by rw [lt32_iff] <;> omega), K.1, if_neg (by rw [le32_iff] <;> omega), if_pos (by omega), if_pos (by omega), if_pos (by omega), show ((e : Int) - 1).toNat = e - 1 by omega, l, K.2.2.2 k hk, show max (0 : Int) (e : Int) = (e : Int) by omega, show wlq bk q (e - 1) k + bk k - bk k = wlq bk q (e - 1) k by omega]
      · by_cases y : r = e - 1
        · rw [y, pset_eq]
        · rw [pset_ne2 y, w4 r hr, if_neg (by omega)]; omega
  obtain ⟨M1, e1, l1, f1⟩ := pre
  have K1 : WK M1 R n sz bk := WK_ag (fun o i a _ _ => f1 o i a) K
  rw [e1]
  rcases x_sh28 (D := D) (e := e) K1 B hk ((e : Int) - 1) l1 (R - e) e (by omega) (Nat.le_refl e) (fun d h1 h2 => by omega) with ⟨r, r1, r2, r3, r4, r5⟩ | ⟨r1, r2⟩
  · refine Or.inl ⟨r, r1, r2, r3, r4, _, r5, ⟨fun j hj => ?_, fun hk1 => ⟨?_, Nat.zero_le _⟩, fun j h1 h2 => ?_, fun r' hr' => ?_⟩, fun o i a b => by rw [pset_ne b, pset_ne a, f1 o i a]⟩
    · rcases Nat.lt_or_ge j k with u | u
      · rw [qU_lo u, pset_ne2 (by omega), pset_ne (by decide), f1 36 j (by decide)]; exact w1 j u
      · have : j = k := by omega
        rw [this, qU_k, pset_eq]; exact ⟨rfl, r2⟩
    · rw [pset_ne2 (by omega), pset_ne (by decide), f1 36 _ (by decide), w3 (k + 1) (by omega) hk1]; rfl
    · rw [pset_ne2 (by omega), pset_ne (by decide), f1 36 _ (by decide)]; exact w3 j (by omega) h2
    · rw [if_neg (by omega), wlq_succ, qU_k, wlq_cg (q := qU q k r) (q' := q) k (fun j hj => qU_lo hj), pset_ne (by decide)]
      by_cases y : r' = r
      · rw [y, pset_eq, if_pos rfl]; omega
      · rw [pset_ne2 y, l1 r' hr', if_neg (fun z => y z.symm)]; omega
  · refine Or.inr ⟨r1, _, r2, fun k1 => ⟨fun j hj => ?_, fun _ => ⟨?_, ?_⟩, fun j h1 h2 => ?_, fun r hr => ?_⟩, fun o i a b => by rw [pset_ne b, f1 o i a]⟩
    · rw [pset_ne2 (by omega), f1 36 j (by decide)]; exact w1 j (by omega)
    · rw [pset_ne2 (by omega), f1 36 _ (by decide), (w1 (k - 1) (by omega)).1]; omega
    · have := (w1 (k - 1) (by omega)).2; omega
    · by_cases y : j = k
      · rw [y, pset_eq]
      · rw [pset_ne2 y, f1 36 j (by decide)]; exact w3 j (by omega) h2
    · obtain ⟨k', rfl⟩ : ∃ k', k = k' + 1 := ⟨k - 1, by omega⟩
      rw [pset_ne (by decide), l1 r hr, wlq_succ, Nat.add_sub_cancel]
      by_cases y : q k' = r
      · rw [if_pos y, if_pos ⟨by omega, by omega⟩]
      · rw [if_neg y, if_neg (by omega)]
/-- an arrangement stands: all parts have their rooms, it is code c -/
def WA (M : pM) (R n : Nat) (bk : Nat → Int) (c : Nat) : Prop := WD M R n bk (dg R n c) n 0
def NXo (R n : Nat) (sz bk : Nat → Int) (a : Nat) (M : pM) (o : Option pR) : Prop := ∃ M', (∀ o i, o ≠ 34 → o ≠ 36 → ¬ (o = 32 ∧ i = 9) → M' o i = M o i) ∧ ((o = rI 1 M' ∧ M' 32 9 = 0 ∧ ∃ c, a ≤ c ∧ c < R ^ n ∧ fnW R n sz bk c = true ∧ NF R n sz bk a c ∧ WA M' R n bk c) ∨ (o = rI 0 M' ∧ M' 32 9 = 1 ∧ NF R n sz bk a (R ^ n)))
def phi (n k e : Nat) : Nat := if e = 0 then n - k else n + k + 1
theorem WD_cg {k e : Nat} (h : ∀ j, j < k → q' j = q j) (W : WD M R n bk q k e) : WD M R n bk q' k e := by
  obtain ⟨w1, w2, w3, w4⟩ := W
  exact ⟨fun j hj => by rw [h j hj]; exact w1 j hj, w2, w3, fun r hr => by rw [wlq_cg k h]; exact w4 r hr⟩
theorem x_nx25 (hD : 1 ≤ D) (B : WB R n sz bk) {a : Nat} : ∀ (m k e : Nat) (q : Nat → Nat) (M : pM) (x : Nat), 21 * (R ^ n - Xc R n q k e) + phi n k e ≤ m → x + m < 1000000 → WK M R n sz bk → WD M R n bk q k e → (∀ r, r < R → wlq bk q r k ≤ sz r) → NF R n sz bk a (Xc R n q k e) → a ≤ Xc R n q k e → k < n → NXo R n sz bk a M (xE D 163 25 [.inr 34, .inl (k : Int), .inl (x : Int)] [] M) := by
  obtain ⟨b1, b2, b3, b4, b5, b6⟩ := id B
  intro m
  induction m with
  | zero =>
    intro k e q M x hm _ _ W _ _ _ hk
    exfalso
    unfold phi at hm
    by_cases z : e = 0
    · rw [if_pos z] at hm; omega
    · rw [if_neg z] at hm; omega
  | succ m ih =>
    intro k e q M x hm hx K W ft no ha hk
    have hq : ∀ j, j < k → q j < R := fun j hj => (W.1 j hj).2
    have he : e ≤ R := (W.2.1 hk).2
    have b5' : ∀ j, j < n → 0 ≤ bk j := fun j hj => (b5 j hj).1
    rw [L_Walk_next_25, if_neg (by rw [le32_iff] <;> omega), if_neg (by rw [lt32_iff] <;> omega), K.2.1, if_neg (by rw [le32_iff] <;> omega)]
    rcases x_shift (d := D) hD K B hk W with ⟨r, r1, r2, r3, r4, M1, e1, W1, f1⟩ | ⟨r1, M1, e1, W1, f1⟩
    · have K1 : WK M1 R n sz bk := WK_ag (fun o i a b _ => f1 o i a b) K
      have no' : NF R n sz bk a (Xc R n q k r) := NF_step b1 b5' hk hq (by omega) r3 no
      have mo := Xc_mono (R := R) (n := n) (q := q) (k := k) r1
      have ft' : ∀ r', r' < R → wlq bk (qU q k r) r' (k + 1) ≤ sz r' := fun r' hr' => by
        rw [wlq_succ, qU_k, wlq_cg (q := qU q k r) (q' := q) k (fun j hj => qU_lo hj)]
        have := ft r' hr'
        by_cases y : r = r'
        · rw [if_pos y, ← y]; exact r4
        · rw [if_neg y]; omega
      rw [e1, pbI_rI, if_neg (by decide), show ((k : Int) + 1) = ((k + 1 : Nat) : Int) by omega, show ((x : Int) + 1) = ((x + 1 : Nat) : Int) by omega]
      rcases Nat.lt_or_ge (k + 1) n with u | u
      · have dn := Xc_dn (R := R) (q := q) (q' := qU q k r) (r := r) u (fun j hj => qU_lo hj) qU_k
        obtain ⟨M', f2, rr⟩ := ih (k + 1) 0 (qU q k r) M1 (x + 1) (by
          rw [dn]
          unfold phi at hm ⊢
          rw [if_pos rfl]
          by_cases z : e = 0
          · rw [if_pos z] at hm; omega
          · rw [if_neg z] at hm; omega) (by omega) K1 W1 ft' (by rw [dn]; exact no') (by rw [dn]; omega) u
        exact ⟨M', fun o i a b c => by rw [f2 o i a b c, f1 o i a b], rr⟩
      · have kn : k + 1 = n := by omega
        have la := Xc_last (R := R) (q := q) (q' := qU q k r) kn (fun j hj => qU_lo hj) (qU_k (q := q) (r := r))
        have hq' : ∀ j, j < n → qU q k r j < R := fun j hj => (W1.1 j (by omega)).2
        have cl := pcd_lt b1 n hq'
        have dgs : ∀ j, j < n → dg R n (pcd R (qU q k r) n) j = qU q k r j := dg_of b1 n (Nat.le_refl n) hq' (by rw [Nat.sub_self, Nat.pow_zero, Nat.div_one])
        have hz : pset M1 32 9 0 32 9 = 0 := pset_eq
        rw [L_Walk_next_25, if_neg (by rw [le32_iff] <;> omega), if_neg (by rw [lt32_iff] <;> omega), K1.2.1, if_pos (by rw [le32_iff] <;> omega), if_pos (by rw [kn]), hz, if_neg (fun z => z (by decide))]
        refine ⟨pset M1 32 9 0, fun o i a b c => ?_, Or.inl ⟨rfl, hz, pcd R (qU q k r) n, by omega, by omega, fnW_iff.mpr fun r' hr' => ?_, by rw [← la]; exact no', ?_⟩⟩
        · unfold pset
          rw [if_neg c, f1 o i a b]
        · rw [wlq_cg n dgs, ← kn]; exact ft' r' hr'
        · have W2 : WD M1 R n bk (qU q k r) n 0 := by rw [kn] at W1; exact W1
          obtain ⟨w1, w2, w3, w4⟩ := WD_cg (q' := dg R n (pcd R (qU q k r) n)) dgs W2
          exact ⟨fun j hj => by rw [pset_ne (by decide)]; exact w1 j hj, fun z => absurd z (Nat.lt_irrefl n), fun j h1 h2 => by omega, fun r' hr' => by rw [pset_ne (by decide)]; exact w4 r' hr'⟩
    · have K1 : WK M1 R n sz bk := WK_ag (fun o i a b _ => f1 o i a b) K
      have no' : NF R n sz bk a (Xc R n q k R) := NF_step b1 b5' hk hq (Nat.le_refl R) r1 no
      have mo := Xc_mono (R := R) (n := n) (q := q) (k := k) he
      have fr := Xc_fresh (n := n) (q := q) (k := k) b1
      rw [e1, pbI_rI, if_pos (by decide), show ((x : Int) + 1) = ((x + 1 : Nat) : Int) by omega]
      rcases Nat.eq_zero_or_pos k with u | u
      · subst u
        have hz : pset M1 32 9 1 32 9 = 1 := pset_eq
        rw [Xc_top (by omega)] at no'
        rw [L_Walk_next_25, if_neg (by rw [le32_iff] <;> omega), if_pos (by rw [lt32_iff] <;> omega), K1.2.1, if_neg (by rw [eq32_iff] <;> omega), hz, if_pos (by decide)]
        refine ⟨pset M1 32 9 1, fun o i a b c => ?_, Or.inr ⟨rfl, hz, no'⟩⟩
        unfold pset
        rw [if_neg c, f1 o i a b]
      · obtain ⟨k', rfl⟩ : ∃ k', k = k' + 1 := ⟨k - 1, by omega⟩
        have up := Xc_up (R := R) (q := q) (k := k') hk
        rw [show (((k' + 1 : Nat) : Int) - 1) = (k' : Int) by omega]
        have lt := Xc_lt (n := n) (q := q) (k := k' + 1) b1 hk hq
        obtain ⟨M', f2, rr⟩ := ih k' (q k' + 1) q M1 (x + 1) (by
          rw [up]
          unfold phi at hm ⊢
          rw [if_neg (by omega)]
          by_cases z : e = 0
          · rw [z] at hm mo
            rw [if_pos rfl] at hm
            omega
          · rw [if_neg z] at hm; omega) (by omega) K1 (W1 (by omega)) (fun r hr => by
            have := ft r hr
            rw [wlq_succ] at this
            have b := b5' k' (by omega)
            split at this <;> omega) (by rw [up]; exact no') (by rw [up]; omega) (by omega)
        exact ⟨M', fun o i a b c => by rw [f2 o i a b c, f1 o i a b], rr⟩
end WKB
/-! the walk from outside: is there room enough, the first one, the next one -/
section WKC
variable {R n D d : Nat} {sz bk : Nat → Int} {q q' : Nat → Nat} {M M' N : pM}
theorem sumTo_add {f g : Nat → Int} : ∀ k, sumTo (fun i => f i + g i) k = sumTo f k + sumTo g k
  | 0 => rfl
  | k + 1 => by
    show sumTo (fun i => f i + g i) k + (f k + g k) = sumTo f k + f k + (sumTo g k + g k)
    rw [sumTo_add k]; omega
theorem sumTo_le {f g : Nat → Int} : ∀ k, (∀ i, i < k → f i ≤ g i) → sumTo f k ≤ sumTo g k
  | 0, _ => Int.le_refl 0
  | k + 1, h => by
    have a := sumTo_le k (fun i hi => h i (by omega))
    have b := h k (Nat.lt_succ_self k)
    show sumTo f k + f k ≤ sumTo g k + g k
    omega
theorem sumTo_0 : ∀ k, sumTo (fun _ => (0 : Int)) k = 0
  | 0 => rfl
  | k + 1 => by
    show sumTo (fun _ => (0 : Int)) k + 0 = 0
    rw [sumTo_0 k]; rfl
theorem sumTo_one {a : Nat} {b : Int} : ∀ k, sumTo (fun r => if a = r then b else 0) k = if a < k then b else 0
  | 0 => rfl
  | k + 1 => by
    show sumTo (fun r => if a = r then b else 0) k + (if a = k then b else 0) = _
    rw [sumTo_one k]
    by_cases y : a = k
    · rw [if_pos y, if_neg (by omega), if_pos (by omega)]; omega
    · rw [if_neg y]
      by_cases z : a < k
      · rw [if_pos z, if_pos (by omega)]; omega
      · rw [if_neg z, if_neg (by omega)]; omega
theorem wl_all : ∀ k, (∀ j, j < k → q j < R) → sumTo (fun r => wlq bk q r k) R = sumTo bk k
  | 0, _ => sumTo_0 R
  | k + 1, h => by
    have ih := wl_all k (fun j hj => h j (by omega))
    have e : (fun r => wlq bk q r (k + 1)) = fun r => wlq bk q r k + if q k = r then bk k else 0 := rfl
    rw [e, sumTo_add, ih, sumTo_one, if_pos (h k (Nat.lt_succ_self k))]
    rfl
def WB0 (R n : Nat) (sz bk : Nat → Int) : Prop := (1 ≤ R ∨ n = 0) ∧ R ≤ 6 ∧ n ≤ 10 ∧ (∀ r, r < R → -10000 ≤ sz r ∧ sz r ≤ 10000) ∧ (∀ j, j < n → 0 ≤ bk j ∧ bk j ≤ 990) ∧ R ^ n ≤ 20000
def enB (R n : Nat) (sz bk : Nat → Int) : Bool := allTo (fun r => decide (0 ≤ sz r)) R && decide (sumTo bk n ≤ sumTo sz R)
theorem en_no (B : WB0 R n sz bk) (h : enB R n sz bk = false) : NF R n sz bk 0 (R ^ n) := by
  intro c _ _
  cases z : fnW R n sz bk c with
  | false => rfl
  | true =>
    have f := fnW_iff.mp z
    have nn : ∀ r, 0 ≤ wlq bk (dg R n c) r n := fun r => by
      have := wlq_mono (bk := bk) (q := dg R n c) (r := r) n 0 (fun j hj => (B.2.2.2.2.1 j (by omega)).1)
      rw [Nat.zero_add] at this
      exact this
    have a : allTo (fun r => decide (0 ≤ sz r)) R = true := allTo_iff.mpr fun r hr => decide_eq_true (by have := f r hr; have := nn r; omega)
    have b : sumTo bk n ≤ sumTo sz R := by
      rcases B.1 with h1 | h0
      · rw [← wl_all (R := R) (q := dg R n c) n (fun j _ => dg_lt h1 j)]
        exact sumTo_le R f
      · rw [h0]
        have : sumTo (fun _ => (0 : Int)) R ≤ sumTo sz R := sumTo_le R (fun r hr => by have := f r hr; have := nn r; omega)
        rw [sumTo_0] at this
        exact this
    unfold enB at h
    rw [a, decide_eq_true b] at h
    cases h
theorem x_en26 (K : WK M R n sz bk) (hn : n ≤ 10) (hb : ∀ j, j < n → 0 ≤ bk j ∧ bk j ≤ 990) {s : Int} (hs : -60000 ≤ s ∧ s ≤ 60000) : ∀ m k, k + m = n → xE D 164 26 [.inr 34, .inl (s - sumTo bk k), .inl (k : Int)] [] M = rI (if sumTo bk n ≤ s then 1 else 0) M
  | 0, k, hk => by
    have e : k = n := by omega
    have b := sumTo_range (f := bk) (lo := 0) (hi := 990) (n := n) hb
    rw [L_Walk_isRoomEnough_26, K.2.1, if_pos (by rw [le32_iff] <;> omega), e]
    by_cases z : sumTo bk n ≤ s
    · rw [if_neg (by rw [lt32_iff] <;> omega), if_pos z]
    · rw [if_pos (by rw [lt32_iff] <;> omega), if_neg z]
  | m + 1, k, hk => by
    have ih := x_en26 K hn hb hs m (k + 1) (by omega)
    rw [L_Walk_isRoomEnough_26, K.2.1, if_neg (by rw [le32_iff] <;> omega), if_pos (by omega), Int.toNat_natCast, K.2.2.2 k (by omega), show ((k : Int) + 1) = ((k + 1 : Nat) : Int) by omega, show s - sumTo bk k - bk k = s - sumTo bk (k + 1) by show _ = s - (sumTo bk k + bk k); omega]
    exact ih
theorem x_en4 (K : WK M R n sz bk) (B : WB0 R n sz bk) : ∀ m k, k + m = R → (∀ r, r < k → 0 ≤ sz r) → xE D 164 4 [.inr 34, .inl (sumTo sz k), .inl (k : Int)] [] M = rI (if enB R n sz bk then 1 else 0) M
  | 0, k, hk, ok => by
    obtain ⟨b1, b2, b3, b4, b5, b6⟩ := B
    have e : k = R := by omega
    have r := sumTo_range (f := sz) (lo := 0) (hi := 10000) (n := R) (fun i hi => ⟨ok i (by omega), (b4 i hi).2⟩)
    have u := x_en26 (D := D) K b3 b5 (s := sumTo sz R) (by omega) n 0 (by omega)
    rw [show sumTo sz R - sumTo bk 0 = sumTo sz R by show _ - 0 = _; omega] at u
    have a : allTo (fun r => decide (0 ≤ sz r)) R = true := allTo_iff.mpr fun r hr => decide_eq_true (ok r (by omega))
    rw [L_Walk_isRoomEnough_4, K.1, if_pos (by rw [le32_iff] <;> omega), e, show (.inl 0 : pV) = .inl ((0 : Nat) : Int) from rfl, u]
    unfold enB
    rw [a, Bool.true_and]
    by_cases z : sumTo bk n ≤ sumTo sz R
    · rw [if_pos z, if_pos (decide_eq_true z)]
    · rw [if_neg z, if_neg (fun y => z (of_decide_eq_true y))]
  | m + 1, k, hk, ok => by
    have s := B.2.2.2.1 k (by omega)
    have w1 := B.2.1
    have ih := x_en4 K B m (k + 1) (by omega)
    rw [L_Walk_isRoomEnough_4, K.1, if_neg (by rw [le32_iff] <;> omega), if_pos (by omega), Int.toNat_natCast, K.2.2.1 k (by omega)]
    by_cases z : 0 ≤ sz k
    · rw [if_pos (by rw [le32_iff] <;> omega), if_pos (by omega), show ((k : Int) + 1) = ((k + 1 : Nat) : Int) by omega]
      exact ih (fun r hr => by
        rcases Nat.lt_or_ge r k with u | u
        · exact ok r u
        · rw [show r = k by omega]; exact z)
    · rw [if_neg (by rw [le32_iff] <;> omega)]
      have a : enB R n sz bk = false := by
        cases y : enB R n sz bk with
        | false => rfl
        | true =>
          unfold enB at y
          rw [Bool.and_eq_true] at y
          exact absurd (of_decide_eq_true (allTo_iff.mp y.1 k (by omega))) z
      rw [a]; rfl
theorem pcd_dg {c : Nat} : ∀ k, k ≤ n → c < R ^ n → pcd R (dg R n c) k = c / R ^ (n - k)
  | 0, _, hc => by
    rw [Nat.sub_zero, Nat.div_eq_of_lt hc]; rfl
  | k + 1, hk, hc => by
    rw [dg_step (by omega), ← pcd_dg k (by omega) hc]; rfl
/-- before the first one -/
def WF0 (M : pM) (R n : Nat) : Prop := M 32 8 = 0 ∧ M 32 9 = 0 ∧ (∀ j, j < n → M 36 j = -1) ∧ ∀ r, r < R → M 34 r = 0
/-- one that fits stands -/
def WF1 (M : pM) (R n : Nat) (bk : Nat → Int) (c : Nat) : Prop := M 32 8 = 1 ∧ M 32 9 = 0 ∧ c < R ^ n ∧ WA M R n bk c
def NX1 (R n : Nat) (sz bk : Nat → Int) (a : Nat) (M : pM) (o : Option pR) : Prop := ∃ M', (∀ o i, o ≠ 34 → o ≠ 36 → ¬ (o = 32 ∧ (i = 8 ∨ i = 9)) → M' o i = M o i) ∧ ((o = rI 1 M' ∧ ∃ c, a ≤ c ∧ fnW R n sz bk c = true ∧ NF R n sz bk a c ∧ WF1 M' R n bk c) ∨ (o = rI 0 M' ∧ NF R n sz bk a (R ^ n)))
theorem NX1_of {a : Nat} {o : Option pR} (h : NXo R n sz bk a (pset M 32 8 1) o) : NX1 R n sz bk a M o := by
  obtain ⟨M', f, r⟩ := h
  refine ⟨M', fun o i x y z => ?_, ?_⟩
  · rw [f o i x y (fun w => z ⟨w.1, Or.inr w.2⟩)]
    unfold pset
    rw [if_neg (fun w => z ⟨w.1, Or.inl w.2⟩)]
  · rcases r with ⟨r1, r2, c, c1, c2, c3, c4, c5⟩ | ⟨r1, r2, r3⟩
    · exact Or.inl ⟨r1, c, c1, c3, c4, by rw [f 32 8 (by decide) (by decide) (by omega), pset_eq], r2, c2, c5⟩
    · exact Or.inr ⟨r1, r3⟩
theorem x_next0 (hd : 3 ≤ d) (K : WK M R n sz bk) (B : WB0 R n sz bk) (F : WF0 M R n) : NX1 R n sz bk 0 M (xF d 163 [.inr 34] M) := by
  obtain ⟨D, rfl, hD⟩ := dsucc hd
  obtain ⟨D', rfl, hD'⟩ := dsucc (show 1 ≤ D by omega)
  have b3 := B.2.2.1
  obtain ⟨f8, f9, fp, fl⟩ := F
  have Ks : WK (pset M 32 8 1) R n sz bk := WK_ag (fun o i _ _ h => by unfold pset; rw [if_neg (fun z => h ⟨z.1, Or.inl z.2⟩)]) K
  have u := x_en4 (D := D') K B R 0 (by omega) (fun r hr => absurd hr (Nat.not_lt_zero r))
  rw [T_Walk_next, f9, if_pos (by decide), f8, if_pos (by decide), T_Walk_isRoomEnough, show (xE D' 164 4 [.inr 34, .inl 0, .inl 0] [] M) = rI (if enB R n sz bk then 1 else 0) M from u, pbI_rI, ite01]
  refine NX1_of ?_
  cases en : enB R n sz bk with
  | false =>
    have z9 : pset (pset M 32 8 1) 32 9 1 32 9 = 1 := pset_eq
    rw [if_neg (by decide), L_Walk_next_25, if_neg (by decide), if_pos (by decide), Ks.2.1, if_neg (by rw [eq32_iff] <;> omega), z9, if_pos (by decide)]
    refine ⟨_, fun o i _ _ h => ?_, Or.inr ⟨rfl, pset_eq, en_no B en⟩⟩
    unfold pset
    rw [if_neg h]
  | true =>
    have ee := en
    unfold enB at ee
    rw [Bool.and_eq_true] at ee
    have s0 : ∀ r, r < R → 0 ≤ sz r := fun r hr => of_decide_eq_true (allTo_iff.mp ee.1 r hr)
    rw [if_pos rfl]
    rcases Nat.eq_zero_or_pos n with z | z
    · subst z
      have z9 : pset (pset M 32 8 1) 32 9 0 32 9 = 0 := pset_eq
      rw [L_Walk_next_25, if_neg (by decide), if_neg (by decide), Ks.2.1, if_pos (by decide), if_pos (by decide), z9, if_neg (fun z => z (by decide))]
      refine ⟨_, fun o i _ _ h => ?_, Or.inl ⟨rfl, pset_eq, 0, Nat.le_refl 0, (show 0 < R ^ 0 from Nat.one_pos), fnW_iff.mpr fun r hr => s0 r hr, fun c _ h => absurd h (Nat.not_lt_zero c), ⟨fun j hj => absurd hj (Nat.not_lt_zero j), fun h => absurd h (Nat.lt_irrefl 0), fun j _ hj => absurd hj (Nat.not_lt_zero j), fun r hr => ?_⟩⟩⟩
      · unfold pset
        rw [if_neg h]
      · rw [pset_ne (by decide), pset_ne (by decide), fl r hr, if_neg (fun h => absurd h.1 (Nat.lt_irrefl 0))]; rfl
    · have B1 : WB R n sz bk := ⟨by rcases B.1 with h | h; exact h; omega, B.2⟩
      have x0 : Xc R n (fun _ => 0) 0 0 = 0 := by
        unfold Xc
        show (0 * R + 0) * _ = 0
        rw [Nat.zero_mul, Nat.zero_add, Nat.zero_mul]
      have b6 := B.2.2.2.2.2
      refine x_nx25 (D := D' + 1) (by omega) B1 (21 * R ^ n + n) 0 0 (fun _ => 0) (pset M 32 8 1) 0 ?_ (by omega) Ks ⟨fun j hj => absurd hj (Nat.not_lt_zero j), fun _ => ⟨?_, Nat.zero_le _⟩, fun j _ hj => ?_, fun r hr => ?_⟩ (fun r hr => s0 r hr) (fun c _ h => by rw [x0] at h; exact absurd h (Nat.not_lt_zero c)) (Nat.zero_le _) z
      · rw [x0]
        unfold phi
        rw [if_pos rfl]
        omega
      · rw [pset_ne (by decide), fp 0 z]; rfl
      · rw [pset_ne (by decide), fp j hj]
      · rw [pset_ne (by decide), fl r hr, if_neg (by omega)]; rfl
theorem x_next1 (hd : 3 ≤ d) (K : WK M R n sz bk) (B : WB0 R n sz bk) {c : Nat} (F : WF1 M R n bk c) (fc : fnW R n sz bk c = true) : NX1 R n sz bk (c + 1) M (xF d 163 [.inr 34] M) := by
  obtain ⟨D, rfl, hD⟩ := dsucc hd
  have b3 := B.2.2.1
  obtain ⟨f8, f9, fc2, w1, w2, w3, w4⟩ := F
  have Ks : WK (pset M 32 8 1) R n sz bk := WK_ag (fun o i _ _ h => by unfold pset; rw [if_neg (fun z => h ⟨z.1, Or.inl z.2⟩)]) K
  rw [T_Walk_next, f9, if_pos (by decide), f8, if_neg (by decide), K.2.1]
  refine NX1_of ?_
  rcases Nat.eq_zero_or_pos n with z | z
  · subst z
    have z9 : pset (pset M 32 8 1) 32 9 1 32 9 = 1 := pset_eq
    rw [L_Walk_next_25, if_neg (by decide), if_pos (by decide), Ks.2.1, if_neg (by decide), z9, if_pos (by decide)]
    refine ⟨_, fun o i _ _ h => ?_, Or.inr ⟨rfl, pset_eq, fun c' h1 h2 => ?_⟩⟩
    · unfold pset
      rw [if_neg h]
    · have : R ^ 0 = 1 := rfl
      omega
  · have h1 : 1 ≤ R := by rcases B.1 with h | h; exact h; omega
    have B1 : WB R n sz bk := ⟨h1, B.2⟩
    have b6 := B.2.2.2.2.2
    obtain ⟨k, rfl⟩ : ∃ k, n = k + 1 := ⟨n - 1, by omega⟩
    have xc : Xc R (k + 1) (dg R (k + 1) c) k (dg R (k + 1) c k + 1) = c + 1 := by
      have := pcd_dg (R := R) (n := k + 1) (c := c) (k + 1) (Nat.le_refl _) fc2
      rw [Nat.sub_self, Nat.pow_zero, Nat.div_one] at this
      have this : pcd R (dg R (k + 1) c) k * R + dg R (k + 1) c k = c := this
      unfold Xc
      rw [Nat.sub_self, Nat.pow_zero, Nat.mul_one]
      omega
    have dk := w1 k (Nat.lt_succ_self k)
    rw [show (((k + 1 : Nat) : Int) - 1) = (k : Int) by omega]
    refine x_nx25 (D := D) (by omega) B1 (21 * R ^ (k + 1) + 21) k (dg R (k + 1) c k + 1) (dg R (k + 1) c) (pset M 32 8 1) 0 ?_ (by omega) Ks ⟨fun j hj => ?_, fun _ => ⟨?_, ?_⟩, fun j j1 j2 => ?_, fun r hr => ?_⟩ (fun r hr => ?_) (fun c' h1 h2 => ?_) ?_ (Nat.lt_succ_self k)
    · unfold phi
      rw [if_neg (by omega)]
      omega
    · rw [pset_ne (by decide)]; exact w1 j (by omega)
    · rw [pset_ne (by decide), dk.1]; omega
    · have := dk.2; omega
    · omega
    · rw [pset_ne (by decide), w4 r hr, if_neg (fun h => absurd h.1 (Nat.lt_irrefl _)), wlq_succ]
      by_cases y : dg R (k + 1) c k = r
      · rw [if_pos y, if_pos ⟨Nat.lt_succ_self k, by omega⟩]; omega
      · rw [if_neg y, if_neg (by omega)]; omega
    · have := fnW_iff.mp fc r hr
      rw [wlq_succ] at this
      have b := (B.2.2.2.2.1 k (Nat.lt_succ_self k)).1
      split at this <;> omega
    · rw [xc] at h2; omega
    · rw [xc]; omega
end WKC
/-! the walk begins: with some clumps -/
section WKD
variable {D d : Nat} {h M M' N : pM}
def bkL (h : pM) (some : Nat) : Nat → Nat → Int
  | 0, _ => 0
  | k + 1, j => if some.testBit k = true ∧ j = cntTo some.testBit k then blk h (cOf h k) else bkL h some k j
theorem bkL_range (W : WF h) (some : Nat) (j : Nat) : ∀ k, 0 ≤ bkL h some k j ∧ bkL h some k j ≤ 990
  | 0 => by unfold bkL; omega
  | k + 1 => by
    have ih := bkL_range W some j k
    have b := blk_range W (cOf h k)
    unfold bkL
    split <;> omega
theorem cnt_succ {c : Nat → Bool} {k : Nat} : cntTo c (k + 1) = if c k then cntTo c k + 1 else cntTo c k := rfl
theorem XH_hi (e : ∀ o i, o < 32 → M' o i = M o i) (X : XH M h) : XH M' h := XH_eq X (fun o i _ o2 _ => e o i (by omega)) |> fun Y => Y
theorem CL_hi (e : ∀ o i, o < 32 → M' o i = M o i) (C : CL M h) : CL M' h := by
  obtain ⟨b1, b2, b3⟩ := C
  exact ⟨by rw [e 7 12 (by decide)]; exact b1, fun i hi => by rw [e 15 i (by decide)]; exact b2 i hi, fun t ht => by rw [e 16 t (by decide)]; exact b3 t ht⟩
theorem x_st22 (some : Int) : ∀ m k (M : pM), k + m = 6 → (∀ i, i < k → M 34 i = 0) → ∃ M', xE D 160 22 [.inr 34, .inr 9, .inl some, .inl (k : Int)] [] M = xE D 160 34 [.inr 34, .inr 9, .inl some, .inl 0] [] M' ∧ (∀ i, i < 6 → M' 34 i = 0) ∧ ∀ o i, o ≠ 34 → M' o i = M o i
  | 0, k, M, hk, z => ⟨M, by rw [L_Walk_start_22, if_pos (by rw [le32_iff] <;> omega)], fun i hi => z i (by omega), fun _ _ _ => rfl⟩
  | m + 1, k, M, hk, z => by
    obtain ⟨M', e, a, f⟩ := x_st22 some m (k + 1) (pset M 34 k 0) (by omega) (fun i hi => by
      by_cases y : i = k
      · rw [y, pset_eq]
      · rw [pset_ne2 y]; exact z i (by omega))
    rw [L_Walk_start_22, if_neg (by rw [le32_iff] <;> omega), if_pos (by omega), Int.toNat_natCast, show ((k : Int) + 1) = ((k + 1 : Nat) : Int) by omega]
    exact ⟨M', e, a, fun o i h => by rw [f o i h, pset_ne h]⟩
theorem x_st34 (some : Int) : ∀ m k (M : pM), k + m = 60 → (∀ i, i < k → M 37 i = 0) → ∃ M', xE D 160 34 [.inr 34, .inr 9, .inl some, .inl (k : Int)] [] M = xE D 160 48 [.inr 34, .inr 9, .inl some, .inl 0] [] M' ∧ (∀ i, i < 60 → M' 37 i = 0) ∧ ∀ o i, o ≠ 37 → M' o i = M o i
  | 0, k, M, hk, z => ⟨M, by rw [L_Walk_start_34, if_pos (by rw [le32_iff] <;> omega)], fun i hi => z i (by omega), fun _ _ _ => rfl⟩
  | m + 1, k, M, hk, z => by
    obtain ⟨M', e, a, f⟩ := x_st34 some m (k + 1) (pset M 37 k 0) (by omega) (fun i hi => by
      by_cases y : i = k
      · rw [y, pset_eq]
      · rw [pset_ne2 y]; exact z i (by omega))
    rw [L_Walk_start_34, if_neg (by rw [le32_iff] <;> omega), if_pos (by omega), Int.toNat_natCast, show ((k : Int) + 1) = ((k + 1 : Nat) : Int) by omega]
    exact ⟨M', e, a, fun o i h => by rw [f o i h, pset_ne h]⟩
theorem x_st48 (hD : 3 ≤ D) (W : WF h) {some : Nat} (hs : some < 2147483648) : ∀ m k (M : pM), k + m = nC h → XH M h → CL M h → M 32 7 = (cntTo some.testBit k : Nat) → (∀ j, j < cntTo some.testBit k → M 35 j = bkL h some k j ∧ M 36 j = -1) → ∃ M', xE D 160 48 [.inr 34, .inr 9, .inl (some : Int), .inl (k : Int)] [] M = rV M' ∧ M' 32 7 = (cntTo some.testBit (nC h) : Nat) ∧ (∀ j, j < cntTo some.testBit (nC h) → M' 35 j = bkL h some (nC h) j ∧ M' 36 j = -1) ∧ ∀ o i, o ≠ 35 → o ≠ 36 → ¬ (o = 32 ∧ i = 7) → M' o i = M o i
  | 0, k, M, hk, X, C, h7, hj => by
    have n10 := nC_le W
    have e : k = nC h := by omega
    rw [L_Walk_start_48, C.1, if_pos (by rw [le32_iff] <;> omega), ← e]
    exact ⟨M, rfl, h7, hj, fun _ _ _ _ _ => rfl⟩
  | m + 1, k, M, hk, X, C, h7, hj => by
    have n10 := nC_le W
    have cl := cntTo_le (c := some.testBit) k
    have cs := cnt_succ (c := some.testBit) (k := k)
    rw [L_Walk_start_48, C.1, if_neg (by rw [le32_iff] <;> omega), h7, if_neg (by rw [le32_iff] <;> omega), c_has (by omega) hs (by omega), pbI_rI, ite01]
    cases b : some.testBit k with
    | false =>
      rw [b, if_neg (by decide)] at cs
      rw [if_neg (by decide), show ((k : Int) + 1) = ((k + 1 : Nat) : Int) by omega]
      exact x_st48 hD W hs m (k + 1) M (by omega) X C (by rw [cs]; exact h7) (fun j hj' => by
        rw [cs] at hj'
        unfold bkL
        rw [b, if_neg (fun z => by cases z.1)]
        exact hj j hj')
    | true =>
      rw [b, if_pos rfl] at cs
      have z7 : ∀ v : Int, pset M 35 (cntTo some.testBit k) v 32 7 = M 32 7 := fun v => pset_ne (by decide)
      have z7' : ∀ (v : Int) (i : Nat), pset (pset M 35 (cntTo some.testBit k) v) 36 i (-1) 32 7 = M 32 7 := fun v i => by rw [pset_ne (by decide), pset_ne (by decide)]
      rw [if_pos rfl, c_clumpBulk (by omega) W X C (by omega), pbI_rI, h7, if_pos (by omega), Int.toNat_natCast, z7, h7, if_pos (by omega), Int.toNat_natCast, z7', h7, show ((k : Int) + 1) = ((k + 1 : Nat) : Int) by omega, show (((cntTo some.testBit k : Nat) : Int) + 1) = ((cntTo some.testBit k + 1 : Nat) : Int) by omega]
      have lo : ∀ o i, o < 32 → pset (pset (pset M 35 (cntTo some.testBit k) (blk h (cOf h k))) 36 (cntTo some.testBit k) (-1)) 32 7 ((cntTo some.testBit k + 1 : Nat) : Int) o i = M o i := fun o i ho => by
        rw [pset_ne (by omega), pset_ne (by omega), pset_ne (by omega)]
      obtain ⟨M', e, a7, aj, f⟩ := x_st48 hD W hs m (k + 1) (pset (pset (pset M 35 (cntTo some.testBit k) (blk h (cOf h k))) 36 (cntTo some.testBit k) (-1)) 32 7 ((cntTo some.testBit k + 1 : Nat) : Int)) (by omega) (XH_hi lo X) (CL_hi lo C) (by rw [cs, pset_eq]) (fun j hj' => by
        rw [cs] at hj'
        unfold bkL
        rw [pset_ne (show 35 ≠ 32 by decide), pset_ne (show 35 ≠ 36 by decide), pset_ne (show 36 ≠ 32 by decide)]
        by_cases y : j = cntTo some.testBit k
        · rw [if_pos ⟨b, y⟩, y, pset_eq, pset_eq]; exact ⟨rfl, rfl⟩
        · rw [if_neg (fun z => y z.2), pset_ne2 y, pset_ne2 y, pset_ne (show 36 ≠ 35 by decide)]; exact hj j (by omega))
      exact ⟨M', e, a7, aj, fun o i h1 h2 h3 => by
        rw [f o i h1 h2 h3]
        unfold pset
        rw [if_neg h3, if_neg (fun z => h2 z.1), if_neg (fun z => h1 z.1)]⟩
theorem x_start (hd : 4 ≤ d) (W : WF h) (X : XH M h) (C : CL M h) {some : Nat} (hs : some < 2147483648) : ∃ M', xF d 160 [.inr 34, .inr 9, .inl (some : Int)] M = rV M' ∧ WK M' (hR h) (cntTo some.testBit (nC h)) (h 1) (bkL h some (nC h)) ∧ WF0 M' (hR h) (cntTo some.testBit (nC h)) ∧ (∀ i, i < 60 → M' 37 i = 0) ∧ ∀ o i, ¬ (32 ≤ o ∧ o ≤ 37) → M' o i = M o i := by
  obtain ⟨D, rfl, hD⟩ := dsucc hd
  have w1 := W.1
  rw [T_Walk_start, c_copy_8_33 (by omega), pbN_rV, X.1, jmin_eq (by omega) (by omega) (by omega) (by omega), show min ((hR h : Nat) : Int) 6 = ((hR h : Nat) : Int) by omega]
  generalize hM1 : pcp (pset (pset (pset (pset M 32 6 (hR h : Int)) 32 7 0) 32 8 0) 32 9 0) 8 33 6 = M1
  have f1 : ∀ o i, o ≠ 32 → o ≠ 33 → M1 o i = M o i := fun o i a b => by
    rw [← hM1, pcp_ne b, pset_ne a, pset_ne a, pset_ne a, pset_ne a]
  have g6 : M1 32 6 = (hR h : Int) := by rw [← hM1, pcp_ne (by decide), pset_ne2 (by decide), pset_ne2 (by decide), pset_ne2 (by decide), pset_eq]
  have g7 : M1 32 7 = 0 := by rw [← hM1, pcp_ne (by decide), pset_ne2 (by decide), pset_ne2 (by decide), pset_eq]
  have g8 : M1 32 8 = 0 := by rw [← hM1, pcp_ne (by decide), pset_ne2 (by decide), pset_eq]
  have g9 : M1 32 9 = 0 := by rw [← hM1, pcp_ne (by decide), pset_eq]
  have g33 : ∀ r, r < hR h → M1 33 r = h 1 r := fun r hr => by
    rw [← hM1, pcp_eq (by omega), pset_ne (by decide), pset_ne (by decide), pset_ne (by decide), pset_ne (by decide)]
    exact X.2.2.2.1 r hr
  obtain ⟨M2, e2, a2, f2⟩ := x_st22 (D := D) (some : Int) 6 0 M1 (by omega) (fun i hi => absurd hi (Nat.not_lt_zero i))
  obtain ⟨M3, e3, a3, f3⟩ := x_st34 (D := D) (some : Int) 60 0 M2 (by omega) (fun i hi => absurd hi (Nat.not_lt_zero i))
  have lo : ∀ o i, o < 32 → M3 o i = M o i := fun o i ho => by rw [f3 o i (by omega), f2 o i (by omega), f1 o i (by omega) (by omega)]
  obtain ⟨M4, e4, a7, aj, f4⟩ := x_st48 (D := D) hD W hs (nC h) 0 M3 (by omega) (XH_hi lo X) (CL_hi lo C) (by rw [f3 32 7 (by decide), f2 32 7 (by decide), g7]; rfl) (fun j hj => absurd hj (Nat.not_lt_zero j))
  rw [show (.inl 0 : pV) = .inl ((0 : Nat) : Int) from rfl, e2, show (.inl 0 : pV) = .inl ((0 : Nat) : Int) from rfl, e3, show (.inl 0 : pV) = .inl ((0 : Nat) : Int) from rfl, e4]
  refine ⟨M4, rfl, ⟨?_, a7, fun r hr => ?_, fun j hj => (aj j hj).1⟩, ⟨?_, ?_, fun j hj => (aj j hj).2, fun r hr => ?_⟩, fun i hi => ?_, fun o i ho => ?_⟩
  · rw [f4 32 6 (by decide) (by decide) (by omega), f3 32 6 (by decide), f2 32 6 (by decide), g6]
  · rw [f4 33 r (by decide) (by decide) (by omega), f3 33 r (by decide), f2 33 r (by decide), g33 r hr]
  · rw [f4 32 8 (by decide) (by decide) (by omega), f3 32 8 (by decide), f2 32 8 (by decide), g8]
  · rw [f4 32 9 (by decide) (by decide) (by omega), f3 32 9 (by decide), f2 32 9 (by decide), g9]
  · rw [f4 34 r (by decide) (by decide) (by omega), f3 34 r (by decide), a2 r (by omega)]
  · rw [f4 37 i (by decide) (by decide) (by omega), a3 i hi]
  · rw [f4 o i (by omega) (by omega) (by omega), f3 o i (by omega), f2 o i (by omega), f1 o i (by omega) (by omega)]
/-- all clumps -/
theorem cnt_all {n : Nat} : ∀ k, k ≤ n → cntTo (2 ^ n - 1).testBit k = k
  | 0, _ => rfl
  | k + 1, hk => by
    rw [cnt_succ, cnt_all k (by omega), if_pos (by rw [Nat.testBit_two_pow_sub_one]; exact decide_eq_true (by omega))]
theorem bkL_all {n j : Nat} : ∀ k, k ≤ n → j < k → bkL h (2 ^ n - 1) k j = blk h (cOf h j)
  | 0, _, hj => absurd hj (Nat.not_lt_zero j)
  | k + 1, hk, hj => by
    unfold bkL
    rw [cnt_all k (by omega)]
    by_cases y : j = k
    · rw [if_pos ⟨by rw [Nat.testBit_two_pow_sub_one]; exact decide_eq_true (by omega), y⟩, y]
    · rw [if_neg (fun z => y z.2)]
      exact bkL_all k (by omega) (by omega)
end WKD
/-! the clumps part the things; what fits for the reference fits for the class -/
section WKE
variable {sv : Nat → Nat} {S : Nat} {h M M' : pM}
def dj (a b : Nat) : Prop := ∀ i, a.testBit i = true → b.testBit i = false
def clo (sv : Nat → Nat) (S X : Nat) : Prop := ∀ s, s < S → (∃ i, (sv s).testBit i = true ∧ X.testBit i = true) → ∀ i, (sv s).testBit i = true → X.testBit i = true
theorem and_ex {a b : Nat} (h : a &&& b ≠ 0) : ∃ i, a.testBit i = true ∧ b.testBit i = true := by
  apply Classical.byContradiction
  intro no
  apply h
  refine Nat.eq_of_testBit_eq fun i => ?_
  rw [Nat.testBit_and, Nat.zero_testBit]
  cases x : a.testBit i with
  | false => rfl
  | true =>
    cases y : b.testBit i with
    | false => rfl
    | true => exact absurd ⟨i, x, y⟩ no
theorem and_no {a b i : Nat} (h : a &&& b = 0) (x : a.testBit i = true) : b.testBit i = false := by
  have : (a &&& b).testBit i = false := by rw [h, Nat.zero_testBit]
  rw [Nat.testBit_and, x, Bool.true_and] at this
  exact this
theorem fcP_up {ns g b : Nat} : ∀ m k i, (fcP sv ns g b k).testBit i = true → (fcP sv ns g b (k + m)).testBit i = true
  | 0, _, _, h => h
  | m + 1, k, i, h => by
    have ih := fcP_up (ns := ns) (g := g) (b := b) m k i h
    show (fcP sv ns g b (k + m + 1)).testBit i = true
    unfold fcP
    split
    · exact ih
    · rw [Nat.testBit_or, ih]; rfl
theorem clo_fix {b : Nat} (h : fcP sv 0 0 b S = b) : clo sv S b := by
  intro s hs hx i hi
  have eq : ∀ k, k ≤ S → fcP sv 0 0 b k = b := fun k hk => by
    refine Nat.eq_of_testBit_eq fun i => ?_
    cases y : b.testBit i with
    | true => exact fcP_bit y k
    | false =>
      cases z : (fcP sv 0 0 b k).testBit i with
      | false => rfl
      | true =>
        have := fcP_up (S - k) k i z
        rw [show k + (S - k) = S by omega, h, y] at this
        cases this
  have e := eq (s + 1) hs
  unfold fcP at e
  rw [eq s (by omega)] at e
  have ne : ¬ ((0 : Nat).testBit s = true ∨ sv s &&& b = 0) := by
    rintro (z | z)
    · rw [Nat.zero_testBit] at z; cases z
    · obtain ⟨j, j1, j2⟩ := hx
      rw [and_no z j1] at j2; cases j2
  rw [if_neg ne] at e
  rw [← e, Nat.testBit_or, nan_bit, hi, Nat.zero_testBit]
  simp
theorem dj_P {X b : Nat} (c : clo sv S X) (d : dj b X) : ∀ k, k ≤ S → dj (fcP sv 0 0 b k) X
  | 0, _ => d
  | k + 1, hk => by
    have ih := dj_P c d k (by omega)
    unfold fcP
    split
    · exact ih
    · rename_i z
      intro i hi
      rw [Nat.testBit_or, Bool.or_eq_true] at hi
      rcases hi with hi | hi
      · exact ih i hi
      · rw [nan_bit, Nat.zero_testBit, Bool.not_false, Bool.and_true] at hi
        cases y : X.testBit i with
        | false => rfl
        | true =>
          have all := c k (by omega) ⟨i, hi, y⟩
          obtain ⟨j, j1, j2⟩ := and_ex (fun w => z (Or.inr w))
          have := ih j j2
          rw [all j j1] at this
          cases this
theorem dj_I {X : Nat} (c : clo sv S X) : ∀ n b, dj b X → dj (fcI sv 0 0 S n b) X
  | 0, _, d => d
  | n + 1, b, d => dj_I c n _ (dj_P c d S (Nat.le_refl S))
theorem pow_bit {k i : Nat} : (2 ^ k).testBit i = decide (k = i) := Nat.testBit_two_pow
def PT (h : pM) (k : Nat) : Prop := (∀ i, i < (cgA h k).1 → clo (me h) (hS h) (cmk h k i)) ∧ (∀ i j, i < j → j < (cgA h k).1 → dj (cmk h k j) (cmk h k i)) ∧ (∀ i t, i < (cgA h k).1 → (cmk h k i).testBit t = true → t < hT h → (cgA h k).2.testBit t = false) ∧ ∀ t, t < hT h → (cgA h k).2.testBit t = false → own h k t < (cgA h k).1 ∧ (cmk h k (own h k t)).testBit t = true
theorem me_1024 (W : WF h) : ∀ k, k < hS h → me h k < 1024 := fun _ hk => me_lt W hk
theorem PT_all (W : WF h) : ∀ k, k ≤ hT h → PT h k
  | 0, _ => by
    refine ⟨fun i hi => absurd hi (Nat.not_lt_zero i), fun i j _ hj => absurd hj (Nat.not_lt_zero j), fun i t hi => absurd hi (Nat.not_lt_zero i), fun t ht hb => ?_⟩
    have : (cgA h 0).2 = aT h := rfl
    rw [this, hB h t ht, Nat.zero_testBit] at hb; cases hb
  | k + 1, hk => by
    obtain ⟨p1, p2, p3, p4⟩ := PT_all W k (by omega)
    have w2 := W.2.1
    cases q : (cgA h k).2.testBit k with
    | false =>
      have eA : cgA h (k + 1) = cgA h k := by rw [cgA_succ, q, if_neg (by decide)]
      have eM : ∀ i, cmk h (k + 1) i = cmk h k i := fun i => by
        show (if (cgA h k).2.testBit k = true ∧ i = (cgA h k).1 then cgM h k else cmk h k i) = _
        rw [q, if_neg (fun z => by cases z.1)]
      have eO : ∀ t, own h (k + 1) t = own h k t := fun t => by
        show (if (cgA h k).2.testBit k = true ∧ (cgM h k).testBit t = true then (cgA h k).1 else own h k t) = _
        rw [q, if_neg (fun z => by cases z.1)]
      unfold PT
      simp only [eA, eM, eO]
      exact ⟨p1, p2, p3, p4⟩
    | true =>
      have eA1 : (cgA h (k + 1)).1 = (cgA h k).1 + 1 := by rw [cgA_succ, q, if_pos rfl]
      have eA2 : (cgA h (k + 1)).2 = nan (cgA h k).2 (cgM h k) := by rw [cgA_succ, q, if_pos rfl]
      have eM : ∀ i, i ≠ (cgA h k).1 → cmk h (k + 1) i = cmk h k i := fun i hi => by
        show (if (cgA h k).2.testBit k = true ∧ i = (cgA h k).1 then cgM h k else cmk h k i) = _
        rw [if_neg (fun z => hi z.2)]
      have eN : cmk h (k + 1) (cgA h k).1 = cgM h k := by
        show (if (cgA h k).2.testBit k = true ∧ (cgA h k).1 = (cgA h k).1 then cgM h k else cmk h k (cgA h k).1) = _
        rw [if_pos ⟨q, rfl⟩]
      have X := cg_M W k
      have p10 := pow10 (t := k) (by omega)
      have cN : clo (me h) (hS h) (cgM h k) := by
        rw [X]
        exact clo_fix (fcI_stop (me_1024 W) 1024 _ p10 (Nat.le_add_right _ _))
      have dN : ∀ i, i < (cgA h k).1 → dj (cgM h k) (cmk h k i) := fun i hi => by
        rw [X]
        refine dj_I (p1 i hi) 1024 _ (fun t ht => ?_)
        rw [pow_bit] at ht
        have := of_decide_eq_true ht
        subst this
        cases y : (cmk h k i).testBit k with
        | false => rfl
        | true =>
          have := p3 i k hi y (by omega)
          rw [q] at this; cases this
      refine ⟨fun i hi => ?_, fun i j hij hj => ?_, fun i t hi hb ht => ?_, fun t ht hb => ?_⟩
      · rw [eA1] at hi
        by_cases y : i = (cgA h k).1
        · rw [y, eN]; exact cN
        · rw [eM i y]; exact p1 i (by omega)
      · rw [eA1] at hj
        rw [eM i (by omega)]
        by_cases y : j = (cgA h k).1
        · rw [y, eN]; exact dN i (by omega)
        · rw [eM j y]; exact p2 i j hij (by omega)
      · rw [eA1] at hi
        rw [eA2, nan_bit]
        by_cases y : i = (cgA h k).1
        · rw [y, eN] at hb
          rw [hb]; simp
        · rw [eM i y] at hb
          rw [p3 i t (by omega) hb ht]; rfl
      · rw [eA2, nan_bit] at hb
        rw [eA1]
        have eo : own h (k + 1) t = if (cgA h k).2.testBit k = true ∧ (cgM h k).testBit t = true then (cgA h k).1 else own h k t := rfl
        rw [eo]
        cases y : (cgM h k).testBit t with
        | true =>
          rw [if_pos ⟨q, rfl⟩, eN]
          exact ⟨Nat.lt_succ_self _, y⟩
        | false =>
          rw [y, Bool.not_false, Bool.and_true] at hb
          obtain ⟨a, b⟩ := p4 t ht hb
          rw [if_neg (fun z => by cases z.2), eM _ (by omega)]
          exact ⟨by omega, b⟩
theorem oOf_in (W : WF h) {t : Nat} (ht : t < hT h) : oOf h t < nC h ∧ (cOf h (oOf h t)).testBit t = true := (PT_all W (hT h) (Nat.le_refl _)).2.2.2 t ht (rest_k (hT h) t ht)
theorem oOf_iff (W : WF h) {t i : Nat} (ht : t < hT h) (hi : i < nC h) : (cOf h i).testBit t = true ↔ oOf h t = i := by
  obtain ⟨a, b⟩ := oOf_in W ht
  obtain ⟨-, p2, -, -⟩ := PT_all W (hT h) (Nat.le_refl _)
  constructor
  · intro hb
    rcases Nat.lt_trichotomy (oOf h t) i with u | u | u
    · have := p2 (oOf h t) i u hi t hb
      have b' : (cmk h (hT h) (oOf h t)).testBit t = true := b
      rw [b'] at this; cases this
    · exact u
    · have := p2 i (oOf h t) u a t b
      have b' : (cmk h (hT h) i).testBit t = true := hb
      rw [b'] at this; cases this
  · intro e
    rw [← e]; exact b
theorem sumTo_swap {f : Nat → Nat → Int} (m : Nat) : ∀ n, sumTo (fun i => sumTo (fun t => f i t) m) n = sumTo (fun t => sumTo (fun i => f i t) n) m
  | 0 => (sumTo_0 m).symm
  | n + 1 => by
    have e : sumTo (fun t => sumTo (fun i => f i t) (n + 1)) m = sumTo (fun t => sumTo (fun i => f i t) n + f n t) m := rfl
    rw [e, sumTo_add, ← sumTo_swap m n]
    rfl
theorem blk_parts (W : WF h) (p : Nat → Nat) (r : Nat) : sumTo (fun t => if p (oOf h t) = r then h 3 t else 0) (hT h) = wlq (fun i => blk h (cOf h i)) p r (nC h) := by
  have e1 : wlq (fun i => blk h (cOf h i)) p r (nC h) = sumTo (fun i => sumTo (fun t => if oOf h t = i then (if p i = r then h 3 t else 0) else 0) (hT h)) (nC h) := by
    refine sumTo_congr fun i hi => ?_
    by_cases y : p i = r
    · rw [if_pos y]
      refine sumTo_congr fun t ht => ?_
      by_cases z : oOf h t = i
      · rw [if_pos z, if_pos y, if_pos ((oOf_iff W ht hi).mpr z)]
      · rw [if_neg z, if_neg (fun w => z ((oOf_iff W ht hi).mp w))]
    · rw [if_neg y]
      have : sumTo (fun t => if oOf h t = i then (if p i = r then h 3 t else 0) else 0) (hT h) = sumTo (fun _ => (0 : Int)) (hT h) := sumTo_congr fun t _ => by
        rw [if_neg y]
        split <;> rfl
      rw [this, sumTo_0]
  rw [e1, sumTo_swap]
  refine sumTo_congr fun t ht => ?_
  obtain ⟨a, -⟩ := oOf_in W ht
  have : sumTo (fun i => if oOf h t = i then (if p i = r then h 3 t else 0) else 0) (nC h) = sumTo (fun i => if oOf h t = i then (if p (oOf h t) = r then h 3 t else 0) else 0) (nC h) := sumTo_congr fun i _ => by
    by_cases z : oOf h t = i
    · rw [if_pos z, if_pos z, z]
    · rw [if_neg z, if_neg z]
  rw [this, sumTo_one, if_pos a]
/-- what fits: the codes of arrangements -/
def fnG (h : pM) (c : Nat) : Bool := fnW (hR h) (nC h) (h 1) (fun i => blk h (cOf h i)) c
theorem blk_inR (p : Nat → Int) (r : Int) : blk h (inR h p r) = sumTo (fun t => if p t = r then h 3 t else 0) (hT h) := sumTo_congr fun t ht => by
  rw [inR_bit ht]
  by_cases y : p t = r
  · rw [if_pos y, if_pos (decide_eq_true y)]
  · rw [if_neg y, if_neg (fun z => y (of_decide_eq_true z))]
/-- where the things are by a code -/
def plG (h : pM) (c : Nat) (t : Nat) : Nat := dg (hR h) (nC h) c (oOf h t)
theorem trP_G (h72 : ∀ t, t < hT h → M 72 t = (oOf h t : Int)) {c t : Nat} (ht : t < hT h) : trP M (hR h) (nC h) c t = (plG h c t : Int) := by
  unfold trP plG
  rw [h72 t ht, Int.toNat_natCast]
theorem load_G (W : WF h) (X : MH M h) (h72 : ∀ t, t < hT h → M 72 t = (oOf h t : Int)) (h1 : 1 ≤ hR h) {c r : Nat} (hr : r < hR h) : frF M (trP M (hR h) (nC h) c) r (hT h) = h 1 r - wlq (fun i => blk h (cOf h i)) (dg (hR h) (nC h) c) r (nC h) := by
  have hp : ∀ t, t < hT h → 0 ≤ trP M (hR h) (nC h) c t ∧ trP M (hR h) (nC h) c t < hR h := fun t ht => by
    have := dg_lt (R := hR h) (C := nC h) (code := c) h1 (M 72 t).toNat
    unfold trP
    omega
  rw [free_same W X hp hr, blk_inR, ← blk_parts W]
  congr 1
  refine sumTo_congr fun t ht => ?_
  rw [trP_G h72 ht]
  unfold plG
  by_cases y : dg (hR h) (nC h) c (oOf h t) = r
  · rw [if_pos y, if_pos (by omega)]
  · rw [if_neg y, if_neg (by omega)]
theorem fnB_G (W : WF h) (X : MH M h) (h72 : ∀ t, t < hT h → M 72 t = (oOf h t : Int)) (h1 : 1 ≤ hR h) (c : Nat) : fnB M (hR h) (hT h) (nC h) c = fnG h c := by
  unfold fnB fnG fnW
  have w2 := nC_le W
  have key : ∀ r, r < hR h → decide (le32 0 (frF M (trP M (hR h) (nC h) c) r (hT h))) = decide (wlq (fun i => blk h (cOf h i)) (dg (hR h) (nC h) c) r (nC h) ≤ h 1 r) := fun r hr => by
    have s := W.2.2.2.1 r hr
    have b := sumTo_range (f := fun i => if dg (hR h) (nC h) c i = r then blk h (cOf h i) else 0) (lo := 0) (hi := 990) (n := nC h) (fun i _ => by
      have := blk_range W (cOf h i)
      show 0 ≤ (if dg (hR h) (nC h) c i = r then blk h (cOf h i) else 0) ∧ (if dg (hR h) (nC h) c i = r then blk h (cOf h i) else 0) ≤ 990
      split <;> omega)
    have b' : 0 ≤ wlq (fun i => blk h (cOf h i)) (dg (hR h) (nC h) c) r (nC h) ∧ wlq (fun i => blk h (cOf h i)) (dg (hR h) (nC h) c) r (nC h) ≤ 9900 := by
      have b2 : ((nC h : Nat) : Int) * 0 ≤ wlq (fun i => blk h (cOf h i)) (dg (hR h) (nC h) c) r (nC h) ∧ wlq (fun i => blk h (cOf h i)) (dg (hR h) (nC h) c) r (nC h) ≤ (nC h : Int) * 990 := b
      omega
    rw [load_G W X h72 h1 hr]
    refine decide_eq_decide.mpr ?_
    rw [le32_iff (by omega) (by omega) (by omega) (by omega)]
    omega
  have cg : ∀ n, n ≤ hR h → allTo (fun r => decide (le32 0 (frF M (trP M (hR h) (nC h) c) r (hT h)))) n = allTo (fun r => decide (wlq (fun i => blk h (cOf h i)) (dg (hR h) (nC h) c) r (nC h) ≤ h 1 r)) n := by
    intro n hn
    cases e : allTo (fun r => decide (wlq (fun i => blk h (cOf h i)) (dg (hR h) (nC h) c) r (nC h) ≤ h 1 r)) n with
    | true => exact allTo_iff.mpr fun r hr => by rw [key r (by omega)]; exact allTo_iff.mp e r hr
    | false =>
      cases f : allTo (fun r => decide (le32 0 (frF M (trP M (hR h) (nC h) c) r (hT h)))) n with
      | false => rfl
      | true =>
        have : allTo (fun r => decide (wlq (fun i => blk h (cOf h i)) (dg (hR h) (nC h) c) r (nC h) ≤ h 1 r)) n = true := allTo_iff.mpr fun r hr => by rw [← key r (by omega)]; exact allTo_iff.mp f r hr
        rw [e] at this; cases this
  exact cg _ (Nat.le_refl _)
end WKE
/-! the one with the greatest sum: choose -/
section WKF
variable {R n D d : Nat} {sz bk tb : Nat → Int} {M M' N : pM} {fine : Nat → Bool} {val : Nat → Int}
/-- the walk stands before code a -/
def WS (M : pM) (R n : Nat) (sz bk : Nat → Int) (a : Nat) : Prop := (a = 0 ∧ WF0 M R n) ∨ ∃ c, a = c + 1 ∧ WF1 M R n bk c ∧ fnW R n sz bk c = true
theorem x_nextS (hd : 3 ≤ d) (K : WK M R n sz bk) (B : WB0 R n sz bk) {a : Nat} (F : WS M R n sz bk a) : NX1 R n sz bk a M (xF d 163 [.inr 34] M) := by
  rcases F with ⟨rfl, F⟩ | ⟨c, rfl, F, fc⟩
  · exact x_next0 hd K B F
  · exact x_next1 hd K B F fc
end WKF
/-! the reference's rows, seen as codes that fit; both walks begin -/
section WKG
variable {D d : Nat} {G h M M' N : pM}
theorem R0_T0 (W : WF G) (r : hR G = 0) : hT G = 0 := by
  rcases Nat.eq_zero_or_pos (hT G) with z | z
  · exact z
  · have := (W.2.2.2.2.2.2.2.1 0 z).2.2.2
    omega
theorem nC_T (h : pM) : nC h ≤ hT h := (cgA_le _).1
def MHc (M M' : pM) : Prop := ∀ o i, (60 ≤ o ∧ o ≤ 67) → ¬ (o = 60 ∧ i ≠ 0 ∧ i ≠ 3 ∧ i ≠ 8) → M' o i = M o i
theorem MH_c (e : MHc M M') (X : MH M G) : MH M' G := by
  obtain ⟨x1, x2, x3, x4, x5, x6, x7⟩ := X
  exact ⟨by rw [e 60 0 (by omega) (by omega)]; exact x1, by rw [e 60 3 (by omega) (by omega)]; exact x2, by rw [e 60 8 (by omega) (by omega)]; exact x3, fun r hr => by rw [e 61 r (by omega) (by omega)]; exact x4 r hr, fun p hp => by rw [e 62 p (by omega) (by omega)]; exact x5 p hp, fun t ht => by rw [e 63 t (by omega) (by omega), e 64 t (by omega) (by omega), e 65 t (by omega) (by omega), e 66 t (by omega) (by omega)]; exact x6 t ht, fun s hs => by rw [e 67 s (by omega) (by omega)]; exact x7 s hs⟩
/-- the reference stands before code a -/
def SR (M G : pM) (a : Nat) : Prop := gM gAll M ∧ MH M G ∧ M 60 38 = 0 ∧ M 60 30 = (nC G : Int) ∧ M 60 39 = ((hR G ^ nC G : Nat) : Int) ∧ M 60 40 = (a : Int) - 1 ∧ (∀ t, t < hT G → M 72 t = (oOf G t : Int)) ∧ ∀ i, i < nC G → M 73 i = (cOf G i : Int)
theorem SR_n {a b : Nat} (n : RWn M M') (g : gM gAll M') (e : M' 60 40 = (b : Int) - 1) (S : SR M G a) : SR M' G b := by
  obtain ⟨-, s2, s3, s4, s5, -, s7, s8⟩ := S
  exact ⟨g, MH_c (fun o i h1 h2 => n o i (by omega) (by omega) (by omega)) s2, by rw [n 60 38 (by decide) (by decide) (by omega)]; exact s3, by rw [n 60 30 (by decide) (by decide) (by omega)]; exact s4, by rw [n 60 39 (by decide) (by decide) (by omega)]; exact s5, e, fun t ht => by rw [n 72 t (by decide) (by decide) (by omega)]; exact s7 t ht, fun i hi => by rw [n 73 i (by decide) (by decide) (by omega)]; exact s8 i hi⟩
def NG (G : pM) (a : Nat) (M : pM) (o : Option pR) : Prop := ∃ M', RWn M M' ∧ gM gAll M' ∧ ((o = rI 1 M' ∧ ∃ c, a ≤ c ∧ c < hR G ^ nC G ∧ fnG G c = true ∧ (∀ c', a ≤ c' → c' < c → fnG G c' = false) ∧ SR M' G (c + 1) ∧ ∀ t, t < hT G → M' 78 t = (plG G c t : Int)) ∨ (o = rI 0 M' ∧ ∀ c', a ≤ c' → c' < hR G ^ nC G → fnG G c' = false))
theorem m_nextG (hd : 3 ≤ d) (W : WF G) (hW : hR G ^ nC G ≤ 20000) {a : Nat} (ha : a ≤ hR G ^ nC G) (S : SR M G a) : NG G a M (xF d 230 [.inr 62] M) := by
  have w1 := W.1
  have w2 := W.2.1
  have n10 := nC_le W
  obtain ⟨g, s2, s3, s4, s5, s6, s7, s8⟩ := id S
  rcases Nat.eq_zero_or_pos (hR G) with z | z
  · have t0 := R0_T0 W z
    have c0 : nC G = 0 := by have := nC_T G; omega
    have p1 : hR G ^ nC G = 1 := by rw [z, c0, Nat.pow_zero]
    obtain ⟨D, rfl, hD⟩ := dsucc hd
    obtain ⟨D', rfl, -⟩ := dsucc (show 1 ≤ D by omega)
    have k39 : pset M 60 40 (a : Int) 60 39 = 1 := by rw [pset_ne2 (by decide), s5, p1]; rfl
    have k30 : pset M 60 40 (a : Int) 60 30 = 0 := by rw [pset_ne2 (by decide), s4, c0]; rfl
    have k3 : pset M 60 40 (a : Int) 60 3 = 0 := by rw [pset_ne2 (by decide), s2.2.1, t0]; rfl
    have k0 : pset M 60 40 (a : Int) 60 0 = 0 := by rw [pset_ne2 (by decide), s2.1, z]; rfl
    have n2 : RWn M (pset M 60 40 (a : Int)) := fun o i _ _ c => by
      unfold pset
      rw [if_neg c]
    have g2 : gM gAll (pset M 60 40 (a : Int)) := gM_f g (lo := -1) (hi := 1000000) (by decide +kernel) (by omega) (by omega)
    rw [T_M_nextRow, s6, show (a : Int) - 1 + 1 = (a : Int) by omega, L_M_nextRow_6, k39, show pset M 60 40 (a : Int) 60 40 = (a : Int) from pset_eq]
    rcases Nat.eq_zero_or_pos a with y | y
    · subst y
      rw [if_neg (by decide), T_M_isFine, k30, L_M_isFine_8, if_pos (by decide), L_M_isFine_34, k3, if_pos (by decide), L_M_isFine_53, k0, if_pos (by decide), pbI_rI, if_neg (by decide)]
      refine ⟨_, n2, g2, Or.inl ⟨rfl, 0, Nat.le_refl 0, by rw [p1]; decide, ?_, fun c' h1 h2 => absurd h2 (Nat.not_lt_zero c'), SR_n n2 g2 (by rw [pset_eq]; rfl) S, fun t ht => by rw [t0] at ht; omega⟩⟩
      unfold fnG fnW
      rw [z]; rfl
    · rw [if_pos (by rw [le32_iff] <;> omega)]
      exact ⟨_, n2, g2, Or.inr ⟨rfl, fun c' h1 h2 => by rw [p1] at h2; omega⟩⟩
  · have RX : RWx M (hR G) (hT G) (nC G) := ⟨s2.1, z, w1, s2.2.1, w2, s4, n10, s3, fun t ht => ⟨oOf G t, s7 t ht, (oOf_in W ht).1⟩⟩
    obtain ⟨M', g', n, r⟩ := m_nextRow (code := a) hd (W := hR G ^ nC G) (by omega) (by omega) RX g s5 s6
    have fb := fnB_G W s2 s7 z
    rcases r with ⟨r1, r2, r3⟩ | ⟨r1, c, r2, r3, r4, r5, r6, r7⟩
    · exact ⟨M', n, g', Or.inr ⟨r1, fun c' h1 h2 => by rw [← fb]; exact r2 c' h1 h2⟩⟩
    · refine ⟨M', n, g', Or.inl ⟨r1, c, r2, r3, by rw [← fb]; exact r4, fun c' h1 h2 => by rw [← fb]; exact r5 c' h1 h2, SR_n n g' (by rw [r6]; omega) S, fun t ht => ?_⟩⟩
      rw [r7 t ht, trP_G s7 ht]
theorem pwr_iff {R : Nat} (h1 : 1 ≤ R) : ∀ n a, 20000 < pwr R n a ↔ 20000 < a * R ^ n
  | 0, a => by rw [Nat.pow_zero, Nat.mul_one]; exact Iff.rfl
  | n + 1, a => by
    have ih := pwr_iff h1 n (a * R)
    have e : a * R ^ (n + 1) = a * R * R ^ n := by rw [Nat.pow_succ, Nat.mul_assoc, Nat.mul_comm R]
    have p : 1 ≤ R ^ (n + 1) := Nat.pow_pos h1
    unfold pwr
    by_cases q : 20000 < a
    · rw [if_pos q]
      have : a * 1 ≤ a * R ^ (n + 1) := Nat.mul_le_mul_left a p
      constructor
      · intro _; omega
      · intro _; exact q
    · rw [if_neg q, ih, e]
theorem wyW_iff {R : Nat} (h1 : 1 ≤ R) : ∀ n, wyW R n = min 1000000 (R ^ n)
  | 0 => rfl
  | n + 1 => by
    show min 1000000 (wyW R n * R) = _
    rw [wyW_iff h1 n, Nat.pow_succ]
    rcases Nat.le_total 1000000 (R ^ n) with q | q
    · have : R ^ n * 1 ≤ R ^ n * R := Nat.mul_le_mul_left _ h1
      have : 1000000 * 1 ≤ 1000000 * R := Nat.mul_le_mul_left _ h1
      rw [Nat.min_eq_left q]; omega
    · rw [Nat.min_eq_right q]
/-- too many to look through, on both sides -/
def tmG (G : pM) : Prop := 20000 < hR G ^ nC G
theorem pwr_G (W : WF G) : 20000 < pwr (hR G) (nC G) 1 ↔ tmG G := by
  unfold tmG
  rcases Nat.eq_zero_or_pos (hR G) with z | z
  · have t0 := R0_T0 W z
    have c0 : nC G = 0 := by have := nC_T G; omega
    rw [c0]; exact Iff.rfl
  · rw [pwr_iff z, Nat.one_mul]
theorem wyW_G (W : WF G) : (wyW (hR G) (nC G) ≤ 20000 ↔ ¬ tmG G) ∧ (¬ tmG G → wyW (hR G) (nC G) = hR G ^ nC G) := by
  unfold tmG
  rcases Nat.eq_zero_or_pos (hR G) with z | z
  · have t0 := R0_T0 W z
    have c0 : nC G = 0 := by have := nC_T G; omega
    rw [c0]
    show (1 ≤ 20000 ↔ ¬ 20000 < 1) ∧ _
    exact ⟨by omega, fun _ => rfl⟩
  · rw [wyW_iff z]
    constructor
    · omega
    · intro h; omega
theorem x_tooMany (hd : 1 ≤ d) (W : WF G) (X : XH M G) (C : CL M G) : (tmG G → xF d 92 [.inr 9] M = rI 1 M) ∧ (¬ tmG G → xF d 92 [.inr 9] M = rI 0 M) := by
  have e := c_tooMany hd W X C
  refine ⟨fun q => ?_, fun q => ?_⟩
  · rw [if_pos ((pwr_G W).mpr q)] at e; exact e
  · rw [if_neg (fun z => q ((pwr_G W).mp z))] at e; exact e
theorem m_tooMG (hd : 3 ≤ d) (hM : gM gAll M) (W : WF G) (X : MH M G) (h38 : M 60 38 = 0) : ∃ M', gM gAll M' ∧ Fr wTM M M' ∧ (tmG G → xF d 228 [.inr 62] M = rI 1 M') ∧ (¬ tmG G → xF d 228 [.inr 62] M = rI 0 M' ∧ SR (pset M' 60 40 (-1)) G 0) := by
  have w2 := W.2.1
  obtain ⟨M', e, r1, r2, r3, r4, r5, r6⟩ := m_tooMuch hd hM (MH_fc W X) X.1 W.1
  have u := (cg_A W (k := hT G) (Nat.le_refl _)).1
  have u' : (fcA (me G) 0 0 (hS G) (hT G)).1 = nC G := u.symm
  rw [u'] at e r3 r4
  obtain ⟨y1, y2⟩ := wyW_G W
  refine ⟨M', r1, r2, fun q => ?_, fun q => ⟨?_, ?_⟩⟩
  · rw [if_neg (fun z => y1.mp z q)] at e; exact e
  · rw [if_pos (y1.mpr q)] at e; exact e
  · have n2 : RWn M' (pset M' 60 40 (-1)) := fun o i _ _ c => by
      unfold pset
      rw [if_neg c]
    refine SR_n (a := (M' 60 40 + 1).toNat) n2 (gM_f r1 (lo := -1) (hi := 1000000) (by decide +kernel) (by omega) (by omega)) (by rw [pset_eq]; rfl) ?_
    have b40 := gm_i r1 60 40 (lo := -1) (hi := 1000000) (by decide +kernel) (by decide +kernel)
    refine ⟨r1, MH_c (fun o i h1 h2 => r2 o i ?_) X, by rw [r2 60 38 (by decide)]; exact h38, r4, by rw [r3, y2 q], by omega, fun t ht => ?_, fun i hi => ?_⟩
    · cases zz : wOK wTM o i with
      | false => rfl
      | true =>
        obtain ⟨w, hw, h3⟩ := List.any_eq_true.mp zz
        rw [Bool.and_eq_true, Bool.or_eq_true] at h3
        unfold wTM at hw
        simp only [List.mem_cons, List.not_mem_nil, or_false] at hw
        rcases hw with rfl | rfl | rfl | rfl
        · have k1 : 60 = o := Nat.eq_of_beq_eq_true h3.1
          rcases h3.2 with h4 | h4
          · have : 30 = i := Nat.eq_of_beq_eq_true h4
            omega
          · cases h4
        · have k1 : 60 = o := Nat.eq_of_beq_eq_true h3.1
          rcases h3.2 with h4 | h4
          · have : 39 = i := Nat.eq_of_beq_eq_true h4
            omega
          · cases h4
        · have k1 : 72 = o := Nat.eq_of_beq_eq_true h3.1
          omega
        · have k1 : 73 = o := Nat.eq_of_beq_eq_true h3.1
          omega
    · rw [r5 t ht, own_O W ht (hT G) (Nat.le_refl _) (rest_k (hT G) t ht)]; rfl
    · rw [r6 i, cmk_M W (hT G) (Nat.le_refl _) hi]; rfl
/-- the class's walk over all clumps -/
def bkG (G : pM) : Nat → Int := bkL G (2 ^ nC G - 1) (nC G)
theorem fnG_bk (c : Nat) : fnW (hR G) (nC G) (G 1) (bkG G) c = fnG G c := by
  unfold fnG fnW
  have e : ∀ r, wlq (bkG G) (dg (hR G) (nC G) c) r (nC G) = wlq (fun i => blk G (cOf G i)) (dg (hR G) (nC G) c) r (nC G) := fun r => sumTo_congr fun i hi => by
    unfold bkG
    rw [bkL_all (nC G) (Nat.le_refl _) hi]
  simp only [e]
theorem WB_G (W : WF G) (q : ¬ tmG G) : WB0 (hR G) (nC G) (G 1) (bkG G) := by
  unfold tmG at q
  refine ⟨?_, W.1, nC_le W, fun r hr => ?_, fun j _ => bkL_range W _ j _, by omega⟩
  · rcases Nat.eq_zero_or_pos (hR G) with z | z
    · have t0 := R0_T0 W z
      have := nC_T G
      exact Or.inr (by omega)
    · exact Or.inl z
  · have := W.2.2.2.1 r hr
    omega
theorem x_startG (hd : 4 ≤ d) (W : WF G) (X : XH M G) (C : CL M G) : ∃ M', (pbI (xF d 69 [.inr 9] M) fun v4 M3 => xF d 160 [.inr 34, .inr 9, .inl v4] M3) = rV M' ∧ WK M' (hR G) (nC G) (G 1) (bkG G) ∧ WF0 M' (hR G) (nC G) ∧ (∀ i, i < 60 → M' 37 i = 0) ∧ ∀ o i, ¬ (32 ≤ o ∧ o ≤ 37) → M' o i = M o i := by
  have n10 := nC_le W
  have p : 2 ^ nC G ≤ 1024 := pow_le_of n10
  have p1 : 1 ≤ 2 ^ nC G := Nat.one_le_two_pow
  obtain ⟨M', e, k, f, t, fr⟩ := x_start hd W X C (some := 2 ^ nC G - 1) (by omega)
  rw [cnt_all (nC G) (Nat.le_refl _)] at k f
  obtain ⟨D, rfl, hD⟩ := dsucc hd
  refine ⟨M', ?_, k, f, t, fr⟩
  rw [T_House_allClumps, C.1, pbI_rI, jshl_one _ (by omega), show (((2 ^ nC G : Nat) : Int) - 1) = ((2 ^ nC G - 1 : Nat) : Int) by omega]
  exact e
end WKG
end
section
/-! fits: what it answers, on both sides -/
section FTS
variable {D d : Nat} {M M' M1 M2 G h : pM} {w1 : List (Nat × Nat)} {v y : Int} {fine : Nat → Bool} {val : Nat → Int}
theorem cnt_to {a b : Nat} (hab : a ≤ b) (h : ∀ c, a ≤ c → c < b → fine c = false) : cntTo fine b = cntTo fine a := by
  obtain ⟨m, rfl⟩ : ∃ m, b = a + m := ⟨b - a, by omega⟩
  clear hab
  induction m with
  | zero => rfl
  | succ m ih =>
    have e : cntTo fine (a + (m + 1)) = if fine (a + m) then cntTo fine (a + m) + 1 else cntTo fine (a + m) := rfl
    rw [e, h (a + m) (by omega) (by omega), if_neg (by decide)]
    exact ih (fun c h1 h2 => h c h1 (by omega))
end FTS
/-! together, may: what they answer, on both sides -/
section TGS
variable {D d R n : Nat} {M M' M1 M2 G h : pM} {w1 : List (Nat × Nat)} {v y : Int} {sz bk : Nat → Int}
theorem WK_n (f : ∀ o i, o ≠ 34 → o ≠ 36 → ¬ (o = 32 ∧ (i = 8 ∨ i = 9)) → M' o i = M o i) (K : WK M R n sz bk) : WK M' R n sz bk := WK_ag f K
end TGS
/-! may: what it answers, on both sides -/
section MAY
variable {D d R n : Nat} {M M' M1 M2 G h : pM} {w1 : List (Nat × Nat)} {v y : Int} {sz bk : Nat → Int}
theorem cmk_has (W : WF h) : ∀ k, k ≤ hT h → ∀ i, i < (cgA h k).1 → ∃ t, t < k ∧ (cmk h k i).testBit t = true
  | 0, _, i, hi => absurd hi (Nat.not_lt_zero i)
  | k + 1, hk, i, hi => by
    have ec : cmk h (k + 1) i = if (cgA h k).2.testBit k = true ∧ i = (cgA h k).1 then cgM h k else cmk h k i := rfl
    rw [ec]
    rw [cgA_succ] at hi
    cases q : (cgA h k).2.testBit k with
    | false =>
      rw [q, if_neg (by decide)] at hi
      rw [if_neg (fun z => by cases z.1)]
      obtain ⟨t, t1, t2⟩ := cmk_has W k (by omega) i hi
      exact ⟨t, by omega, t2⟩
    | true =>
      rw [q, if_pos rfl] at hi
      by_cases y : i = (cgA h k).1
      · rw [if_pos ⟨rfl, y⟩, cg_M W]
        exact ⟨k, Nat.lt_succ_self k, fcX_bit (by rw [pow_bit]; exact decide_eq_true rfl)⟩
      · rw [if_neg (fun z => y z.2)]
        obtain ⟨t, t1, t2⟩ := cmk_has W k (by omega) i (by have : i < (cgA h k).1 + 1 := hi; omega)
        exact ⟨t, by omega, t2⟩
/-- the first thing of a clump -/
theorem ntz_cOf (W : WF h) {i : Nat} (hi : i < nC h) : ∃ t, t < hT h ∧ ntz (cOf h i) = (t : Int) ∧ oOf h t = i := by
  have w2 := W.2.1
  obtain ⟨t, t1, t2⟩ := cmk_has W (hT h) (Nat.le_refl _) i hi
  have t2 : (cOf h i).testBit t = true := t2
  have n0 : cOf h i ≠ 0 := fun z => by rw [z, Nat.zero_testBit] at t2; cases t2
  unfold ntz
  rw [if_neg n0]
  rcases firstN_spec (cOf h i).testBit 10 0 with ⟨-, no⟩ | ⟨j, e, j0, j1, j2, j3⟩
  · rw [no t (by omega) (by omega)] at t2; cases t2
  · have jt : j ≤ t := by
      rcases Nat.lt_or_ge t j with u | u
      · rw [j3 t (by omega) u] at t2; cases t2
      · exact u
    exact ⟨j, by omega, e, (oOf_iff W (by omega) hi).mp j2⟩
end MAY
/-! the class chooses by the bulk in a room -/
section BBK
variable {D d R n : Nat} {M M' M1 M2 G h : pM} {w1 : List (Nat × Nat)} {v y : Int} {sz bk : Nat → Int}
end BBK
/-! fullest: what it answers, on both sides -/
section FUL
variable {D d R n : Nat} {M M' M1 M2 G h : pM} {w1 : List (Nat × Nat)} {v y : Int} {sz bk : Nat → Int} {fine : Nat → Bool} {val : Nat → Int}
end FUL
/-! space: what it answers, on both sides -/
section SPC
variable {D d R n : Nat} {M M' M1 M2 G h : pM} {w1 : List (Nat × Nat)} {v y : Int} {fine : Nat → Bool} {val : Nat → Int}
end SPC
/-! near, guest: the least to be carried, on both sides -/
section NEA
variable {D d R n : Nat} {M M' M1 M2 N G h : pM} {w1 : List (Nat × Nat)} {v y : Int} {sz : Nat → Int} {fine : Nat → Bool} {val : Nat → Int}
end NEA
/-! is there an arrangement at all: of some clumps, with other sizes -/
section EXA
variable {D d R n : Nat} {M M' M1 M2 G h N : pM} {w1 : List (Nat × Nat)} {v y : Int} {sz bk : Nat → Int} {q : Nat → Nat}
end EXA
/-! could: what it answers, on both sides -/
section COU
variable {D d R n : Nat} {M M' M1 M2 G h N : pM} {w1 : List (Nat × Nat)} {v y : Int} {sz bk : Nat → Int}
end COU
/-! build: what it answers, on both sides -/
section BLD
variable {D d R n : Nat} {M M' M1 M2 G h N : pM} {w1 : List (Nat × Nat)} {v y : Int} {sz bk : Nat → Int}
end BLD
/-! sell: the reference's rows when some clumps are sold -/
section SLD
variable {D d R n T C s code W : Nat} {M M' M1 M2 G h N : pM}
end SLD
/-! sell: what it answers, on both sides -/
section SEL
variable {D d : Nat} {M M' M1 M2 G h N : pM} {w1 : List (Nat × Nat)} {v y : Int}
end SEL
end
section
/-! which letter a sign is -/
section SIX
variable {D d : Nat} {M : pM}
end SIX
/-! a rule is read -/
section XRU
variable {tx : Nat → Int} {st d D : Nat} {M M' : pM} {lv : Int → Int}
end XRU
/-! rule: what it answers and what it keeps, on both sides -/
section RUL
variable {tx : Nat → Int} {st d D L : Nat} {M M' M1 M2 N : pM} {lv lv' : Int → Int} {w1 : List (Nat × Nat)} {v y : Int}
def X3 (M M' : pM) : Prop := ∀ o i, ¬ (o = 3 ∧ (i = 1 ∨ i = 2 ∨ i = 3)) → M' o i = M o i
end RUL
/-! the reader of the rule that is kept: as 78a and 85b (by program) -/
section YR
variable {tx : Nat → Int} {st d : Nat} {M : pM}
end YR
section YRU
variable {tx : Nat → Int} {st d D : Nat} {M M' : pM} {lv : Int → Int}
end YRU
/-! what a thing is worth in a room, on both sides -/
section WOR
variable {tx : Nat → Int} {d D L : Nat} {M M' M1 M2 N G : pM} {w1 w2 : List (Nat × Nat)} {v y : Int} {lv : Int → Int}
def ct (o i : Nat) : Bool := (Nat.beq o 28 && Nat.beq i 1) || Nat.beq o 29 || (Nat.beq o 60 && Nat.beq i 25) || Nat.beq o 71
end WOR
/-! thing: what it answers, on both sides -/
section THI
variable {tx : Nat → Int} {d D L : Nat} {M M' M1 M2 N G : pM} {w1 : List (Nat × Nat)} {v y : Int}
end THI
/-! best: what it answers, on both sides -/
section BES
variable {tx : Nat → Int} {d D L : Nat} {M M' M1 M2 N G : pM} {w1 : List (Nat × Nat)} {v y : Int}
end BES
end
