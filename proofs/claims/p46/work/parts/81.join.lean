section
/-! what both sides hold stays the same -/
def CI (M : pM) : Prop := ∃ G, XG M G ∧ MG M G
section CIS
variable {M M1 M2 G : pM} {w1 w2 : List (Nat × Nat)} {v y : Int}
theorem ci_Fr {w : List (Nat × Nat)} (f : Fr w M M1) (h1 : okW cx cxo w = true) (h2 : okW cm cmo w = true) (C : CI M) : CI M1 := by
  obtain ⟨G, X, Y⟩ := C
  exact ⟨G, XG_Fr f h1 X, MG_Fr f h2 Y⟩
theorem ci_facts (R : RI0 M) (X : XG M G) (Y : MG M G) : WF G ∧ (0 ≤ G 9 0 ∧ G 9 0 ≤ 20) ∧ (∀ k : Nat, (k : Int) < G 9 0 → 0 ≤ G 10 k ∧ G 10 k ≤ 9) ∧ ∀ i, i < 2 → 0 ≤ G 13 i ∧ G 13 i ≤ 1 := by
  have b33 := gm_i R.1 60 33 (lo := 0) (hi := 20) (by decide +kernel) (by decide +kernel)
  rw [Y.2.2.1.1] at b33
  refine ⟨WF_MH R.1 R.2.2.1 Y.1, b33, fun k hk => ?_, fun i hi => ?_⟩
  · rw [← (Y.2.2.1.2 k hk).1]
    exact gR0 (by rw [← (g75 k (by omega)).1]; exact R.1 75 (3 * k) (p75 (by omega)).1)
  · have := (X.2.2.2 i hi).1
    rw [← this]
    rcases (show i = 0 ∨ i = 1 by omega) with rfl | rfl
    · exact gm_i R.1 44 1 (lo := 0) (hi := 1) (by decide +kernel) (by decide +kernel)
    · exact gm_i R.1 46 1 (lo := 0) (hi := 1) (by decide +kernel) (by decide +kernel)
theorem kc_widen (R : RI0 M) (C : CI M) {a1 a2 a3 : Int} (h1 : -2147483648 ≤ a1 ∧ a1 ≤ 2147483647) (h2 : -2147483648 ≤ a2 ∧ a2 ≤ 2147483647) (h3 : -2147483648 ≤ a3 ∧ a3 ≤ 2147483647) (e1 : xF 1000 8 [.inr 2, .inl a1, .inl a2, .inl a3] M = rI v M1) (f1 : Fr w1 M M1) (k1 : okW cm cmo w1 = true) (e2 : xF 1000 204 [.inr 62, .inl a1, .inl a2, .inl a3] M1 = rI y M2) (f2 : Fr w2 M1 M2) (k2 : okW cx cxo w2 = true) : v = y ∧ CI M2 := by
  obtain ⟨G, X, Y⟩ := C
  obtain ⟨W, -⟩ := ci_facts R X Y
  obtain ⟨p1, p2⟩ := x_widen (d := 1000) (by decide) W X h1 h2 h3 e1
  obtain ⟨q1, q2⟩ := m_widen (d := 1000) (by decide) W (MG_Fr f1 k1 Y) h1 h2 h3 e2
  by_cases q : wdC G a1 a2 a3
  · exact ⟨by rw [(p1 q).1, (q1 q).1], _, XG_Fr f2 k2 (p1 q).2, (q1 q).2⟩
  · exact ⟨by rw [(p2 q).1, (q2 q).1], _, XG_Fr f2 k2 (p2 q).2, (q2 q).2⟩
theorem kc_sheet (R : RI0 M) (C : CI M) {a1 a2 a3 a4 : Int} (h1 : -2147483648 ≤ a1 ∧ a1 ≤ 2147483647) (h2 : -2147483648 ≤ a2 ∧ a2 ≤ 2147483647) (e1 : xF 1000 10 [.inr 2, .inl a1, .inl a2, .inl a3, .inl a4] M = rI v M1) (f1 : Fr w1 M M1) (k1 : okW cm cmo w1 = true) (e2 : xF 1000 206 [.inr 62, .inl a1, .inl a2, .inl a3, .inl a4] M1 = rI y M2) (f2 : Fr w2 M1 M2) (k2 : okW cx cxo w2 = true) : v = y ∧ CI M2 := by
  obtain ⟨G, X, Y⟩ := C
  obtain ⟨W, -⟩ := ci_facts R X Y
  obtain ⟨p1, p2⟩ := xg_sheet (d := 1000) (by decide) W X h1 h2 e1
  obtain ⟨q1, q2⟩ := mg_sheet (d := 1000) (by decide) W (MG_Fr f1 k1 Y) h1 h2 e2
  exact ⟨by rw [p1, q1], _, XG_Fr f2 k2 p2, q2⟩
theorem kc_breaks (R : RI0 M) (C : CI M) (R1 : RI0 M1) {a1 : Int} (h1 : -2147483648 ≤ a1 ∧ a1 ≤ 2147483647) (e1 : xF 1000 19 [.inr 2, .inl a1] M = rI v M1) (f1 : Fr w1 M M1) (k1 : okW cm cmo w1 = true) (e2 : xF 1000 226 [.inr 62, .inl a1] M1 = rI y M2) (f2 : Fr w2 M1 M2) (k2 : okW cx cxo w2 = true) : CI M2 := by
  obtain ⟨G, X, Y⟩ := C
  obtain ⟨W, -⟩ := ci_facts R X Y
  obtain ⟨p1, p2⟩ := xg_breaks (d := 1000) (by decide) W R.1 X h1 e1
  obtain ⟨q1, q2⟩ := mg_breaks (d := 1000) (by decide) W R1.1 (MG_Fr f1 k1 Y) h1 e2
  by_cases q : 0 ≤ a1 ∧ a1 < hT G
  · exact ⟨_, XG_Fr f2 k2 (p1 q), q1 q⟩
  · exact ⟨_, XG_Fr f2 k2 (p2 q).2, (q2 q).2⟩
theorem kc_carry (R : RI0 M) (C : CI M) {a1 a2 : Int} (h1 : -2147483648 ≤ a1 ∧ a1 ≤ 2147483647) (h2 : -2147483648 ≤ a2 ∧ a2 ≤ 2147483647) (e1 : xF 1000 11 [.inr 2, .inl a1, .inl a2] M = rI v M1) (f1 : Fr w1 M M1) (k1 : okW cm cmo w1 = true) (e2 : xF 1000 216 [.inr 62, .inl a1, .inl a2] M1 = rI y M2) (f2 : Fr w2 M1 M2) (k2 : okW cx cxo w2 = true) : v = y ∧ CI M2 := by
  obtain ⟨G, X, Y⟩ := C
  obtain ⟨W, hn, -⟩ := ci_facts R X Y
  obtain ⟨p0, p1, p2⟩ := xg_carry (d := 1000) (by decide) W X hn h1 h2 e1
  obtain ⟨q0, q1, q2⟩ := mg_carry (d := 1000) (by decide) W (MG_Fr f1 k1 Y) hn h1 h2 e2
  by_cases q : 0 ≤ attF G (G 6) (G 8 1) a1 a2
  · exact ⟨by rw [p0, q0], _, XG_Fr f2 k2 (p1 q), q1 q⟩
  · exact ⟨by rw [p0, q0], _, XG_Fr f2 k2 (p2 (by omega)), q2 (by omega)⟩
theorem kc_evening (R : RI0 M) (C : CI M) (e1 : xF 1000 12 [.inr 2] M = rI v M1) (f1 : Fr w1 M M1) (k1 : okW cm cmo w1 = true) (e2 : xF 1000 218 [.inr 62] M1 = rI y M2) (f2 : Fr w2 M1 M2) (k2 : okW cx cxo w2 = true) : v = y ∧ CI M2 := by
  obtain ⟨G, X, Y⟩ := C
  obtain ⟨W, -⟩ := ci_facts R X Y
  obtain ⟨p1, p2⟩ := xg_evening (d := 1000) (by decide) W X e1
  obtain ⟨q1, q2⟩ := mg_evening (d := 1000) (by decide) W (MG_Fr f1 k1 Y) e2
  by_cases q : lwf G (G 6)
  · exact ⟨by rw [(p1 q).1, (q1 q).1], _, XG_Fr f2 k2 (p1 q).2, (q1 q).2⟩
  · exact ⟨by rw [(p2 q).1, (q2 q).1], _, XG_Fr f2 k2 (p2 q).2, (q2 q).2⟩
theorem kc_undo (R : RI0 M) (C : CI M) (e1 : xF 1000 14 [.inr 2] M = rI v M1) (f1 : Fr w1 M M1) (k1 : okW cm cmo w1 = true) (e2 : xF 1000 220 [.inr 62] M1 = rI y M2) (f2 : Fr w2 M1 M2) (k2 : okW cx cxo w2 = true) : v = y ∧ CI M2 := by
  obtain ⟨G, X, Y⟩ := C
  obtain ⟨W, hn, hu, -⟩ := ci_facts R X Y
  obtain ⟨p1, p2⟩ := xg_undo (d := 1000) (by decide) W X hn hu e1
  obtain ⟨q1, q2⟩ := mg_undo (d := 1000) (by decide) (MG_Fr f1 k1 Y) hn hu e2
  by_cases q : G 9 0 = 0
  · exact ⟨by rw [(p2 q).1, (q2 q).1], _, XG_Fr f2 k2 (p2 q).2, (q2 q).2⟩
  · exact ⟨by rw [(p1 q).1, (q1 q).1], _, XG_Fr f2 k2 (p1 q).2, (q1 q).2⟩
theorem kc_judge (R : RI0 M) (C : CI M) {a1 a2 : Int} (h1 : -2147483648 ≤ a1 ∧ a1 ≤ 2147483647) (e1 : xF 1000 15 [.inr 2, .inl a1, .inl a2] M = rI v M1) (f1 : Fr w1 M M1) (k1 : okW cm cmo w1 = true) (k3 : okW cx cxo w1 = true) (e2 : xF 1000 221 [.inr 62, .inl a1, .inl a2] M1 = rI y M2) (f2 : Fr w2 M1 M2) (k2 : okW cx cxo w2 = true) : v = y ∧ CI M2 := by
  obtain ⟨G, X, Y⟩ := C
  obtain ⟨W, -⟩ := ci_facts R X Y
  have p1 := xg_judge (d := 1000) (by decide) W X h1 e1
  obtain ⟨q1, q2⟩ := mg_judge (d := 1000) (by decide) W (MG_Fr f1 k1 Y) h1 e2
  exact ⟨by rw [p1, q1], _, XG_Fr f2 k2 (XG_Fr f1 k3 X), q2⟩
theorem kc_hinge (R : RI0 M) (C : CI M) {a1 : Int} (h1 : -2147483648 ≤ a1 ∧ a1 ≤ 2147483647) (e1 : xF 1000 37 [.inr 2, .inl a1] M = rI v M1) (f1 : Fr w1 M M1) (k1 : okW cm cmo w1 = true) (e2 : xF 1000 254 [.inr 62, .inl a1] M1 = rI y M2) (f2 : Fr w2 M1 M2) (k2 : okW cx cxo w2 = true) : v = y ∧ CI M2 := by
  obtain ⟨G, X, Y⟩ := C
  obtain ⟨W, -⟩ := ci_facts R X Y
  obtain ⟨p1, p2⟩ := xg_hinge (d := 1000) (by decide) W X h1 e1
  obtain ⟨q1, q2⟩ := mg_hinge (d := 1000) (by decide) W (MG_Fr f1 k1 Y) h1 e2
  exact ⟨by rw [p1, q1], _, XG_Fr f2 k2 p2, q2⟩
theorem kc_keep (R : RI0 M) (C : CI M) {a1 : Int} (h1 : -2147483648 ≤ a1 ∧ a1 ≤ 2147483647) (e1 : xF 1000 43 [.inr 2, .inl a1] M = rI v M1) (f1 : Fr w1 M M1) (k1 : okW cm cmo w1 = true) (e2 : xF 1000 266 [.inr 62, .inl a1] M1 = rI y M2) (f2 : Fr w2 M1 M2) (k2 : okW cx cxo w2 = true) : CI M2 := by
  obtain ⟨G, X, Y⟩ := C
  obtain ⟨W, -⟩ := ci_facts R X Y
  obtain ⟨p1, p2⟩ := xg_keep (d := 1000) (by decide) W X h1.1 h1.2 e1
  obtain ⟨q1, q2⟩ := mg_keep (d := 1000) (by decide) W (MG_Fr f1 k1 Y) h1.1 h1.2 e2
  by_cases q : 0 ≤ a1 ∧ a1 ≤ 1
  · exact ⟨_, XG_Fr f2 k2 (p1 q), q1 q⟩
  · exact ⟨_, XG_Fr f2 k2 (p2 q), q2 q⟩
theorem kc_again (R : RI0 M) (C : CI M) (R1 : RI0 M1) {a1 : Int} (h1 : -2147483648 ≤ a1 ∧ a1 ≤ 2147483647) (e1 : xF 1000 44 [.inr 2, .inl a1] M = rI v M1) (f1 : Fr w1 M M1) (k1 : okW cm cmo w1 = true) (e2 : xF 1000 267 [.inr 62, .inl a1] M1 = rI y M2) (f2 : Fr w2 M1 M2) (k2 : okW cx cxo w2 = true) : v = y ∧ CI M2 := by
  obtain ⟨G, X, Y⟩ := C
  obtain ⟨W, -, -, hk⟩ := ci_facts R X Y
  obtain ⟨p1, p2⟩ := xg_again (d := 1000) (by decide) W R.1 X h1.1 h1.2 e1
  obtain ⟨q1, q2⟩ := mg_again (d := 1000) (by decide) W R1 (MG_Fr f1 k1 Y) hk h1.1 h1.2 e2
  by_cases q : agC G a1
  · exact ⟨by rw [(p1 q).1, (q1 q).1], _, XG_Fr f2 k2 (p1 q).2, (q1 q).2⟩
  · exact ⟨by rw [(p2 q).1, (q2 q).1], _, XG_Fr f2 k2 (p2 q).2, (q2 q).2⟩
/-- the texts are the same -/
def TI (M : pM) : Prop := M 1 1 = M 60 14 ∧ ∀ i, i < 80 → M 2 i = ux (M 68 i)
theorem kc_house (R : RI0 M) (C : CI M) (T : TI M) (R1 : RI0 M1) (e1 : xF 1000 2 [.inr 2] M = rI v M1) (f1 : Fr w1 M M1) (k1 : okW cm cmo w1 = true) (k3 : w1.all (fun q => decide (q.1 ≠ 0 ∧ (q.1 < 40 ∨ 47 < q.1))) = true) (k5 : wOK w1 60 14 = false) (k6 : ∀ i, wOK w1 68 i = false) (e2 : xF 1000 184 [.inr 62] M1 = rI y M2) (f2 : Fr w2 M1 M2) (k2 : okW cx cxo w2 = true) : v = y ∧ CI M2 ∧ M1 60 0 ≤ M2 60 0 := by
  obtain ⟨G, X, Y⟩ := C
  obtain ⟨W, -⟩ := ci_facts R X Y
  have b0 := gm_i R.1 1 1 (lo := 0) (hi := 80) (by decide +kernel) (by decide +kernel)
  obtain ⟨L, hL⟩ := natI b0.1
  have htx : ∀ i, i < 80 → -128 ≤ M 68 i ∧ M 68 i ≤ 127 := fun i hi => gm_r R.1 (o := 68) (lo := -128) (hi := 127) (by decide +kernel) (by decide +kernel) (show i < 80 from hi)
  obtain ⟨p0, p1, p2⟩ := xg_house (tx := fun i => M 68 i) (L := L) (d := 1000) (by decide) W R.1 X hL T.2 htx e1 (fun o i hc n1 n2 => f1 o i (by
    cases z : wOK w1 o i with
    | false => rfl
    | true =>
      obtain ⟨r, hr, h2⟩ := List.any_eq_true.mp z
      rw [Bool.and_eq_true] at h2
      have e := Nat.eq_of_beq_eq_true h2.1
      have k := of_decide_eq_true (List.all_eq_true.mp k3 r hr)
      rw [e] at k
      exfalso
      unfold cx at hc
      simp only [Bool.or_eq_true, Bool.and_eq_true, Nat.beq_eq, Nat.ble_eq] at hc
      omega))
  obtain ⟨q0, q1, q2, q3⟩ := mg_house (tx := fun i => M 68 i) (L := L) (d := 1000) (by decide) W R1.1 (MG_Fr f1 k1 Y) (by rw [f1 60 14 k5, ← T.1]; exact hL) (fun i _ => f1 68 i (k6 i)) e2
  by_cases q : hsN (fun i => M 68 i) L G
  · exact ⟨by rw [p0, q0], ⟨_, XG_Fr f2 k2 (p1 q), q1 q⟩, q3⟩
  · exact ⟨by rw [p0, q0], ⟨_, XG_Fr f2 k2 (p2 q), q2 q⟩, q3⟩
theorem kc_day (R : RI0 M) (C : CI M) (T : TI M) (e1 : xF 1000 13 [.inr 2] M = rI v M1) (f1 : Fr w1 M M1) (k1 : okW cm cmo w1 = true) (k5 : wOK w1 60 14 = false) (k6 : ∀ i, wOK w1 68 i = false) (e2 : xF 1000 219 [.inr 62] M1 = rI y M2) (f2 : Fr w2 M1 M2) (k2 : okW cx cxo w2 = true) : v = y ∧ CI M2 := by
  obtain ⟨G, X, Y⟩ := C
  obtain ⟨W, hn, -⟩ := ci_facts R X Y
  have b0 := gm_i R.1 1 1 (lo := 0) (hi := 80) (by decide +kernel) (by decide +kernel)
  obtain ⟨L, hL⟩ := natI b0.1
  have htx : ∀ i, i < 80 → -128 ≤ M 68 i ∧ M 68 i ≤ 127 := fun i hi => gm_r R.1 (o := 68) (lo := -128) (hi := 127) (by decide +kernel) (by decide +kernel) (show i < 80 from hi)
  obtain ⟨p1, p2⟩ := xg_day (tx := fun i => M 68 i) (L := L) (d := 1000) (by decide) W X hn (by omega) hL T.2 htx e1
  obtain ⟨q1, q2⟩ := mg_day (tx := fun i => M 68 i) (L := L) (d := 1000) (by decide) W (MG_Fr f1 k1 Y) hn (by omega) (by rw [f1 60 14 k5, ← T.1]; exact hL) (fun i _ => f1 68 i (k6 i)) htx e2
  by_cases q : dyF (fun i => M 68 i) L = -1
  · obtain ⟨r0, r1, r2⟩ := p2 q
    obtain ⟨s0, s1, s2⟩ := q2 q
    by_cases z : (dyRun (fun i => M 68 i) ((L + 1) / 4) 0 G).1 = (L + 1) / 4 ∧ lwf (dyRun (fun i => M 68 i) ((L + 1) / 4) 0 G).2 ((dyRun (fun i => M 68 i) ((L + 1) / 4) 0 G).2 6)
    · exact ⟨by rw [r0, s0], _, XG_Fr f2 k2 (r1 z), s1 z⟩
    · exact ⟨by rw [r0, s0], _, XG_Fr f2 k2 (r2 z), s2 z⟩
  · exact ⟨by rw [(p1 q).1, (q1 q).1], _, XG_Fr f2 k2 (p1 q).2, (q1 q).2⟩
/-! strength -/
def gStr (G : pM) (v : Int) : pM := fun o i => if o = 8 ∧ i = 2 then v else G o i
theorem kc_strength (C : CI M) (f1 : Fr [(0, 17)] M M1) (f2 : Fr [(60, 12), (60, 17)] M1 M2) (e : M1 0 17 = M2 60 12) : CI M2 := by
  obtain ⟨G, X, Y⟩ := C
  have e17 : M2 0 17 = M2 60 12 := by rw [f2 0 17 (by decide)]; exact e
  have eM : ∀ o i, ¬ (o = 0 ∧ i = 17) → ¬ (o = 60 ∧ (i = 12 ∨ i = 17)) → M2 o i = M o i := fun o i a b => by
    rw [f2 o i, f1 o i]
    · cases z : wOK [(0, 17)] o i with
      | false => rfl
      | true =>
        obtain ⟨r, hr, h2⟩ := List.any_eq_true.mp z
        rw [Bool.and_eq_true, Bool.or_eq_true] at h2
        rw [List.mem_singleton.mp hr] at h2
        rcases h2.2 with y | y
        · exact absurd ⟨(Nat.eq_of_beq_eq_true h2.1).symm, (Nat.eq_of_beq_eq_true y).symm⟩ a
        · exact absurd y (by decide)
    · cases z : wOK [(60, 12), (60, 17)] o i with
      | false => rfl
      | true =>
        obtain ⟨r, hr, h2⟩ := List.any_eq_true.mp z
        rw [Bool.and_eq_true, Bool.or_eq_true] at h2
        simp only [List.mem_cons, List.not_mem_nil, or_false] at hr
        rcases hr with rfl | rfl
        · rcases h2.2 with y | y
          · exact absurd ⟨(Nat.eq_of_beq_eq_true h2.1).symm, Or.inl (Nat.eq_of_beq_eq_true y).symm⟩ b
          · exact absurd y (by decide)
        · rcases h2.2 with y | y
          · exact absurd ⟨(Nat.eq_of_beq_eq_true h2.1).symm, Or.inr (Nat.eq_of_beq_eq_true y).symm⟩ b
          · exact absurd y (by decide)
  have g : ∀ o i, o ≠ 8 → gStr G (M2 60 12) o i = G o i := fun o i h => if_neg (fun z => h z.1)
  refine ⟨gStr G (M2 60 12), ?_, ?_⟩
  · obtain ⟨H, ⟨d1, d2, d3⟩, ⟨p1, p2⟩, k⟩ := X
    refine ⟨XH_cg (fun o i ho => g o i (by omega)) (XH_eq H (fun o i a b c => eM o i (by omega) (by omega))), ⟨?_, ?_, ?_⟩, ⟨?_, fun j hj => ?_⟩, fun i hi => ?_⟩
    · rw [eM 0 15 (by omega) (by omega)]; exact d1
    · rw [eM 0 16 (by omega) (by omega)]; exact d2
    · rw [e17]; exact (if_pos ⟨rfl, rfl⟩).symm
    · rw [eM 39 3 (by omega) (by omega)]; exact p1
    · rw [eM 40 j (by omega) (by omega), eM 41 j (by omega) (by omega), eM 42 j (by omega) (by omega)]; exact p2 j hj
    · have a : ∀ j, M2 (44 + 2 * i) j = M (44 + 2 * i) j := fun j => eM _ j (by omega) (by omega)
      have b : ∀ j, M2 (45 + 2 * i) j = M (45 + 2 * i) j := fun j => eM _ j (by omega) (by omega)
      have g16 : ∀ j, gStr G (M2 60 12) (16 + i) j = G (16 + i) j := fun j => g _ j (by omega)
      simp only [a, b, g16, g 13 i (by decide), g 14 i (by decide), g 15 i (by decide), g 18 i (by decide), g 19 i (by decide)]
      exact k i hi
  · obtain ⟨H, ⟨d1, d2, d3⟩, ⟨p1, p2⟩, k⟩ := Y
    refine ⟨MH_cg (fun o i ho => g o i (by omega)) ?_, ⟨?_, ?_, (if_pos ⟨rfl, rfl⟩).symm⟩, ⟨?_, fun j hj => ?_⟩, fun i hi => ?_⟩
    · obtain ⟨x1, x2, x3, x4, x5, x6, x7⟩ := H
      exact ⟨by rw [eM 60 0 (by omega) (by omega)]; exact x1, by rw [eM 60 3 (by omega) (by omega)]; exact x2, by rw [eM 60 8 (by omega) (by omega)]; exact x3, fun r hr => by rw [eM 61 r (by omega) (by omega)]; exact x4 r hr, fun p hp => by rw [eM 62 p (by omega) (by omega)]; exact x5 p hp, fun t ht => by rw [eM 63 t (by omega) (by omega), eM 64 t (by omega) (by omega), eM 65 t (by omega) (by omega), eM 66 t (by omega) (by omega)]; exact x6 t ht, fun s hs => by rw [eM 67 s (by omega) (by omega)]; exact x7 s hs⟩
    · rw [eM 60 10 (by omega) (by omega)]; exact d1
    · rw [eM 60 11 (by omega) (by omega)]; exact d2
    · rw [eM 60 33 (by omega) (by omega)]; exact p1
    · rw [eM 75 _ (by omega) (by omega), eM 75 _ (by omega) (by omega), eM 75 _ (by omega) (by omega)]; exact p2 j hj
    · have a : ∀ j, M2 87 j = M 87 j := fun j => eM 87 j (by omega) (by omega)
      have b : ∀ j, M2 88 j = M 88 j := fun j => eM 88 j (by omega) (by omega)
      have c : ∀ j, M2 89 j = M 89 j := fun j => eM 89 j (by omega) (by omega)
      have g16 : ∀ j, gStr G (M2 60 12) (16 + i) j = G (16 + i) j := fun j => g _ j (by omega)
      simp only [a, b, c, eM 60 52 (by omega) (by omega), g16, g 13 i (by decide), g 14 i (by decide), g 15 i (by decide), g 18 i (by decide), g 19 i (by decide)]
      exact k i hi
end CIS
/-! what the small questions are answered: room, set, door -/
section ASK
variable {D d : Nat} {M M' G : pM}
end ASK
/-! the texts and the aim stay the same on both sides -/
def cw (o i : Nat) : Bool := (Nat.beq o 1 && Nat.beq i 1) || Nat.beq o 2 || (Nat.beq o 60 && Nat.beq i 14) || Nat.beq o 68
def cwo (o : Nat) : Bool := Nat.beq o 1 || Nat.beq o 2 || Nat.beq o 60 || Nat.beq o 68
theorem cw_o (o i : Nat) (h : cw o i = true) : cwo o = true := by
  unfold cw at h
  unfold cwo
  simp only [Bool.or_eq_true, Bool.and_eq_true] at h ⊢
  rcases h with ((h | h) | h) | h
  · exact Or.inl (Or.inl (Or.inl h.1))
  · exact Or.inl (Or.inl (Or.inr h))
  · exact Or.inl (Or.inr h.1)
  · exact Or.inr h
def cl (o i : Nat) : Bool := Nat.beq o 2 || Nat.beq o 68
theorem cl_o (o i : Nat) (h : cl o i = true) : (Nat.beq o 2 || Nat.beq o 68) = true := h
/-- the aim is the same, and it is one of rooms that are there -/
def GA (M : pM) : Prop := (M 0 14 = 0 ∧ M 60 44 = 0) ∨ (0 < M 0 14 ∧ M 60 44 = 1 ∧ M 60 43 = M 0 14 ∧ ∀ t : Nat, (t : Int) < M 0 14 → M 58 t = M 81 t ∧ 0 ≤ M 58 t ∧ M 58 t < M 60 0)
def cg (o i : Nat) : Bool := (Nat.beq o 0 && Nat.beq i 14) || Nat.beq o 58 || (Nat.beq o 60 && (Nat.beq i 43 || Nat.beq i 44)) || Nat.beq o 81
def cgo (o : Nat) : Bool := Nat.beq o 0 || Nat.beq o 58 || Nat.beq o 60 || Nat.beq o 81
theorem cg_o (o i : Nat) (h : cg o i = true) : cgo o = true := by
  unfold cg at h
  unfold cgo
  simp only [Bool.or_eq_true, Bool.and_eq_true] at h ⊢
  rcases h with ((h | h) | h) | h
  · exact Or.inl (Or.inl (Or.inl h.1))
  · exact Or.inl (Or.inl (Or.inr h))
  · exact Or.inl (Or.inr h.1)
  · exact Or.inr h
section TXS
variable {M M1 M2 : pM} {w w1 w2 : List (Nat × Nat)} {v y : Int}
theorem TI_Fr (f : Fr w M M1) (h : okW cw cwo w = true) (T : TI M) : TI M1 := by
  have e : ∀ o i, cw o i = true → M1 o i = M o i := fun o i q => f o i (okW_no cw_o h q)
  exact ⟨by rw [e 1 1 rfl, e 60 14 rfl]; exact T.1, fun i hi => by rw [e 2 i rfl, e 68 i rfl]; exact T.2 i hi⟩
theorem TI_0 (T : TI M) (f1 : Fr w1 M M1) (h1 : okW cl (fun o => Nat.beq o 2 || Nat.beq o 68) w1 = true) (k1 : M1 1 1 = 0) (f2 : Fr w2 M1 M2) (h2 : okW cl (fun o => Nat.beq o 2 || Nat.beq o 68) w2 = true) (h3 : wOK w2 1 1 = false) (k2 : M2 60 14 = 0) : TI M2 := by
  have e1 : ∀ o i, cl o i = true → M1 o i = M o i := fun o i q => f1 o i (okW_no cl_o h1 q)
  have e2 : ∀ o i, cl o i = true → M2 o i = M1 o i := fun o i q => f2 o i (okW_no cl_o h2 q)
  exact ⟨by rw [f2 1 1 h3, k1, k2], fun i hi => by rw [e2 2 i rfl, e1 2 i rfl, e2 68 i rfl, e1 68 i rfl]; exact T.2 i hi⟩
theorem GA_Fr (f : Fr w M M1) (h : okW cg cgo w = true) (h0 : M 60 0 ≤ M1 60 0) (A : GA M) : GA M1 := by
  have e : ∀ o i, cg o i = true → M1 o i = M o i := fun o i q => f o i (okW_no cg_o h q)
  unfold GA at A ⊢
  rw [e 0 14 rfl, e 60 43 rfl, e 60 44 rfl]
  rcases A with A | ⟨a1, a2, a3, a4⟩
  · exact Or.inl A
  · refine Or.inr ⟨a1, a2, a3, fun t ht => ?_⟩
    obtain ⟨b1, b2, b3⟩ := a4 t ht
    rw [e 58 t rfl, e 81 t rfl]
    exact ⟨b1, b2, by omega⟩
theorem ge_of (f : Fr w M M1) (h : wOK w 60 0 = false) : M 60 0 ≤ M1 60 0 := by rw [f 60 0 h]; exact Int.le_refl _
theorem kc_sign (R : RI0 M) (T : TI M) {a1 : Int} (e1 : xF 1000 0 [.inr 2, .inl a1] M = rI v M1) (f1 : Fr w1 M M1) (k5 : wOK w1 60 14 = false) (k6 : ∀ i, wOK w1 68 i = false) (e2 : xF 1000 175 [.inr 62, .inl a1] M1 = rI y M2) (f2 : Fr w2 M1 M2) (k1 : wOK w2 1 1 = false) (k2 : ∀ i, wOK w2 2 i = false) : v = y ∧ TI M2 := by
  have b0 := gm_i R.1 1 1 (lo := 0) (hi := 80) (by decide +kernel) (by decide +kernel)
  obtain ⟨L, hL⟩ := natI b0.1
  have t1 := c_sign (d := 1000) (by decide) hL (by omega) (b := a1)
  have hL2 : M1 60 14 = (L : Int) := by rw [f1 60 14 k5, ← T.1]; exact hL
  have t2 := m_sign (d := 1000) (by decide) hL2 (by omega) (b := a1)
  rw [e1] at t1
  rw [e2] at t2
  by_cases q : L + 4 ≤ 80
  · rw [if_pos q] at t1 t2
    refine ⟨by rw [(rI_inj t1).1, (rI_inj t2).1], ?_, fun i hi => ?_⟩
    · rw [f2 1 1 k1, (rI_inj t1).2, (rI_inj t2).2, tapp_len (by decide), tapp_len (by decide)]
    · have m2 : M2 2 i = M1 2 i := f2 2 i (k2 i)
      have m68 : M1 68 i = M 68 i := f1 68 i (k6 i)
      rw [m2, (rI_inj t1).2, (rI_inj t2).2]
      unfold tapp
      by_cases z : L ≤ i ∧ i < L + 4
      · rw [if_pos ⟨rfl, z⟩, if_pos ⟨rfl, z⟩]; exact sg_ux a1 (i - L) (by omega)
      · rw [if_neg (fun y => z y.2), if_neg (fun y => absurd y.1 (by decide)), if_neg (fun y => z y.2), if_neg (fun y => absurd y.1 (by decide)), pset_ne (show 68 ≠ 60 by decide), m68]
        exact T.2 i hi
  · rw [if_neg q] at t1 t2
    refine ⟨by rw [(rI_inj t1).1, (rI_inj t2).1], ?_, fun i hi => ?_⟩
    · rw [f2 1 1 k1, (rI_inj t2).2, pset_ne2 (show 14 ≠ 17 by decide), hL2, (rI_inj t1).2, hL]
    · have m2 : M2 2 i = M1 2 i := f2 2 i (k2 i)
      have m68 : M1 68 i = M 68 i := f1 68 i (k6 i)
      rw [m2, (rI_inj t2).2, pset_ne (show 68 ≠ 60 by decide), m68, (rI_inj t1).2]
      exact T.2 i hi
theorem kc_end (R : RI0 M) (T : TI M) {a1 : Int} (h1 : -2147483648 ≤ a1 ∧ a1 ≤ 2147483647) (e1 : xF 1000 1 [.inr 2, .inl a1] M = rI v M1) (f1 : Fr w1 M M1) (k5 : wOK w1 60 14 = false) (e2 : xF 1000 176 [.inr 62, .inl a1] M1 = rI y M2) (f2 : Fr w2 M1 M2) (k1 : wOK w2 1 1 = false) (l1 : okW cl (fun o => Nat.beq o 2 || Nat.beq o 68) w1 = true) (l2 : okW cl (fun o => Nat.beq o 2 || Nat.beq o 68) w2 = true) : v = y ∧ TI M2 := by
  have b0 := gm_i R.1 1 1 (lo := 0) (hi := 80) (by decide +kernel) (by decide +kernel)
  have k60 : M1 60 14 = M 1 1 := by rw [f1 60 14 k5]; exact T.1.symm
  have g1 : ∀ o i, cl o i = true → M1 o i = M o i := fun o i q => f1 o i (okW_no cl_o l1 q)
  have g2 : ∀ o i, cl o i = true → M2 o i = M1 o i := fun o i q => f2 o i (okW_no cl_o l2 q)
  have lt : ∀ i, i < 80 → M2 2 i = ux (M2 68 i) := fun i hi => by rw [g2 2 i rfl, g1 2 i rfl, g2 68 i rfl, g1 68 i rfl]; exact T.2 i hi
  have t1 : xF (999 + 1) 1 [.inr 2, .inl a1] M = rI v M1 := e1
  have t2 : xF (999 + 1) 176 [.inr 62, .inl a1] M1 = rI y M2 := e2
  rw [T_X_end, x_cut (by decide) h1.1 (by omega) R.1] at t1
  rw [T_M_end, m_in (by decide), pbI_rI, pset_ne2 (show 14 ≠ 17 by decide), k60] at t2
  by_cases q : 0 ≤ a1 ∧ a1 ≤ M 1 1
  · rw [if_pos q, pbI_rI, if_pos (Or.inr rfl)] at t1
    have hz : ¬ (lt32 a1 0 ∨ lt32 (M 1 1) a1) := by
      rw [lt32_iff (by omega) (by omega) (by omega) (by omega), lt32_iff (by omega) (by omega) (by omega) (by omega)]
      omega
    rw [if_neg hz, if_pos (by decide)] at t2
    exact ⟨by rw [← (rI_inj t1).1, ← (rI_inj t2).1], by rw [f2 1 1 k1, ← (rI_inj t1).2, ← (rI_inj t2).2, pset_eq, pset_eq], lt⟩
  · rw [if_neg q, pbI_rI, if_pos (Or.inl rfl)] at t1
    have hz : lt32 a1 0 ∨ lt32 (M 1 1) a1 := by
      rw [lt32_iff (by omega) (by omega) (by omega) (by omega), lt32_iff (by omega) (by omega) (by omega) (by omega)]
      omega
    rw [if_pos hz, if_neg (fun z => z rfl)] at t2
    exact ⟨by rw [← (rI_inj t1).1, ← (rI_inj t2).1], by rw [f2 1 1 k1, ← (rI_inj t2).2, pset_ne2 (show 14 ≠ 17 by decide), k60, ← (rI_inj t1).2], lt⟩
theorem amA_pos {tx : Nat → Int} {L T R : Nat} (hR : R ≤ 6) (h : 0 < amA tx L T R) : L ≠ 0 ∧ amA tx L T R = (L : Int) ∧ ∀ i, i < L → 48 ≤ tx i ∧ tx i ≤ (R : Int) + 47 := by
  by_cases q : L = 0
  · have u : amA tx L T R = 0 := if_pos q
    rw [u] at h; omega
  · have u : amA tx L T R = match amS tx (min L T) R T with
      | .inl p => -1 - (p : Int)
      | .inr _ => if L ≤ T then (L : Int) else -1 - (T : Int) := if_neg q
    cases z : amS tx (min L T) R T with
    | inl p =>
      rw [z] at u
      have u : amA tx L T R = -1 - (p : Int) := u
      omega
    | inr a =>
      rw [z] at u
      have u : amA tx L T R = if L ≤ T then (L : Int) else -1 - (T : Int) := u
      by_cases q2 : L ≤ T
      · rw [if_pos q2] at u
        refine ⟨q, u, fun i hi => ?_⟩
        have := (amS_inr hR T a z).2 i (by omega)
        unfold hc at this
        rw [if_pos (by omega)] at this; exact this
      · rw [if_neg q2] at u; omega
theorem kc_aim (R : RI0 M) (C : CI M) (T : TI M) (A : GA M) (e1 : xF 1000 38 [.inr 2] M = rI v M1) (f1 : Fr [(0, 14), (1, 1), (3, 1), (3, 2), (3, 3), (58, 999)] M M1) (e2 : xF 1000 255 [.inr 62] M1 = rI y M2) (f2 : Fr [(60, 14), (60, 17), (60, 43), (60, 44), (81, 999)] M1 M2) : v = y ∧ GA M2 ∧ M1 1 1 = 0 ∧ M2 60 14 = 0 := by
  obtain ⟨G, X, Y⟩ := C
  obtain ⟨W, -⟩ := ci_facts R X Y
  have b0 := gm_i R.1 1 1 (lo := 0) (hi := 80) (by decide +kernel) (by decide +kernel)
  obtain ⟨L, hL⟩ := natI b0.1
  have htx : ∀ i, i < 80 → -128 ≤ M 68 i ∧ M 68 i ≤ 127 := fun i hi => gm_r R.1 (o := 68) (lo := -128) (hi := 127) (by decide +kernel) (by decide +kernel) (show i < 80 from hi)
  obtain ⟨N1, t1, k1, a1, -⟩ := x_aim (tx := fun i => M 68 i) (R := hR G) (T := hT G) (L := L) (M := M) (d := 1000) (by decide) W.1 W.2.1 (by omega) X.1.1 X.1.2.1 hL T.2 htx
  obtain ⟨rfl, rfl⟩ := rI_inj (e1.symm.trans t1)
  have Y0 : M1 60 0 = (hR G : Int) := by rw [f1 60 0 (by decide)]; exact Y.1.1
  obtain ⟨N2, t2, k2, a2, -⟩ := m_aim (tx := fun i => M 68 i) (R := hR G) (T := hT G) (L := L) (M := M1) (d := 1000) (by decide) W.1 W.2.1 (by omega) Y0 (by rw [f1 60 3 (by decide)]; exact Y.1.2.1) (by rw [f1 60 14 (by decide), ← T.1]; exact hL) (fun i _ => f1 68 i (wOK_no (by decide) i)) htx
  obtain ⟨rfl, rfl⟩ := rI_inj (e2.symm.trans t2)
  refine ⟨rfl, ?_, k1, k2⟩
  have c14 : M2 0 14 = M1 0 14 := f2 0 14 (by decide)
  have c58 : ∀ t, M2 58 t = M1 58 t := fun t => f2 58 t (wOK_no (by decide) t)
  have c0 : M2 60 0 = (hR G : Int) := by rw [f2 60 0 (by decide)]; exact Y0
  have d0 : M 60 0 = (hR G : Int) := Y.1.1
  unfold amX at a1
  unfold amM at a2
  by_cases q : 0 < amA (fun i => M 68 i) L (hT G) (hR G)
  · rw [if_pos q] at a1 a2
    obtain ⟨l1, l2, l3⟩ := amA_pos W.1 q
    refine Or.inr ⟨by rw [c14, a1.1]; omega, a2.2.1, by rw [a2.1, c14, a1.1], fun t ht => ?_⟩
    rw [c14, a1.1] at ht
    have l4 := l3 t (by omega)
    have l4 : 48 ≤ M 68 t ∧ M 68 t ≤ (hR G : Int) + 47 := l4
    rw [c58, a1.2 t (by omega), a2.2.2 t (by omega), c0]
    show M 68 t - 48 = M 68 t - 48 ∧ 0 ≤ M 68 t - 48 ∧ M 68 t - 48 < (hR G : Int)
    exact ⟨rfl, by omega, by omega⟩
  · rw [if_neg q] at a1 a2
    by_cases q2 : L = 0
    · rw [if_pos q2] at a1 a2
      exact Or.inl ⟨by rw [c14]; exact a1, a2⟩
    · rw [if_neg q2] at a1 a2
      have m44 : M1 60 44 = M 60 44 := f1 60 44 (by decide)
      have m43 : M1 60 43 = M 60 43 := f1 60 43 (by decide)
      have m81 : ∀ t, M1 81 t = M 81 t := fun t => f1 81 t (wOK_no (by decide) t)
      unfold GA at A ⊢
      rw [c14, a1.1, a2.1, a2.2.1, m44, m43]
      rcases A with A | ⟨b1, b2, b3, b4⟩
      · exact Or.inl A
      · refine Or.inr ⟨b1, b2, b3, fun t ht => ?_⟩
        have := b4 t ht
        rw [c58, a1.2 t, a2.2.2 t, m81, c0]
        exact ⟨this.1, this.2.1, by omega⟩
end TXS
/-! way, widest, stuck: what they answer, on both sides -/
section WYS
variable {D d : Nat} {M M' G : pM} {w : Int}
end WYS
/-! what it costs to come to another arrangement, on both sides: swap, apart -/
section CTO
variable {D d : Nat} {M M' N G h : pM} {p q : Nat → Int}
end CTO
/-! swap: what it answers, on both sides -/
section SWP
variable {D d : Nat} {M M' N G h : pM} {p q : Nat → Int}
end SWP
/-! apart: what it answers, on both sides -/
section APT
variable {D d : Nat} {M M' N G h : pM} {p q : Nat → Int}
end APT
end
section
/-! the class's sets and clumps -/
section ST
variable {h M : pM} {d : Nat}
/-- what hangs on something: one look at the sets, some looks -/
def hngI (h : pM) (amo sets seen : Nat) : Nat → Nat
  | 0 => seen
  | k + 1 => if sets.testBit k = true ∧ me h k &&& hngI h amo sets seen k ≠ 0 then hngI h amo sets seen k ||| (me h k &&& amo) else hngI h amo sets seen k
def hng (h : pM) (amo sets seen : Nat) : Nat → Nat
  | 0 => seen
  | n + 1 => hngI h amo sets (hng h amo sets seen n) (hS h)
/-- how many clumps some things make by some sets -/
def cbL (h : pM) (amo sets : Nat) : Nat → Nat × Nat
  | 0 => (0, amo)
  | k + 1 => if (cbL h amo sets k).2.testBit k then ((cbL h amo sets k).1 + 1, nan (cbL h amo sets k).2 (hng h amo sets (2 ^ k) (hS h))) else cbL h amo sets k
end ST
/-! the class's clumps: hang -/
def aT (h : pM) : Nat := 2 ^ hT h - 1
def aS (h : pM) : Nat := 2 ^ hS h - 1
/-- the walk over the things: how many clumps so far, what is left; the clump that thing k begins -/
def cgA (h : pM) (k : Nat) : Nat × Nat := cbL h (aT h) (aS h) k
def cgM (h : pM) (k : Nat) : Nat := hng h (aT h) (aS h) (2 ^ k) (hS h)
def own (h : pM) : Nat → Nat → Nat
  | 0, _ => 0
  | k + 1, t => if (cgA h k).2.testBit k = true ∧ (cgM h k).testBit t = true then (cgA h k).1 else own h k t
section HG
variable {h M : pM} {d : Nat}
end HG
/-! what is asked of the clumps that stand -/
section OC
variable {h M : pM} {d : Nat}
end OC
/-! what hangs together: both sides find the same -/
section SMC
variable {sv : Nat → Nat} {ns g S b : Nat} {h M : pM}
theorem hE (h : pM) : ∀ k, k < hS h → (aS h).testBit k = !(0 : Nat).testBit k := fun k hk => by
  unfold aS
  rw [Nat.testBit_two_pow_sub_one, decide_eq_true hk, Nat.zero_testBit]; rfl
theorem hA (W : WF h) : ∀ k, k < hS h → me h k &&& aT h = nan (me h k) 0 := fun k hk => by
  refine Nat.eq_of_testBit_eq fun i => ?_
  unfold aT
  rw [Nat.testBit_and, nan_bit, Nat.testBit_two_pow_sub_one, Nat.zero_testBit]
  cases e : (me h k).testBit i with
  | false => rfl
  | true => rw [decide_eq_true (bit_lt (W.2.2.2.2.2.2.2.2 k hk) e)]; rfl
theorem hB (h : pM) : ∀ t, t < hT h → (aT h).testBit t = !(0 : Nat).testBit t := fun t ht => by
  unfold aT
  rw [Nat.testBit_two_pow_sub_one, decide_eq_true ht, Nat.zero_testBit]; rfl
end SMC
/-! the class's clumps are those of its sets, whatever is called -/
section CKS
variable {D d L : Nat} {M M' M1 M2 G h h' : pM} {w w1 w2 : List (Nat × Nat)} {v y : Int} {tx : Nat → Int}
def cc (o i : Nat) : Bool := (Nat.beq o 7 && (Nat.beq i 10 || Nat.beq i 11 || Nat.beq i 12)) || (Nat.ble 14 o && Nat.ble o 16)
end CKS
/-! clumps, heaviest, without, breaks, ties: what they answer, on both sides -/
section CLC
variable {D d : Nat} {M M' M1 M2 G h : pM} {w1 w2 : List (Nat × Nat)} {v y : Int}
end CLC
end
section
/-! the walk over the arrangements, without a machine: codes, digits, what fits -/
section WKA
variable {R n : Nat} {sz bk : Nat → Int} {q q' : Nat → Nat}
end WKA
/-! the walk of the class: shift, next -/
section WKB
variable {R n D d : Nat} {sz bk : Nat → Int} {q q' : Nat → Nat} {M M' N : pM}
end WKB
/-! the walk from outside: is there room enough, the first one, the next one -/
section WKC
variable {R n D d : Nat} {sz bk : Nat → Int} {q q' : Nat → Nat} {M M' N : pM}
end WKC
/-! the walk begins: with some clumps -/
section WKD
variable {D d : Nat} {h M M' N : pM}
end WKD
/-! the clumps part the things; what fits for the reference fits for the class -/
section WKE
variable {sv : Nat → Nat} {S : Nat} {h M M' : pM}
end WKE
/-! the one with the greatest sum: choose -/
section WKF
variable {R n D d : Nat} {sz bk tb : Nat → Int} {M M' N : pM} {fine : Nat → Bool} {val : Nat → Int}
end WKF
/-! the reference's rows, seen as codes that fit; both walks begin -/
section WKG
variable {D d : Nat} {G h M M' N : pM}
end WKG
end
section
/-! fits: what it answers, on both sides -/
section FTS
variable {D d : Nat} {M M' M1 M2 G h : pM} {w1 : List (Nat × Nat)} {v y : Int} {fine : Nat → Bool} {val : Nat → Int}
end FTS
/-! together, may: what they answer, on both sides -/
section TGS
variable {D d R n : Nat} {M M' M1 M2 G h : pM} {w1 : List (Nat × Nat)} {v y : Int} {sz bk : Nat → Int}
end TGS
/-! may: what it answers, on both sides -/
section MAY
variable {D d R n : Nat} {M M' M1 M2 G h : pM} {w1 : List (Nat × Nat)} {v y : Int} {sz bk : Nat → Int}
end MAY
/-! the class chooses by the bulk in a room -/
section BBK
variable {D d R n : Nat} {M M' M1 M2 G h : pM} {w1 : List (Nat × Nat)} {v y : Int} {sz bk : Nat → Int}
end BBK
/-! fullest: what it answers, on both sides -/
section FUL
variable {D d R n : Nat} {M M' M1 M2 G h : pM} {w1 : List (Nat × Nat)} {v y : Int} {sz bk : Nat → Int} {fine : Nat → Bool} {val : Nat → Int}
end FUL
/-! space: what it answers, on both sides -/
section SPC
variable {D d R n : Nat} {M M' M1 M2 G h : pM} {w1 : List (Nat × Nat)} {v y : Int} {fine : Nat → Bool} {val : Nat → Int}
end SPC
/-! near, guest: the least to be carried, on both sides -/
section NEA
variable {D d R n : Nat} {M M' M1 M2 N G h : pM} {w1 : List (Nat × Nat)} {v y : Int} {sz : Nat → Int} {fine : Nat → Bool} {val : Nat → Int}
end NEA
/-! is there an arrangement at all: of some clumps, with other sizes -/
section EXA
variable {D d R n : Nat} {M M' M1 M2 G h N : pM} {w1 : List (Nat × Nat)} {v y : Int} {sz bk : Nat → Int} {q : Nat → Nat}
end EXA
/-! could: what it answers, on both sides -/
section COU
variable {D d R n : Nat} {M M' M1 M2 G h N : pM} {w1 : List (Nat × Nat)} {v y : Int} {sz bk : Nat → Int}
end COU
/-! build: what it answers, on both sides -/
section BLD
variable {D d R n : Nat} {M M' M1 M2 G h N : pM} {w1 : List (Nat × Nat)} {v y : Int} {sz bk : Nat → Int}
end BLD
/-! sell: the reference's rows when some clumps are sold -/
section SLD
variable {D d R n T C s code W : Nat} {M M' M1 M2 G h N : pM}
end SLD
/-! sell: what it answers, on both sides -/
section SEL
variable {D d : Nat} {M M' M1 M2 G h N : pM} {w1 : List (Nat × Nat)} {v y : Int}
end SEL
end
section
/-! which letter a sign is -/
section SIX
variable {D d : Nat} {M : pM}
end SIX
/-! a rule is read -/
section XRU
variable {tx : Nat → Int} {st d D : Nat} {M M' : pM} {lv : Int → Int}
end XRU
/-! rule: what it answers and what it keeps, on both sides -/
section RUL
variable {tx : Nat → Int} {st d D L : Nat} {M M' M1 M2 N : pM} {lv lv' : Int → Int} {w1 : List (Nat × Nat)} {v y : Int}
def X3 (M M' : pM) : Prop := ∀ o i, ¬ (o = 3 ∧ (i = 1 ∨ i = 2 ∨ i = 3)) → M' o i = M o i
end RUL
/-! the reader of the rule that is kept: as 78a and 85b (by program) -/
section YR
variable {tx : Nat → Int} {st d : Nat} {M : pM}
end YR
section YRU
variable {tx : Nat → Int} {st d D : Nat} {M M' : pM} {lv : Int → Int}
end YRU
/-! what a thing is worth in a room, on both sides -/
section WOR
variable {tx : Nat → Int} {d D L : Nat} {M M' M1 M2 N G : pM} {w1 w2 : List (Nat × Nat)} {v y : Int} {lv : Int → Int}
end WOR
/-! thing: what it answers, on both sides -/
section THI
variable {tx : Nat → Int} {d D L : Nat} {M M' M1 M2 N G : pM} {w1 : List (Nat × Nat)} {v y : Int}
end THI
/-! best: what it answers, on both sides -/
section BES
variable {tx : Nat → Int} {d D L : Nat} {M M' M1 M2 N G : pM} {w1 : List (Nat × Nat)} {v y : Int}
end BES
end
section
/-! queue: how many clumps are carried, on both sides -/
section QUA
variable {G : pM} {p q : Nat → Int}
end QUA
section QUM
variable {D d S T R C x1 : Nat} {sv : Nat → Nat} {M M' N G : pM} {p : Nat → Int} {v y : Int}
end QUM
/-! queue: one side's search -/
section QUX
variable {D d : Nat} {M M' M1 N G : pM} {p : Nat → Int} {v y : Int}
end QUX
section QUK
variable {D d : Nat} {M M' M1 M2 N G : pM} {p : Nat → Int} {w1 : List (Nat × Nat)} {v y : Int}
end QUK
/-! the list of the arrangements that are lawful, and what it costs between them -/
section LST
variable {D d : Nat} {M M' N G : pM} {p : Nat → Int} {f g : Nat → Nat} {v y : Int}
end LST
/-! what it costs from one of the list to another, on both sides -/
section CST
variable {D d : Nat} {M M' N G : pM} {p : Nat → Int} {f g : Nat → Nat} {v y : Int}
def c6 (G : pM) (t a b : Nat) : Int := if cst G t a b < 0 then 1000000 else cst G t a b
end CST
/-! the fewest evenings, on one side -/
section FEW
variable {D d : Nat} {M M' M1 N G : pM} {p : Nat → Int} {v y w : Int}
end FEW
/-! the list and its costs on the other side -/
section AIF
variable {D d : Nat} {M M' M1 N G : pM} {p : Nat → Int} {f g : Nat → Nat} {v y w : Int}
end AIF
/-! the fewest evenings on the other side; evenings joined -/
section EVF
variable {D d : Nat} {M M' M1 M2 N G : pM} {p : Nat → Int} {w1 : List (Nat × Nat)} {v y w : Int}
end EVF
/-! evenings: what it answers, on both sides -/
section EVJ
variable {D d : Nat} {M M' M1 M2 N G : pM} {p : Nat → Int} {w1 : List (Nat × Nat)} {v y w : Int}
end EVJ
/-! the least strength, on one side -/
section WEK
variable {D d : Nat} {M M' M1 N G : pM} {p : Nat → Int} {v y w : Int}
end WEK
/-! the least strength, on one side: the search -/
section WEL
variable {D d : Nat} {M M' M1 N N0 G : pM} {p : Nat → Int} {v y w : Int}
end WEL
/-! the least strength, on one side: to its end; what is answered -/
section WEM
variable {D d : Nat} {M M' M1 N N0 G : pM} {p : Nat → Int} {v y w : Int}
end WEM
/-! the least strength on the other side; weakest joined -/
section WEO
variable {D d : Nat} {M M' M1 M2 N G : pM} {p : Nat → Int} {w1 : List (Nat × Nat)} {v y w : Int}
end WEO
end
