/-! what both sides hold stays the same -/
def CI (M : pM) : Prop := ∃ G, XG M G ∧ MG M G
section CIS
variable {M M1 M2 G : pM} {w1 w2 : List (Nat × Nat)} {v y : Int}
theorem ci_Fr {w : List (Nat × Nat)} (f : Fr w M M1) (h1 : okW cx cxo w = true) (h2 : okW cm cmo w = true) (C : CI M) : CI M1 := by
  obtain ⟨G, X, Y⟩ := C
  exact ⟨G, XG_Fr f h1 X, MG_Fr f h2 Y⟩
theorem ci_facts (R : RI0 M) (X : XG M G) (Y : MG M G) : WF G ∧ (0 ≤ G 9 0 ∧ G 9 0 ≤ 20) ∧ (∀ k : Nat, (k : Int) < G 9 0 → 0 ≤ G 10 k ∧ G 10 k ≤ 9) ∧ ∀ i, i < 2 → 0 ≤ G 13 i ∧ G 13 i ≤ 1 := by
  have b33 := gm_i R.1 60 33 (lo := 0) (hi := 20) (by decide +kernel) (by decide +kernel)
  rw [Y.2.2.1.1] at b33
  refine ⟨WF_MH R.1 R.2.2.1 Y.1, b33, fun k hk => ?_, fun i hi => ?_⟩
  · rw [← (Y.2.2.1.2 k hk).1]
    exact gR0 (by rw [← (g75 k (by omega)).1]; exact R.1 75 (3 * k) (p75 (by omega)).1)
  · have := (X.2.2.2 i hi).1
    rw [← this]
    rcases (show i = 0 ∨ i = 1 by omega) with rfl | rfl
    · exact gm_i R.1 44 1 (lo := 0) (hi := 1) (by decide +kernel) (by decide +kernel)
    · exact gm_i R.1 46 1 (lo := 0) (hi := 1) (by decide +kernel) (by decide +kernel)
theorem kc_widen (R : RI0 M) (C : CI M) {a1 a2 a3 : Int} (h1 : -2147483648 ≤ a1 ∧ a1 ≤ 2147483647) (h2 : -2147483648 ≤ a2 ∧ a2 ≤ 2147483647) (h3 : -2147483648 ≤ a3 ∧ a3 ≤ 2147483647) (e1 : xF 1000 8 [.inr 2, .inl a1, .inl a2, .inl a3] M = rI v M1) (f1 : Fr w1 M M1) (k1 : okW cm cmo w1 = true) (e2 : xF 1000 204 [.inr 62, .inl a1, .inl a2, .inl a3] M1 = rI y M2) (f2 : Fr w2 M1 M2) (k2 : okW cx cxo w2 = true) : v = y ∧ CI M2 := by
  obtain ⟨G, X, Y⟩ := C
  obtain ⟨W, -⟩ := ci_facts R X Y
  obtain ⟨p1, p2⟩ := x_widen (d := 1000) (by decide) W X h1 h2 h3 e1
  obtain ⟨q1, q2⟩ := m_widen (d := 1000) (by decide) W (MG_Fr f1 k1 Y) h1 h2 h3 e2
  by_cases q : wdC G a1 a2 a3
  · exact ⟨by rw [(p1 q).1, (q1 q).1], _, XG_Fr f2 k2 (p1 q).2, (q1 q).2⟩
  · exact ⟨by rw [(p2 q).1, (q2 q).1], _, XG_Fr f2 k2 (p2 q).2, (q2 q).2⟩
theorem kc_sheet (R : RI0 M) (C : CI M) {a1 a2 a3 a4 : Int} (h1 : -2147483648 ≤ a1 ∧ a1 ≤ 2147483647) (h2 : -2147483648 ≤ a2 ∧ a2 ≤ 2147483647) (e1 : xF 1000 10 [.inr 2, .inl a1, .inl a2, .inl a3, .inl a4] M = rI v M1) (f1 : Fr w1 M M1) (k1 : okW cm cmo w1 = true) (e2 : xF 1000 206 [.inr 62, .inl a1, .inl a2, .inl a3, .inl a4] M1 = rI y M2) (f2 : Fr w2 M1 M2) (k2 : okW cx cxo w2 = true) : v = y ∧ CI M2 := by
  obtain ⟨G, X, Y⟩ := C
  obtain ⟨W, -⟩ := ci_facts R X Y
  obtain ⟨p1, p2⟩ := xg_sheet (d := 1000) (by decide) W X h1 h2 e1
  obtain ⟨q1, q2⟩ := mg_sheet (d := 1000) (by decide) W (MG_Fr f1 k1 Y) h1 h2 e2
  exact ⟨by rw [p1, q1], _, XG_Fr f2 k2 p2, q2⟩
theorem kc_breaks (R : RI0 M) (C : CI M) (R1 : RI0 M1) {a1 : Int} (h1 : -2147483648 ≤ a1 ∧ a1 ≤ 2147483647) (e1 : xF 1000 19 [.inr 2, .inl a1] M = rI v M1) (f1 : Fr w1 M M1) (k1 : okW cm cmo w1 = true) (e2 : xF 1000 226 [.inr 62, .inl a1] M1 = rI y M2) (f2 : Fr w2 M1 M2) (k2 : okW cx cxo w2 = true) : CI M2 := by
  obtain ⟨G, X, Y⟩ := C
  obtain ⟨W, -⟩ := ci_facts R X Y
  obtain ⟨p1, p2⟩ := xg_breaks (d := 1000) (by decide) W R.1 X h1 e1
  obtain ⟨q1, q2⟩ := mg_breaks (d := 1000) (by decide) W R1.1 (MG_Fr f1 k1 Y) h1 e2
  by_cases q : 0 ≤ a1 ∧ a1 < hT G
  · exact ⟨_, XG_Fr f2 k2 (p1 q), q1 q⟩
  · exact ⟨_, XG_Fr f2 k2 (p2 q).2, (q2 q).2⟩
theorem kc_carry (R : RI0 M) (C : CI M) {a1 a2 : Int} (h1 : -2147483648 ≤ a1 ∧ a1 ≤ 2147483647) (h2 : -2147483648 ≤ a2 ∧ a2 ≤ 2147483647) (e1 : xF 1000 11 [.inr 2, .inl a1, .inl a2] M = rI v M1) (f1 : Fr w1 M M1) (k1 : okW cm cmo w1 = true) (e2 : xF 1000 216 [.inr 62, .inl a1, .inl a2] M1 = rI y M2) (f2 : Fr w2 M1 M2) (k2 : okW cx cxo w2 = true) : v = y ∧ CI M2 := by
  obtain ⟨G, X, Y⟩ := C
  obtain ⟨W, hn, -⟩ := ci_facts R X Y
  obtain ⟨p0, p1, p2⟩ := xg_carry (d := 1000) (by decide) W X hn h1 h2 e1
  obtain ⟨q0, q1, q2⟩ := mg_carry (d := 1000) (by decide) W (MG_Fr f1 k1 Y) hn h1 h2 e2
  by_cases q : 0 ≤ attF G (G 6) (G 8 1) a1 a2
  · exact ⟨by rw [p0, q0], _, XG_Fr f2 k2 (p1 q), q1 q⟩
  · exact ⟨by rw [p0, q0], _, XG_Fr f2 k2 (p2 (by omega)), q2 (by omega)⟩
theorem kc_evening (R : RI0 M) (C : CI M) (e1 : xF 1000 12 [.inr 2] M = rI v M1) (f1 : Fr w1 M M1) (k1 : okW cm cmo w1 = true) (e2 : xF 1000 218 [.inr 62] M1 = rI y M2) (f2 : Fr w2 M1 M2) (k2 : okW cx cxo w2 = true) : v = y ∧ CI M2 := by
  obtain ⟨G, X, Y⟩ := C
  obtain ⟨W, -⟩ := ci_facts R X Y
  obtain ⟨p1, p2⟩ := xg_evening (d := 1000) (by decide) W X e1
  obtain ⟨q1, q2⟩ := mg_evening (d := 1000) (by decide) W (MG_Fr f1 k1 Y) e2
  by_cases q : lwf G (G 6)
  · exact ⟨by rw [(p1 q).1, (q1 q).1], _, XG_Fr f2 k2 (p1 q).2, (q1 q).2⟩
  · exact ⟨by rw [(p2 q).1, (q2 q).1], _, XG_Fr f2 k2 (p2 q).2, (q2 q).2⟩
theorem kc_undo (R : RI0 M) (C : CI M) (e1 : xF 1000 14 [.inr 2] M = rI v M1) (f1 : Fr w1 M M1) (k1 : okW cm cmo w1 = true) (e2 : xF 1000 220 [.inr 62] M1 = rI y M2) (f2 : Fr w2 M1 M2) (k2 : okW cx cxo w2 = true) : v = y ∧ CI M2 := by
  obtain ⟨G, X, Y⟩ := C
  obtain ⟨W, hn, hu, -⟩ := ci_facts R X Y
  obtain ⟨p1, p2⟩ := xg_undo (d := 1000) (by decide) W X hn hu e1
  obtain ⟨q1, q2⟩ := mg_undo (d := 1000) (by decide) (MG_Fr f1 k1 Y) hn hu e2
  by_cases q : G 9 0 = 0
  · exact ⟨by rw [(p2 q).1, (q2 q).1], _, XG_Fr f2 k2 (p2 q).2, (q2 q).2⟩
  · exact ⟨by rw [(p1 q).1, (q1 q).1], _, XG_Fr f2 k2 (p1 q).2, (q1 q).2⟩
theorem kc_judge (R : RI0 M) (C : CI M) {a1 a2 : Int} (h1 : -2147483648 ≤ a1 ∧ a1 ≤ 2147483647) (e1 : xF 1000 15 [.inr 2, .inl a1, .inl a2] M = rI v M1) (f1 : Fr w1 M M1) (k1 : okW cm cmo w1 = true) (k3 : okW cx cxo w1 = true) (e2 : xF 1000 221 [.inr 62, .inl a1, .inl a2] M1 = rI y M2) (f2 : Fr w2 M1 M2) (k2 : okW cx cxo w2 = true) : v = y ∧ CI M2 := by
  obtain ⟨G, X, Y⟩ := C
  obtain ⟨W, -⟩ := ci_facts R X Y
  have p1 := xg_judge (d := 1000) (by decide) W X h1 e1
  obtain ⟨q1, q2⟩ := mg_judge (d := 1000) (by decide) W (MG_Fr f1 k1 Y) h1 e2
  exact ⟨by rw [p1, q1], _, XG_Fr f2 k2 (XG_Fr f1 k3 X), q2⟩
theorem kc_hinge (R : RI0 M) (C : CI M) {a1 : Int} (h1 : -2147483648 ≤ a1 ∧ a1 ≤ 2147483647) (e1 : xF 1000 37 [.inr 2, .inl a1] M = rI v M1) (f1 : Fr w1 M M1) (k1 : okW cm cmo w1 = true) (e2 : xF 1000 254 [.inr 62, .inl a1] M1 = rI y M2) (f2 : Fr w2 M1 M2) (k2 : okW cx cxo w2 = true) : v = y ∧ CI M2 := by
  obtain ⟨G, X, Y⟩ := C
  obtain ⟨W, -⟩ := ci_facts R X Y
  obtain ⟨p1, p2⟩ := xg_hinge (d := 1000) (by decide) W X h1 e1
  obtain ⟨q1, q2⟩ := mg_hinge (d := 1000) (by decide) W (MG_Fr f1 k1 Y) h1 e2
  exact ⟨by rw [p1, q1], _, XG_Fr f2 k2 p2, q2⟩
theorem kc_keep (R : RI0 M) (C : CI M) {a1 : Int} (h1 : -2147483648 ≤ a1 ∧ a1 ≤ 2147483647) (e1 : xF 1000 43 [.inr 2, .inl a1] M = rI v M1) (f1 : Fr w1 M M1) (k1 : okW cm cmo w1 = true) (e2 : xF 1000 266 [.inr 62, .inl a1] M1 = rI y M2) (f2 : Fr w2 M1 M2) (k2 : okW cx cxo w2 = true) : CI M2 := by
  obtain ⟨G, X, Y⟩ := C
  obtain ⟨W, -⟩ := ci_facts R X Y
  obtain ⟨p1, p2⟩ := xg_keep (d := 1000) (by decide) W X h1.1 h1.2 e1
  obtain ⟨q1, q2⟩ := mg_keep (d := 1000) (by decide) W (MG_Fr f1 k1 Y) h1.1 h1.2 e2
  by_cases q : 0 ≤ a1 ∧ a1 ≤ 1
  · exact ⟨_, XG_Fr f2 k2 (p1 q), q1 q⟩
  · exact ⟨_, XG_Fr f2 k2 (p2 q), q2 q⟩
theorem kc_again (R : RI0 M) (C : CI M) (R1 : RI0 M1) {a1 : Int} (h1 : -2147483648 ≤ a1 ∧ a1 ≤ 2147483647) (e1 : xF 1000 44 [.inr 2, .inl a1] M = rI v M1) (f1 : Fr w1 M M1) (k1 : okW cm cmo w1 = true) (e2 : xF 1000 267 [.inr 62, .inl a1] M1 = rI y M2) (f2 : Fr w2 M1 M2) (k2 : okW cx cxo w2 = true) : v = y ∧ CI M2 := by
  obtain ⟨G, X, Y⟩ := C
  obtain ⟨W, -, -, hk⟩ := ci_facts R X Y
  obtain ⟨p1, p2⟩ := xg_again (d := 1000) (by decide) W R.1 X h1.1 h1.2 e1
  obtain ⟨q1, q2⟩ := mg_again (d := 1000) (by decide) W R1 (MG_Fr f1 k1 Y) hk h1.1 h1.2 e2
  by_cases q : agC G a1
  · exact ⟨by rw [(p1 q).1, (q1 q).1], _, XG_Fr f2 k2 (p1 q).2, (q1 q).2⟩
  · exact ⟨by rw [(p2 q).1, (q2 q).1], _, XG_Fr f2 k2 (p2 q).2, (q2 q).2⟩
/-- the texts are the same -/
def TI (M : pM) : Prop := M 1 1 = M 60 14 ∧ ∀ i, i < 80 → M 2 i = ux (M 68 i)
theorem kc_house (R : RI0 M) (C : CI M) (T : TI M) (R1 : RI0 M1) (e1 : xF 1000 2 [.inr 2] M = rI v M1) (f1 : Fr w1 M M1) (k1 : okW cm cmo w1 = true) (k3 : w1.all (fun q => decide (q.1 ≠ 0 ∧ (q.1 < 40 ∨ 47 < q.1))) = true) (k5 : wOK w1 60 14 = false) (k6 : ∀ i, wOK w1 68 i = false) (e2 : xF 1000 184 [.inr 62] M1 = rI y M2) (f2 : Fr w2 M1 M2) (k2 : okW cx cxo w2 = true) : v = y ∧ CI M2 ∧ M1 60 0 ≤ M2 60 0 := by
  obtain ⟨G, X, Y⟩ := C
  obtain ⟨W, -⟩ := ci_facts R X Y
  have b0 := gm_i R.1 1 1 (lo := 0) (hi := 80) (by decide +kernel) (by decide +kernel)
  obtain ⟨L, hL⟩ := natI b0.1
  have htx : ∀ i, i < 80 → -128 ≤ M 68 i ∧ M 68 i ≤ 127 := fun i hi => gm_r R.1 (o := 68) (lo := -128) (hi := 127) (by decide +kernel) (by decide +kernel) (show i < 80 from hi)
  obtain ⟨p0, p1, p2⟩ := xg_house (tx := fun i => M 68 i) (L := L) (d := 1000) (by decide) W R.1 X hL T.2 htx e1 (fun o i hc n1 n2 => f1 o i (by
    cases z : wOK w1 o i with
    | false => rfl
    | true =>
      obtain ⟨r, hr, h2⟩ := List.any_eq_true.mp z
      rw [Bool.and_eq_true] at h2
      have e := Nat.eq_of_beq_eq_true h2.1
      have k := of_decide_eq_true (List.all_eq_true.mp k3 r hr)
      rw [e] at k
      exfalso
      unfold cx at hc
      simp only [Bool.or_eq_true, Bool.and_eq_true, Nat.beq_eq, Nat.ble_eq] at hc
      omega))
  obtain ⟨q0, q1, q2, q3⟩ := mg_house (tx := fun i => M 68 i) (L := L) (d := 1000) (by decide) W R1.1 (MG_Fr f1 k1 Y) (by rw [f1 60 14 k5, ← T.1]; exact hL) (fun i _ => f1 68 i (k6 i)) e2
  by_cases q : hsN (fun i => M 68 i) L G
  · exact ⟨by rw [p0, q0], ⟨_, XG_Fr f2 k2 (p1 q), q1 q⟩, q3⟩
  · exact ⟨by rw [p0, q0], ⟨_, XG_Fr f2 k2 (p2 q), q2 q⟩, q3⟩
theorem kc_day (R : RI0 M) (C : CI M) (T : TI M) (e1 : xF 1000 13 [.inr 2] M = rI v M1) (f1 : Fr w1 M M1) (k1 : okW cm cmo w1 = true) (k5 : wOK w1 60 14 = false) (k6 : ∀ i, wOK w1 68 i = false) (e2 : xF 1000 219 [.inr 62] M1 = rI y M2) (f2 : Fr w2 M1 M2) (k2 : okW cx cxo w2 = true) : v = y ∧ CI M2 := by
  obtain ⟨G, X, Y⟩ := C
  obtain ⟨W, hn, -⟩ := ci_facts R X Y
  have b0 := gm_i R.1 1 1 (lo := 0) (hi := 80) (by decide +kernel) (by decide +kernel)
  obtain ⟨L, hL⟩ := natI b0.1
  have htx : ∀ i, i < 80 → -128 ≤ M 68 i ∧ M 68 i ≤ 127 := fun i hi => gm_r R.1 (o := 68) (lo := -128) (hi := 127) (by decide +kernel) (by decide +kernel) (show i < 80 from hi)
  obtain ⟨p1, p2⟩ := xg_day (tx := fun i => M 68 i) (L := L) (d := 1000) (by decide) W X hn (by omega) hL T.2 htx e1
  obtain ⟨q1, q2⟩ := mg_day (tx := fun i => M 68 i) (L := L) (d := 1000) (by decide) W (MG_Fr f1 k1 Y) hn (by omega) (by rw [f1 60 14 k5, ← T.1]; exact hL) (fun i _ => f1 68 i (k6 i)) htx e2
  by_cases q : dyF (fun i => M 68 i) L = -1
  · obtain ⟨r0, r1, r2⟩ := p2 q
    obtain ⟨s0, s1, s2⟩ := q2 q
    by_cases z : (dyRun (fun i => M 68 i) ((L + 1) / 4) 0 G).1 = (L + 1) / 4 ∧ lwf (dyRun (fun i => M 68 i) ((L + 1) / 4) 0 G).2 ((dyRun (fun i => M 68 i) ((L + 1) / 4) 0 G).2 6)
    · exact ⟨by rw [r0, s0], _, XG_Fr f2 k2 (r1 z), s1 z⟩
    · exact ⟨by rw [r0, s0], _, XG_Fr f2 k2 (r2 z), s2 z⟩
  · exact ⟨by rw [(p1 q).1, (q1 q).1], _, XG_Fr f2 k2 (p1 q).2, (q1 q).2⟩
/-! strength -/
def gStr (G : pM) (v : Int) : pM := fun o i => if o = 8 ∧ i = 2 then v else G o i
theorem kc_strength (C : CI M) (f1 : Fr [(0, 17)] M M1) (f2 : Fr [(60, 12), (60, 17)] M1 M2) (e : M1 0 17 = M2 60 12) : CI M2 := by
  obtain ⟨G, X, Y⟩ := C
  have e17 : M2 0 17 = M2 60 12 := by rw [f2 0 17 (by decide)]; exact e
  have eM : ∀ o i, ¬ (o = 0 ∧ i = 17) → ¬ (o = 60 ∧ (i = 12 ∨ i = 17)) → M2 o i = M o i := fun o i a b => by
    rw [f2 o i, f1 o i]
    · cases z : wOK [(0, 17)] o i with
      | false => rfl
      | true =>
        obtain ⟨r, hr, h2⟩ := List.any_eq_true.mp z
        rw [Bool.and_eq_true, Bool.or_eq_true] at h2
        rw [List.mem_singleton.mp hr] at h2
        rcases h2.2 with y | y
        · exact absurd ⟨(Nat.eq_of_beq_eq_true h2.1).symm, (Nat.eq_of_beq_eq_true y).symm⟩ a
        · exact absurd y (by decide)
    · cases z : wOK [(60, 12), (60, 17)] o i with
      | false => rfl
      | true =>
        obtain ⟨r, hr, h2⟩ := List.any_eq_true.mp z
        rw [Bool.and_eq_true, Bool.or_eq_true] at h2
        simp only [List.mem_cons, List.not_mem_nil, or_false] at hr
        rcases hr with rfl | rfl
        · rcases h2.2 with y | y
          · exact absurd ⟨(Nat.eq_of_beq_eq_true h2.1).symm, Or.inl (Nat.eq_of_beq_eq_true y).symm⟩ b
          · exact absurd y (by decide)
        · rcases h2.2 with y | y
          · exact absurd ⟨(Nat.eq_of_beq_eq_true h2.1).symm, Or.inr (Nat.eq_of_beq_eq_true y).symm⟩ b
          · exact absurd y (by decide)
  have g : ∀ o i, o ≠ 8 → gStr G (M2 60 12) o i = G o i := fun o i h => if_neg (fun z => h z.1)
  refine ⟨gStr G (M2 60 12), ?_, ?_⟩
  · obtain ⟨H, ⟨d1, d2, d3⟩, ⟨p1, p2⟩, k⟩ := X
    refine ⟨XH_cg (fun o i ho => g o i (by omega)) (XH_eq H (fun o i a b c => eM o i (by omega) (by omega))), ⟨?_, ?_, ?_⟩, ⟨?_, fun j hj => ?_⟩, fun i hi => ?_⟩
    · rw [eM 0 15 (by omega) (by omega)]; exact d1
    · rw [eM 0 16 (by omega) (by omega)]; exact d2
    · rw [e17]; exact (if_pos ⟨rfl, rfl⟩).symm
    · rw [eM 39 3 (by omega) (by omega)]; exact p1
    · rw [eM 40 j (by omega) (by omega), eM 41 j (by omega) (by omega), eM 42 j (by omega) (by omega)]; exact p2 j hj
    · have a : ∀ j, M2 (44 + 2 * i) j = M (44 + 2 * i) j := fun j => eM _ j (by omega) (by omega)
      have b : ∀ j, M2 (45 + 2 * i) j = M (45 + 2 * i) j := fun j => eM _ j (by omega) (by omega)
      have g16 : ∀ j, gStr G (M2 60 12) (16 + i) j = G (16 + i) j := fun j => g _ j (by omega)
      simp only [a, b, g16, g 13 i (by decide), g 14 i (by decide), g 15 i (by decide), g 18 i (by decide), g 19 i (by decide)]
      exact k i hi
  · obtain ⟨H, ⟨d1, d2, d3⟩, ⟨p1, p2⟩, k⟩ := Y
    refine ⟨MH_cg (fun o i ho => g o i (by omega)) ?_, ⟨?_, ?_, (if_pos ⟨rfl, rfl⟩).symm⟩, ⟨?_, fun j hj => ?_⟩, fun i hi => ?_⟩
    · obtain ⟨x1, x2, x3, x4, x5, x6, x7⟩ := H
      exact ⟨by rw [eM 60 0 (by omega) (by omega)]; exact x1, by rw [eM 60 3 (by omega) (by omega)]; exact x2, by rw [eM 60 8 (by omega) (by omega)]; exact x3, fun r hr => by rw [eM 61 r (by omega) (by omega)]; exact x4 r hr, fun p hp => by rw [eM 62 p (by omega) (by omega)]; exact x5 p hp, fun t ht => by rw [eM 63 t (by omega) (by omega), eM 64 t (by omega) (by omega), eM 65 t (by omega) (by omega), eM 66 t (by omega) (by omega)]; exact x6 t ht, fun s hs => by rw [eM 67 s (by omega) (by omega)]; exact x7 s hs⟩
    · rw [eM 60 10 (by omega) (by omega)]; exact d1
    · rw [eM 60 11 (by omega) (by omega)]; exact d2
    · rw [eM 60 33 (by omega) (by omega)]; exact p1
    · rw [eM 75 _ (by omega) (by omega), eM 75 _ (by omega) (by omega), eM 75 _ (by omega) (by omega)]; exact p2 j hj
    · have a : ∀ j, M2 87 j = M 87 j := fun j => eM 87 j (by omega) (by omega)
      have b : ∀ j, M2 88 j = M 88 j := fun j => eM 88 j (by omega) (by omega)
      have c : ∀ j, M2 89 j = M 89 j := fun j => eM 89 j (by omega) (by omega)
      have g16 : ∀ j, gStr G (M2 60 12) (16 + i) j = G (16 + i) j := fun j => g _ j (by omega)
      simp only [a, b, c, eM 60 52 (by omega) (by omega), g16, g 13 i (by decide), g 14 i (by decide), g 15 i (by decide), g 18 i (by decide), g 19 i (by decide)]
      exact k i hi
end CIS
/-! what the small questions are answered: room, set, door -/
section ASK
variable {D d : Nat} {M M' G : pM}
theorem kc_set (R : RI0 M) (C : CI M) {M1 M2 : pM} {w1 : List (Nat × Nat)} {v y a1 : Int} (h1 : -2147483648 ≤ a1 ∧ a1 ≤ 2147483647) (e1 : xF 1000 6 [.inr 2, .inl a1] M = rI v M1) (f1 : Fr w1 M M1) (k1 : okW cm cmo w1 = true) (e2 : xF 1000 202 [.inr 62, .inl a1] M1 = rI y M2) : v = y := by
  obtain ⟨G, X, Y⟩ := C
  obtain ⟨W, -⟩ := ci_facts R X Y
  have w3 := W.2.2.1
  have Y1 := MG_thr (MG_Fr f1 k1 Y)
  have t1 : xF (999 + 1) 6 [.inr 2, .inl a1] M = rI v M1 := e1
  have t2 : xF (999 + 1) 202 [.inr 62, .inl a1] M1 = rI y M2 := e2
  rw [T_X_set, X.1.2.2.1] at t1
  rw [T_M_set, m_in (by decide), pbI_rI] at t2
  generalize pset M1 60 17 0 = N at Y1 t2
  rw [Y1.1.2.2.1] at t2
  by_cases q : a1 < 0
  · rw [if_pos (by rw [lt32_iff] <;> omega)] at t1
    rw [if_pos (Or.inl (by rw [lt32_iff] <;> omega)), if_pos rfl] at t2
    rw [← (rI_inj t1).1, ← (rI_inj t2).1]
  · rw [if_neg (by rw [lt32_iff] <;> omega)] at t1
    by_cases q2 : (hS G : Int) ≤ a1
    · rw [if_pos (by rw [le32_iff] <;> omega)] at t1
      rw [if_pos (Or.inr (by rw [lt32_iff] <;> omega)), if_pos rfl] at t2
      rw [← (rI_inj t1).1, ← (rI_inj t2).1]
    · obtain ⟨s, rfl⟩ := natI (show 0 ≤ a1 by omega)
      have nq : ¬ (lt32 (s : Int) 0 ∨ lt32 ((hS G : Int) - 1) (s : Int)) := by
        rw [lt32_iff (by omega) (by omega) (by omega) (by omega), lt32_iff (by omega) (by omega) (by omega) (by omega)]; omega
      rw [if_neg (by rw [le32_iff] <;> omega), if_pos (by omega), Int.toNat_natCast, X.1.2.2.2.2.2.2 s (by omega)] at t1
      rw [if_neg nq, if_neg (by decide), if_pos (by omega), Int.toNat_natCast, Y1.1.2.2.2.2.2.2 s (by omega)] at t2
      rw [← (rI_inj t1).1, ← (rI_inj t2).1]
theorem kc_door (R : RI0 M) (C : CI M) {M1 M2 : pM} {w1 : List (Nat × Nat)} {v y a1 a2 : Int} (h1 : -2147483648 ≤ a1 ∧ a1 ≤ 2147483647) (h2 : -2147483648 ≤ a2 ∧ a2 ≤ 2147483647) (e1 : xF 1000 7 [.inr 2, .inl a1, .inl a2] M = rI v M1) (f1 : Fr w1 M M1) (k1 : okW cm cmo w1 = true) (e2 : xF 1000 203 [.inr 62, .inl a1, .inl a2] M1 = rI y M2) : v = y := by
  obtain ⟨G, X, Y⟩ := C
  obtain ⟨W, -⟩ := ci_facts R X Y
  have w0 := W.1
  have Y1 := MG_thr (MG_Fr f1 k1 Y)
  have t1 : xF (999 + 1) 7 [.inr 2, .inl a1, .inl a2] M = rI v M1 := e1
  have t2 : xF (999 + 1) 203 [.inr 62, .inl a1, .inl a2] M1 = rI y M2 := e2
  rw [T_X_door, c_unlike7 (by decide) W X.1 (by omega) (by omega) (by omega) (by omega), pbI_rI, ite01pn] at t1
  rw [T_M_door] at t2
  generalize pset M1 60 17 0 = N at Y1 t2
  rw [m_isRoom (by decide) Y1.1.1 (by omega) (by omega) (by omega), pbI_rI] at t2
  by_cases q1 : 0 ≤ a1 ∧ a1 < (hR G : Int)
  · rw [if_pos q1, if_neg (by decide), m_isRoom (by decide) Y1.1.1 (by omega) (by omega) (by omega), pbI_rI] at t2
    by_cases q2 : 0 ≤ a2 ∧ a2 < (hR G : Int)
    · rw [if_pos q2, if_neg (by decide)] at t2
      by_cases q3 : a1 = a2
      · rw [if_neg (fun z => z.2.2 q3)] at t1
        rw [if_neg (fun z => z (by rw [q3]))] at t2
        rw [← (rI_inj t1).1, ← (rI_inj t2).1]
      · obtain ⟨x, rfl⟩ := natI q1.1
        obtain ⟨z, rfl⟩ := natI q2.1
        have hv := W.2.2.2.2.1 (6 * x + z) (by omega)
        rw [if_pos ⟨q1, q2, q3⟩, c_doorWidth7n (by decide) W X.1 (by omega) (by omega), pbI_rI] at t1
        rw [if_pos (by rw [eq32_iff] <;> omega), if_pos (by omega), show (6 * (x : Int) + (z : Int)).toNat = 6 * x + z by omega, Y1.1.2.2.2.2.1 _ (by omega)] at t2
        by_cases q4 : G 2 (6 * x + z) = 0
        · rw [if_neg (fun y => y (by rw [q4]))] at t1 t2
          rw [← (rI_inj t1).1, ← (rI_inj t2).1]
        · rw [if_pos (by rw [eq32_iff] <;> omega)] at t1
          rw [if_pos (by rw [eq32_iff] <;> omega), if_pos (by omega)] at t2
          rw [← (rI_inj t1).1, ← (rI_inj t2).1]
    · rw [if_neg (fun z => q2 z.2.1)] at t1
      rw [if_neg q2, if_pos rfl] at t2
      rw [← (rI_inj t1).1, ← (rI_inj t2).1]
  · rw [if_neg (fun z => q1 z.1)] at t1
    rw [if_neg q1, if_pos rfl] at t2
    rw [← (rI_inj t1).1, ← (rI_inj t2).1]
end ASK
/-! the texts and the aim stay the same on both sides -/
def cw (o i : Nat) : Bool := (Nat.beq o 1 && Nat.beq i 1) || Nat.beq o 2 || (Nat.beq o 60 && Nat.beq i 14) || Nat.beq o 68
def cwo (o : Nat) : Bool := Nat.beq o 1 || Nat.beq o 2 || Nat.beq o 60 || Nat.beq o 68
theorem cw_o (o i : Nat) (h : cw o i = true) : cwo o = true := by
  unfold cw at h
  unfold cwo
  simp only [Bool.or_eq_true, Bool.and_eq_true] at h ⊢
  rcases h with ((h | h) | h) | h
  · exact Or.inl (Or.inl (Or.inl h.1))
  · exact Or.inl (Or.inl (Or.inr h))
  · exact Or.inl (Or.inr h.1)
  · exact Or.inr h
def cl (o i : Nat) : Bool := Nat.beq o 2 || Nat.beq o 68
theorem cl_o (o i : Nat) (h : cl o i = true) : (Nat.beq o 2 || Nat.beq o 68) = true := h
/-- the aim is the same, and it is one of rooms that are there -/
def GA (M : pM) : Prop := (M 0 14 = 0 ∧ M 60 44 = 0) ∨ (0 < M 0 14 ∧ M 60 44 = 1 ∧ M 60 43 = M 0 14 ∧ ∀ t : Nat, (t : Int) < M 0 14 → M 58 t = M 81 t ∧ 0 ≤ M 58 t ∧ M 58 t < M 60 0)
def cg (o i : Nat) : Bool := (Nat.beq o 0 && Nat.beq i 14) || Nat.beq o 58 || (Nat.beq o 60 && (Nat.beq i 43 || Nat.beq i 44)) || Nat.beq o 81
def cgo (o : Nat) : Bool := Nat.beq o 0 || Nat.beq o 58 || Nat.beq o 60 || Nat.beq o 81
theorem cg_o (o i : Nat) (h : cg o i = true) : cgo o = true := by
  unfold cg at h
  unfold cgo
  simp only [Bool.or_eq_true, Bool.and_eq_true] at h ⊢
  rcases h with ((h | h) | h) | h
  · exact Or.inl (Or.inl (Or.inl h.1))
  · exact Or.inl (Or.inl (Or.inr h))
  · exact Or.inl (Or.inr h.1)
  · exact Or.inr h
section TXS
variable {M M1 M2 : pM} {w w1 w2 : List (Nat × Nat)} {v y : Int}
theorem TI_Fr (f : Fr w M M1) (h : okW cw cwo w = true) (T : TI M) : TI M1 := by
  have e : ∀ o i, cw o i = true → M1 o i = M o i := fun o i q => f o i (okW_no cw_o h q)
  exact ⟨by rw [e 1 1 rfl, e 60 14 rfl]; exact T.1, fun i hi => by rw [e 2 i rfl, e 68 i rfl]; exact T.2 i hi⟩
theorem TI_0 (T : TI M) (f1 : Fr w1 M M1) (h1 : okW cl (fun o => Nat.beq o 2 || Nat.beq o 68) w1 = true) (k1 : M1 1 1 = 0) (f2 : Fr w2 M1 M2) (h2 : okW cl (fun o => Nat.beq o 2 || Nat.beq o 68) w2 = true) (h3 : wOK w2 1 1 = false) (k2 : M2 60 14 = 0) : TI M2 := by
  have e1 : ∀ o i, cl o i = true → M1 o i = M o i := fun o i q => f1 o i (okW_no cl_o h1 q)
  have e2 : ∀ o i, cl o i = true → M2 o i = M1 o i := fun o i q => f2 o i (okW_no cl_o h2 q)
  exact ⟨by rw [f2 1 1 h3, k1, k2], fun i hi => by rw [e2 2 i rfl, e1 2 i rfl, e2 68 i rfl, e1 68 i rfl]; exact T.2 i hi⟩
theorem GA_Fr (f : Fr w M M1) (h : okW cg cgo w = true) (h0 : M 60 0 ≤ M1 60 0) (A : GA M) : GA M1 := by
  have e : ∀ o i, cg o i = true → M1 o i = M o i := fun o i q => f o i (okW_no cg_o h q)
  unfold GA at A ⊢
  rw [e 0 14 rfl, e 60 43 rfl, e 60 44 rfl]
  rcases A with A | ⟨a1, a2, a3, a4⟩
  · exact Or.inl A
  · refine Or.inr ⟨a1, a2, a3, fun t ht => ?_⟩
    obtain ⟨b1, b2, b3⟩ := a4 t ht
    rw [e 58 t rfl, e 81 t rfl]
    exact ⟨b1, b2, by omega⟩
theorem ge_of (f : Fr w M M1) (h : wOK w 60 0 = false) : M 60 0 ≤ M1 60 0 := by rw [f 60 0 h]; exact Int.le_refl _
theorem kc_sign (R : RI0 M) (T : TI M) {a1 : Int} (e1 : xF 1000 0 [.inr 2, .inl a1] M = rI v M1) (f1 : Fr w1 M M1) (k5 : wOK w1 60 14 = false) (k6 : ∀ i, wOK w1 68 i = false) (e2 : xF 1000 175 [.inr 62, .inl a1] M1 = rI y M2) (f2 : Fr w2 M1 M2) (k1 : wOK w2 1 1 = false) (k2 : ∀ i, wOK w2 2 i = false) : v = y ∧ TI M2 := by
  have b0 := gm_i R.1 1 1 (lo := 0) (hi := 80) (by decide +kernel) (by decide +kernel)
  obtain ⟨L, hL⟩ := natI b0.1
  have t1 := c_sign (d := 1000) (by decide) hL (by omega) (b := a1)
  have hL2 : M1 60 14 = (L : Int) := by rw [f1 60 14 k5, ← T.1]; exact hL
  have t2 := m_sign (d := 1000) (by decide) hL2 (by omega) (b := a1)
  rw [e1] at t1
  rw [e2] at t2
  by_cases q : L + 4 ≤ 80
  · rw [if_pos q] at t1 t2
    refine ⟨by rw [(rI_inj t1).1, (rI_inj t2).1], ?_, fun i hi => ?_⟩
    · rw [f2 1 1 k1, (rI_inj t1).2, (rI_inj t2).2, tapp_len (by decide), tapp_len (by decide)]
    · have m2 : M2 2 i = M1 2 i := f2 2 i (k2 i)
      have m68 : M1 68 i = M 68 i := f1 68 i (k6 i)
      rw [m2, (rI_inj t1).2, (rI_inj t2).2]
      unfold tapp
      by_cases z : L ≤ i ∧ i < L + 4
      · rw [if_pos ⟨rfl, z⟩, if_pos ⟨rfl, z⟩]; exact sg_ux a1 (i - L) (by omega)
      · rw [if_neg (fun y => z y.2), if_neg (fun y => absurd y.1 (by decide)), if_neg (fun y => z y.2), if_neg (fun y => absurd y.1 (by decide)), pset_ne (show 68 ≠ 60 by decide), m68]
        exact T.2 i hi
  · rw [if_neg q] at t1 t2
    refine ⟨by rw [(rI_inj t1).1, (rI_inj t2).1], ?_, fun i hi => ?_⟩
    · rw [f2 1 1 k1, (rI_inj t2).2, pset_ne2 (show 14 ≠ 17 by decide), hL2, (rI_inj t1).2, hL]
    · have m2 : M2 2 i = M1 2 i := f2 2 i (k2 i)
      have m68 : M1 68 i = M 68 i := f1 68 i (k6 i)
      rw [m2, (rI_inj t2).2, pset_ne (show 68 ≠ 60 by decide), m68, (rI_inj t1).2]
      exact T.2 i hi
theorem kc_end (R : RI0 M) (T : TI M) {a1 : Int} (h1 : -2147483648 ≤ a1 ∧ a1 ≤ 2147483647) (e1 : xF 1000 1 [.inr 2, .inl a1] M = rI v M1) (f1 : Fr w1 M M1) (k5 : wOK w1 60 14 = false) (e2 : xF 1000 176 [.inr 62, .inl a1] M1 = rI y M2) (f2 : Fr w2 M1 M2) (k1 : wOK w2 1 1 = false) (l1 : okW cl (fun o => Nat.beq o 2 || Nat.beq o 68) w1 = true) (l2 : okW cl (fun o => Nat.beq o 2 || Nat.beq o 68) w2 = true) : v = y ∧ TI M2 := by
  have b0 := gm_i R.1 1 1 (lo := 0) (hi := 80) (by decide +kernel) (by decide +kernel)
  have k60 : M1 60 14 = M 1 1 := by rw [f1 60 14 k5]; exact T.1.symm
  have g1 : ∀ o i, cl o i = true → M1 o i = M o i := fun o i q => f1 o i (okW_no cl_o l1 q)
  have g2 : ∀ o i, cl o i = true → M2 o i = M1 o i := fun o i q => f2 o i (okW_no cl_o l2 q)
  have lt : ∀ i, i < 80 → M2 2 i = ux (M2 68 i) := fun i hi => by rw [g2 2 i rfl, g1 2 i rfl, g2 68 i rfl, g1 68 i rfl]; exact T.2 i hi
  have t1 : xF (999 + 1) 1 [.inr 2, .inl a1] M = rI v M1 := e1
  have t2 : xF (999 + 1) 176 [.inr 62, .inl a1] M1 = rI y M2 := e2
  rw [T_X_end, x_cut (by decide) h1.1 (by omega) R.1] at t1
  rw [T_M_end, m_in (by decide), pbI_rI, pset_ne2 (show 14 ≠ 17 by decide), k60] at t2
  by_cases q : 0 ≤ a1 ∧ a1 ≤ M 1 1
  · rw [if_pos q, pbI_rI, if_pos (Or.inr rfl)] at t1
    have hz : ¬ (lt32 a1 0 ∨ lt32 (M 1 1) a1) := by
      rw [lt32_iff (by omega) (by omega) (by omega) (by omega), lt32_iff (by omega) (by omega) (by omega) (by omega)]
      omega
    rw [if_neg hz, if_pos (by decide)] at t2
    exact ⟨by rw [← (rI_inj t1).1, ← (rI_inj t2).1], by rw [f2 1 1 k1, ← (rI_inj t1).2, ← (rI_inj t2).2, pset_eq, pset_eq], lt⟩
  · rw [if_neg q, pbI_rI, if_pos (Or.inl rfl)] at t1
    have hz : lt32 a1 0 ∨ lt32 (M 1 1) a1 := by
      rw [lt32_iff (by omega) (by omega) (by omega) (by omega), lt32_iff (by omega) (by omega) (by omega) (by omega)]
      omega
    rw [if_pos hz, if_neg (fun z => z rfl)] at t2
    exact ⟨by rw [← (rI_inj t1).1, ← (rI_inj t2).1], by rw [f2 1 1 k1, ← (rI_inj t2).2, pset_ne2 (show 14 ≠ 17 by decide), k60, ← (rI_inj t1).2], lt⟩
theorem amA_pos {tx : Nat → Int} {L T R : Nat} (hR : R ≤ 6) (h : 0 < amA tx L T R) : L ≠ 0 ∧ amA tx L T R = (L : Int) ∧ ∀ i, i < L → 48 ≤ tx i ∧ tx i ≤ (R : Int) + 47 := by
  by_cases q : L = 0
  · have u : amA tx L T R = 0 := if_pos q
    rw [u] at h; omega
  · have u : amA tx L T R = match amS tx (min L T) R T with
      | .inl p => -1 - (p : Int)
      | .inr _ => if L ≤ T then (L : Int) else -1 - (T : Int) := if_neg q
    cases z : amS tx (min L T) R T with
    | inl p =>
      rw [z] at u
      have u : amA tx L T R = -1 - (p : Int) := u
      omega
    | inr a =>
      rw [z] at u
      have u : amA tx L T R = if L ≤ T then (L : Int) else -1 - (T : Int) := u
      by_cases q2 : L ≤ T
      · rw [if_pos q2] at u
        refine ⟨q, u, fun i hi => ?_⟩
        have := (amS_inr hR T a z).2 i (by omega)
        unfold hc at this
        rw [if_pos (by omega)] at this; exact this
      · rw [if_neg q2] at u; omega
theorem kc_aim (R : RI0 M) (C : CI M) (T : TI M) (A : GA M) (e1 : xF 1000 38 [.inr 2] M = rI v M1) (f1 : Fr [(0, 14), (1, 1), (3, 1), (3, 2), (3, 3), (58, 999)] M M1) (e2 : xF 1000 255 [.inr 62] M1 = rI y M2) (f2 : Fr [(60, 14), (60, 17), (60, 43), (60, 44), (81, 999)] M1 M2) : v = y ∧ GA M2 ∧ M1 1 1 = 0 ∧ M2 60 14 = 0 := by
  obtain ⟨G, X, Y⟩ := C
  obtain ⟨W, -⟩ := ci_facts R X Y
  have b0 := gm_i R.1 1 1 (lo := 0) (hi := 80) (by decide +kernel) (by decide +kernel)
  obtain ⟨L, hL⟩ := natI b0.1
  have htx : ∀ i, i < 80 → -128 ≤ M 68 i ∧ M 68 i ≤ 127 := fun i hi => gm_r R.1 (o := 68) (lo := -128) (hi := 127) (by decide +kernel) (by decide +kernel) (show i < 80 from hi)
  obtain ⟨N1, t1, k1, a1, -⟩ := x_aim (tx := fun i => M 68 i) (R := hR G) (T := hT G) (L := L) (M := M) (d := 1000) (by decide) W.1 W.2.1 (by omega) X.1.1 X.1.2.1 hL T.2 htx
  obtain ⟨rfl, rfl⟩ := rI_inj (e1.symm.trans t1)
  have Y0 : M1 60 0 = (hR G : Int) := by rw [f1 60 0 (by decide)]; exact Y.1.1
  obtain ⟨N2, t2, k2, a2, -⟩ := m_aim (tx := fun i => M 68 i) (R := hR G) (T := hT G) (L := L) (M := M1) (d := 1000) (by decide) W.1 W.2.1 (by omega) Y0 (by rw [f1 60 3 (by decide)]; exact Y.1.2.1) (by rw [f1 60 14 (by decide), ← T.1]; exact hL) (fun i _ => f1 68 i (wOK_no (by decide) i)) htx
  obtain ⟨rfl, rfl⟩ := rI_inj (e2.symm.trans t2)
  refine ⟨rfl, ?_, k1, k2⟩
  have c14 : M2 0 14 = M1 0 14 := f2 0 14 (by decide)
  have c58 : ∀ t, M2 58 t = M1 58 t := fun t => f2 58 t (wOK_no (by decide) t)
  have c0 : M2 60 0 = (hR G : Int) := by rw [f2 60 0 (by decide)]; exact Y0
  have d0 : M 60 0 = (hR G : Int) := Y.1.1
  unfold amX at a1
  unfold amM at a2
  by_cases q : 0 < amA (fun i => M 68 i) L (hT G) (hR G)
  · rw [if_pos q] at a1 a2
    obtain ⟨l1, l2, l3⟩ := amA_pos W.1 q
    refine Or.inr ⟨by rw [c14, a1.1]; omega, a2.2.1, by rw [a2.1, c14, a1.1], fun t ht => ?_⟩
    rw [c14, a1.1] at ht
    have l4 := l3 t (by omega)
    have l4 : 48 ≤ M 68 t ∧ M 68 t ≤ (hR G : Int) + 47 := l4
    rw [c58, a1.2 t (by omega), a2.2.2 t (by omega), c0]
    show M 68 t - 48 = M 68 t - 48 ∧ 0 ≤ M 68 t - 48 ∧ M 68 t - 48 < (hR G : Int)
    exact ⟨rfl, by omega, by omega⟩
  · rw [if_neg q] at a1 a2
    by_cases q2 : L = 0
    · rw [if_pos q2] at a1 a2
      exact Or.inl ⟨by rw [c14]; exact a1, a2⟩
    · rw [if_neg q2] at a1 a2
      have m44 : M1 60 44 = M 60 44 := f1 60 44 (by decide)
      have m43 : M1 60 43 = M 60 43 := f1 60 43 (by decide)
      have m81 : ∀ t, M1 81 t = M 81 t := fun t => f1 81 t (wOK_no (by decide) t)
      unfold GA at A ⊢
      rw [c14, a1.1, a2.1, a2.2.1, m44, m43]
      rcases A with A | ⟨b1, b2, b3, b4⟩
      · exact Or.inl A
      · refine Or.inr ⟨b1, b2, b3, fun t ht => ?_⟩
        have := b4 t ht
        rw [c58, a1.2 t, a2.2.2 t, m81, c0]
        exact ⟨this.1, this.2.1, by omega⟩
end TXS
/-! way, widest, stuck: what they answer, on both sides -/
theorem pbI_inv {x : Option pR} {f : Int → pM → Option pR} {r : pR} (h : pbI x f = some r) : ∃ v M1, x = rI v M1 ∧ f v M1 = some r := by
  unfold pbI at h
  split at h
  · exact ⟨_, _, rfl, h⟩
  · cases h
def wdS (G : pM) (a b : Nat) : Nat → Int
  | 0 => 0
  | w + 1 => if stp G ((w + 1 : Nat) : Int) a b < 0 then wdS G a b w else ((w + 1 : Nat) : Int)
/-- some room of the first k is not come to -/
def stK (G : pM) (t : Nat) : Nat → Bool
  | 0 => false
  | k + 1 => stK G t k || decide (stp G (G 4 t) (G 6 t).toNat k < 0)
section WYS
variable {D d : Nat} {M M' G : pM} {w : Int}
theorem rch_le {a b n : Nat} : ∀ m, (rch G w a n).testBit b = true → (rch G w a (n + m)).testBit b = true
  | 0, h => h
  | m + 1, h => rch_mono (rch_le m h)
theorem stp_iff (W : WF G) {a r : Nat} (ha : a < hR G) : 0 ≤ stp G w a r ↔ (rch G w a (hR G - 1)).testBit r = true := by
  unfold stp
  rcases firstN_spec (fun n => (rch G w a n).testBit r) (hR G) 0 with ⟨e, no⟩ | ⟨j, e, j0, j1, j2, j3⟩
  · rw [e]
    have := no (hR G - 1) (by omega) (by omega)
    constructor
    · intro z; omega
    · intro z; rw [this] at z; cases z
  · rw [e]
    have := rch_le (hR G - 1 - j) j2
    rw [show j + (hR G - 1 - j) = hR G - 1 by omega] at this
    exact ⟨fun _ => this, fun _ => by omega⟩
theorem stK_iff {t : Nat} : ∀ k, stK G t k = true ↔ ∃ r, r < k ∧ stp G (G 4 t) (G 6 t).toNat r < 0
  | 0 => by
    constructor
    · intro h; cases h
    · rintro ⟨r, h, -⟩; omega
  | k + 1 => by
    show (stK G t k || decide (stp G (G 4 t) (G 6 t).toNat k < 0)) = true ↔ _
    rw [Bool.or_eq_true, stK_iff k, decide_eq_true_iff]
    constructor
    · rintro (⟨r, h1, h2⟩ | h)
      · exact ⟨r, by omega, h2⟩
      · exact ⟨k, Nat.lt_succ_self k, h⟩
    · rintro ⟨r, h1, h2⟩
      rcases Nat.lt_or_ge r k with q | q
      · exact Or.inl ⟨r, q, h2⟩
      · have : r = k := by omega
        rw [this] at h2; exact Or.inr h2
theorem st_all (W : WF G) {t : Nat} (ht : t < hT G) : (rch G (G 4 t) (G 6 t).toNat (hR G - 1) = 2 ^ hR G - 1) ↔ stK G t (hR G) = false := by
  have w1 := W.1
  have hw := W.2.2.2.2.2.2.2.1 t ht
  have ha : (G 6 t).toNat < hR G := by omega
  constructor
  · intro e
    cases z : stK G t (hR G) with
    | false => rfl
    | true =>
      obtain ⟨r, h1, h2⟩ := (stK_iff _).mp z
      have : 0 ≤ stp G (G 4 t) (G 6 t).toNat r := (stp_iff W ha).mpr (by rw [e, Nat.testBit_two_pow_sub_one]; exact decide_eq_true h1)
      omega
  · intro z
    refine Nat.eq_of_testBit_eq fun i => ?_
    rw [Nat.testBit_two_pow_sub_one]
    by_cases q : i < hR G
    · rw [decide_eq_true q]
      refine (stp_iff W ha).mp ?_
      apply Classical.byContradiction
      intro y
      have := (stK_iff (G := G) (t := t) (hR G)).mpr ⟨i, q, by omega⟩
      rw [z] at this; cases this
    · rw [decide_eq_false q]
      cases e : (rch G (G 4 t) (G 6 t).toNat (hR G - 1)).testBit i with
      | false => rfl
      | true => exact absurd (rch_room W hw.2.1.1 ha _ _ e) q
theorem jor_pdV {b s : Nat} (hs : s < 10) (hb : b < 2 ^ s) (c : Bool) : jor (pdV b s c) (jshl 1 (s : Int)) = pdV b s true := by
  have h1 : 2 ^ s < 1024 := show 2 ^ s < 2 ^ 10 from Nat.pow_lt_pow_right (by decide) hs
  unfold pdV
  rw [jshl_one s (by omega)]
  cases c with
  | false => rw [if_neg (by decide), if_pos rfl, jor_nat (by omega) (by omega)]
  | true =>
    have := or_pow_lt hb
    have h2 : 2 ^ (s + 1) ≤ 2 ^ 10 := Nat.pow_le_pow_right (by decide) (by omega)
    rw [if_pos rfl, jor_nat (by omega) (by omega), show (b ||| 2 ^ s ||| 2 ^ s) = (b ||| 2 ^ s) by rw [Nat.or_assoc, Nat.or_self]]
theorem pdV_lt {b s : Nat} (hs : s < 10) (hb : b < 2 ^ s) (c : Bool) : ∃ n : Nat, pdV b s c = (n : Int) ∧ n < 2147483648 := by
  have h1 : 2 ^ s < 1024 := show 2 ^ s < 2 ^ 10 from Nat.pow_lt_pow_right (by decide) hs
  have := or_pow_lt hb
  have h2 : 2 ^ (s + 1) ≤ 2 ^ 10 := Nat.pow_le_pow_right (by decide) (by omega)
  unfold pdV
  refine ⟨_, rfl, ?_⟩
  split <;> omega
theorem x_stuck (hd : 5 ≤ d) (W : WF G) (X : XG M G) : xF d 36 [.inr 2] M = rI (bitsOf (fun t => stK G t (hR G)) (hT G) : Nat) M := by
  obtain ⟨D, rfl, hD⟩ := dsucc hd
  have w1 := W.1
  have w2 := W.2.1
  rw [T_X_stuck]
  have key := bits_loop (fun b k => xE D 36 4 [.inr 2, .inl b, .inl k] [] M) (hT G) (fun t => stK G t (hR G)) (fun k b hk hb => by
    have hw := W.2.2.2.2.2.2.2.1 k hk
    obtain ⟨y1, y2, y3, y4⟩ := X.1.2.2.2.2.2.1 k hk
    obtain ⟨z, hz⟩ := natI hw.2.2.2.1
    have hl := rch_lt (h := G) (w := G 4 k) (a := z) (by omega) (hR G - 1)
    have hp := p_R W
    have sa := st_all W hk
    rw [hz, Int.toNat_natCast] at sa
    rw [L_X_stuck_4, X.1.2.1, if_neg (by rw [le32_iff] <;> omega), if_pos (by omega), if_pos (by omega), Int.toNat_natCast, y2, y4, hz, c_roomsFrom (by omega) W X.1 (by omega) (by omega) (by omega), pbI_rI, c_allRooms (by omega) W X.1, pbI_rI]
    by_cases q : rch G (G 4 k) z (hR G - 1) = 2 ^ hR G - 1
    · rw [if_pos (by rw [q]), if_neg (by rw [sa.mp q]; decide)]
    · have : stK G k (hR G) = true := by
        cases e : stK G k (hR G) with
        | true => rfl
        | false => exact absurd (sa.mpr e) q
      rw [if_neg (by rw [eq32_iff] <;> omega), if_pos this, jor_shl hb (by omega)])
  rw [key, L_X_stuck_4, X.1.2.1, if_pos (by rw [le32_iff] <;> omega)]
theorem m_st13 (hD : 4 ≤ D) (W : WF G) {t b : Nat} (ht : t < hT G) (hb : b < 2 ^ t) : ∀ (m k : Nat) (M : pM), k + m = hR G → MG M G → ∃ M', xE D 252 13 [.inr 62, .inl (pdV b t (stK G t k)), .inl (t : Int), .inl (k : Int)] [] M = xE D 252 7 [.inr 62, .inl (pdV b t (stK G t (hR G))), .inl ((t + 1 : Nat) : Int), .inl (hR G : Int)] [] M' ∧ MG M' G := by
  have w1 := W.1
  have w2 := W.2.1
  intro m
  induction m with
  | zero =>
    intro k M hk X
    have e : k = hR G := by omega
    rw [L_M_stuck_13, X.1.1, if_pos (by rw [le32_iff] <;> omega), show ((t : Int) + 1) = ((t + 1 : Nat) : Int) by omega, e]
    exact ⟨M, rfl, X⟩
  | succ m ih =>
    intro k M hk X
    have hw := W.2.2.2.2.2.2.2.1 t ht
    obtain ⟨y1, y2, y3, y4⟩ := X.1.2.2.2.2.2.1 t ht
    obtain ⟨z, hz⟩ := natI hw.2.2.2.1
    have sr := stp_range W (G 4 t) z k
    obtain ⟨M1, e1, f1⟩ := m_stepsF (d := D) (M := M) (t := t) (a := z) (b := k) (by omega) W ht (by omega) (by omega) y2 X.1.2.2.2.2.1 X.1.1
    have X1 : MG M1 G := MG_ag (fun o i q => f1 o i (fun z => by rw [z] at q; cases q)) X
    obtain ⟨n, hn1, hn2⟩ := pdV_lt (show t < 10 by omega) hb (stK G t k)
    rw [L_M_stuck_13, X.1.1, if_neg (by rw [le32_iff] <;> omega), if_pos (by omega), Int.toNat_natCast, y4, hz, e1, pbI_rI, show ((k : Int) + 1) = ((k + 1 : Nat) : Int) by omega]
    have us : stK G t (k + 1) = (stK G t k || decide (stp G (G 4 t) z k < 0)) := by
      show (stK G t k || decide (stp G (G 4 t) (G 6 t).toNat k < 0)) = _
      rw [hz, Int.toNat_natCast]
    obtain ⟨M2, e2, X2⟩ := ih (k + 1) M1 (by omega) X1
    refine ⟨M2, ?_, X2⟩
    rw [← e2, us]
    unfold fv
    by_cases q : stp G (G 4 t) z k < 0
    · rw [if_pos q, if_neg (by decide), jor_pdV (by omega) hb, decide_eq_true q, Bool.or_true]
    · rw [if_neg q, if_pos (by rw [lt32_iff] <;> omega), decide_eq_false q, Bool.or_false, hn1, jor_0 hn2]
theorem m_st7 (hD : 4 ≤ D) (W : WF G) : ∀ (m t : Nat) (y : pV) (M : pM), t + m = hT G → MG M G → ∃ M', xE D 252 7 [.inr 62, .inl (bitsOf (fun t => stK G t (hR G)) t : Nat), .inl (t : Int), y] [] M = rI (bitsOf (fun t => stK G t (hR G)) (hT G) : Nat) M' := by
  have w2 := W.2.1
  intro m
  induction m with
  | zero =>
    intro t y M ht X
    have e : t = hT G := by omega
    rw [L_M_stuck_7, X.1.2.1, if_pos (by rw [le32_iff] <;> omega), e]
    exact ⟨M, rfl⟩
  | succ m ih =>
    intro t y M ht X
    have hb := bitsOf_lt (fun t => stK G t (hR G)) t
    obtain ⟨M1, e1, X1⟩ := m_st13 (D := D) hD W (t := t) (by omega) hb (hR G) 0 M (by omega) X
    have u0 : pdV (bitsOf (fun t => stK G t (hR G)) t) t (stK G t 0) = ((bitsOf (fun t => stK G t (hR G)) t : Nat) : Int) := rfl
    have u1 : pdV (bitsOf (fun t => stK G t (hR G)) t) t (stK G t (hR G)) = ((bitsOf (fun t => stK G t (hR G)) (t + 1) : Nat) : Int) := rfl
    rw [u0, u1] at e1
    obtain ⟨M2, e2⟩ := ih (t + 1) (.inl (hR G : Int)) M1 (by omega) X1
    rw [L_M_stuck_7, X.1.2.1, if_neg (by rw [le32_iff] <;> omega)]
    exact ⟨M2, e1.trans e2⟩
theorem x_wd14 (hD : 3 ≤ D) (W : WF G) (X : XG M G) {a b : Nat} (ha : a < hR G) (hb : b < hR G) : ∀ n : Nat, n ≤ 9 → xE D 35 14 [.inr 2, .inl (a : Int), .inl (b : Int), .inl (n : Int)] [] M = rI (wdS G a b n) M
  | 0, _ => by rw [L_X_widest_14, if_pos (by decide)]; rfl
  | n + 1, hw => by
    have sr := stp_range W ((n + 1 : Nat) : Int) a b
    rw [L_X_widest_14, if_neg (by rw [le32_iff] <;> omega), c_steps hD W X.1 ha hb (by omega) (by omega), pbI_rI]
    show _ = rI (if stp G ((n + 1 : Nat) : Int) a b < 0 then wdS G a b n else ((n + 1 : Nat) : Int)) M
    by_cases q : stp G ((n + 1 : Nat) : Int) a b < 0
    · rw [if_pos (by rw [lt32_iff] <;> omega), if_pos q, show (((n + 1 : Nat) : Int) + (-1)) = (n : Int) by omega]
      exact x_wd14 hD W X ha hb n (by omega)
    · rw [if_neg (by rw [lt32_iff] <;> omega), if_neg q]
theorem m_wd15 (hD : 2 ≤ D) (W : WF G) {a b : Nat} (ha : a < hR G) (hb : b < hR G) : ∀ (n : Nat) (M : pM), n ≤ 9 → MG M G → ∃ M', xE D 251 15 [.inr 62, .inl (a : Int), .inl (b : Int), .inl (n : Int)] [] M = rI (wdS G a b n) M'
  | 0, M, _, _ => ⟨M, by rw [L_M_widest_15, if_pos (by decide)]; rfl⟩
  | n + 1, M, hw, X => by
    have w1 := W.1
    have sr := stp_range W ((n + 1 : Nat) : Int) a b
    obtain ⟨M1, e1, r1, f1⟩ := m_far (d := D) (M := M) hD W (w := ((n + 1 : Nat) : Int)) (by omega) (by omega) hb X.1.2.2.2.2.1 X.1.1
    have X1 : MG M1 G := MG_ag (fun o i q => f1 o i (fun z => by rw [z] at q; cases q)) X
    rw [L_M_widest_15, if_neg (by rw [le32_iff] <;> omega), e1, pbN_rV, if_pos (by omega), Int.toNat_natCast, r1 a ha, fv_comm W hb ha]
    show ∃ M', _ = rI (if stp G ((n + 1 : Nat) : Int) a b < 0 then wdS G a b n else ((n + 1 : Nat) : Int)) M'
    unfold fv
    by_cases q : stp G ((n + 1 : Nat) : Int) a b < 0
    · rw [if_pos q, if_pos (by decide), if_pos q, show (((n + 1 : Nat) : Int) + (-1)) = (n : Int) by omega]
      exact m_wd15 hD W ha hb n M1 (by omega) X1
    · rw [if_neg q, if_neg (by rw [le32_iff] <;> omega), if_neg q]
      exact ⟨M1, rfl⟩
theorem x_wyv (x1 x2 x3 x5 : Int) : ∀ (k : Nat) (x4 : Int) (M M' : pM) (z : Int), k ≤ 100 → xE D 34 42 [.inr 2, .inl x1, .inl x2, .inl x3, .inl x4, .inl x5, .inl ((k : Int) - 1)] [] M = rI z M' → z = x5
  | 0, x4, M, M', z, _, e => by
    rw [L_X_way_42, if_pos (by decide)] at e
    exact (rI_inj e).1.symm
  | k + 1, x4, M, M', z, hk, e => by
    rw [L_X_way_42, if_neg (by rw [lt32_iff] <;> omega)] at e
    obtain ⟨v, M1, -, e2⟩ := pbI_inv e
    obtain ⟨M2, -, e3⟩ := pbN_inv e2
    rw [show (((k + 1 : Nat) : Int) - 1 + (-1)) = (k : Int) - 1 by omega] at e3
    exact x_wyv x1 x2 x3 x5 k v M2 M' z (by omega) e3
theorem m_wyv (x1 x2 x3 : Int) : ∀ (k : Nat) (x4 : Int) (y : pV) (M M' : pM) (z : Int), k ≤ 100 → xE D 250 45 [.inr 62, .inl x1, .inl x2, .inl x3, .inl x4, .inl ((k : Int) - 1), y] [] M = rI z M' → z = x3
  | 0, x4, y, M, M', z, _, e => by
    rw [L_M_way_45, if_pos (by decide)] at e
    exact (rI_inj e).1.symm
  | k + 1, x4, y, M, M', z, hk, e => by
    rw [L_M_way_45, if_neg (by rw [lt32_iff] <;> omega)] at e
    have inner : ∀ (m x : Nat) (M : pM), x + m = 6 → xE D 250 49 [.inr 62, .inl x1, .inl x2, .inl x3, .inl x4, .inl (((k + 1 : Nat) : Int) - 1), .inl (x : Int)] [] M = rI z M' → z = x3 := by
      intro m
      induction m with
      | zero =>
        intro x M hx e
        rw [L_M_way_49, if_neg (by omega)] at e
        cases e
      | succ m ih =>
        intro x M hx e
        have nx := ih (x + 1) M (by omega)
        rw [L_M_way_49, if_pos (by omega), show ((x : Int) + 1) = ((x + 1 : Nat) : Int) by omega] at e
        split at e
        · exact nx e
        · split at e
          · split at e
            · split at e
              · obtain ⟨M2, -, e3⟩ := pbN_inv e
                rw [show (((k + 1 : Nat) : Int) - 1 + (-1)) = (k : Int) - 1 by omega] at e3
                exact m_wyv x1 x2 x3 k _ _ M2 M' z (by omega) e3
              · exact nx e
            · cases e
          · cases e
    exact inner 6 0 M (by omega) e
theorem kc_way (R : RI0 M) (C : CI M) {M1 M2 : pM} {w1 : List (Nat × Nat)} {v y a1 a2 : Int} (h1 : -2147483648 ≤ a1 ∧ a1 ≤ 2147483647) (h2 : -2147483648 ≤ a2 ∧ a2 ≤ 2147483647) (e1 : xF 1000 34 [.inr 2, .inl a1, .inl a2] M = rI v M1) (f1 : Fr w1 M M1) (k1 : okW cm cmo w1 = true) (e2 : xF 1000 250 [.inr 62, .inl a1, .inl a2] M1 = rI y M2) : v = y := by
  obtain ⟨G, X, Y⟩ := C
  obtain ⟨W, -⟩ := ci_facts R X Y
  have w1' := W.1
  have w2' := W.2.1
  have Y1 := MG_thr (MG_Fr f1 k1 Y)
  have t1 : xF (999 + 1) 34 [.inr 2, .inl a1, .inl a2] M = rI v M1 := e1
  have t2 : xF (999 + 1) 250 [.inr 62, .inl a1, .inl a2] M1 = rI y M2 := e2
  rw [T_X_way, c_isThing7 (by decide) W X.1 (by omega) (by omega), pbI_rI, ite01p] at t1
  rw [T_M_way] at t2
  generalize pset M1 60 17 0 = N at Y1 t2
  rw [m_isThing (by decide) Y1.1.2.1 (by omega) (by omega) (by omega), pbI_rI] at t2
  by_cases q1 : 0 ≤ a1 ∧ a1 < (hT G : Int)
  · rw [if_pos q1, c_isRoom7 (by decide) W X.1 (by omega) (by omega), pbI_rI, ite01pn] at t1
    rw [if_pos q1, if_neg (by decide), m_isRoom (by decide) Y1.1.1 (by omega) (by omega) (by omega), pbI_rI] at t2
    by_cases q2 : 0 ≤ a2 ∧ a2 < (hR G : Int)
    · obtain ⟨x, rfl⟩ := natI q1.1
      obtain ⟨r, rfl⟩ := natI q2.1
      have hw := W.2.2.2.2.2.2.2.1 x (by omega)
      obtain ⟨z, hz⟩ := natI hw.2.2.2.1
      obtain ⟨-, x2, -, x4⟩ := X.1.2.2.2.2.2.1 x (by omega)
      obtain ⟨-, y2, -, y4⟩ := Y1.1.2.2.2.2.2.1 x (by omega)
      have i0 : (0 : Int) ≤ (x : Int) ∧ (x : Int) < 10 := by omega
      have sr := stp_range W (G 4 x) z r
      obtain ⟨N1, e3, r3, f3⟩ := m_far (d := 999) (M := N) (by decide) W hw.2.1.1 hw.2.1.2 (show r < hR G by omega) Y1.1.2.2.2.2.1 Y1.1.1
      have ef : N1 74 z = fv G (G 4 x) z r := by rw [r3 z (by omega), fv_comm W (by omega) (by omega)]
      rw [if_pos q2, if_pos i0, if_pos i0, Int.toNat_natCast, x2, x4, hz, c_steps (by decide) W X.1 (by omega) (by omega) (by omega) (by omega), pbI_rI] at t1
      rw [if_pos q2, if_pos (by decide), if_pos i0, Int.toNat_natCast, y2, e3, pbN_rV, if_pos i0, f3 66 x (by decide), y4, hz, if_pos (by omega), Int.toNat_natCast, ef] at t2
      unfold fv at t2
      by_cases q3 : stp G (G 4 x) z r < 0
      · rw [if_neg (by rw [le32_iff] <;> omega)] at t1
        rw [if_pos q3, if_neg (by decide)] at t2
        rw [← (rI_inj t1).1, ← (rI_inj t2).1]
      · rw [if_pos (by rw [le32_iff] <;> omega), T_Numbers_start 998, pbN_rV] at t1
        rw [if_neg q3, if_pos (by rw [lt32_iff] <;> omega), if_pos i0] at t2
        obtain ⟨n, hn⟩ := natI (show 0 ≤ stp G (G 4 x) z r by omega)
        rw [hn] at t1 t2 sr
        rw [x_wyv _ _ _ _ n _ _ _ _ (by omega) t1, m_wyv _ _ _ n _ _ _ _ _ (by omega) t2]
    · rw [if_neg q2] at t1
      rw [if_neg q2, if_neg (fun z => z rfl)] at t2
      rw [← (rI_inj t1).1, ← (rI_inj t2).1]
  · rw [if_neg q1] at t1
    rw [if_neg q1, if_pos rfl] at t2
    rw [← (rI_inj t1).1, ← (rI_inj t2).1]
theorem kc_widest (R : RI0 M) (C : CI M) {M1 M2 : pM} {w1 : List (Nat × Nat)} {v y a1 a2 : Int} (h1 : -2147483648 ≤ a1 ∧ a1 ≤ 2147483647) (h2 : -2147483648 ≤ a2 ∧ a2 ≤ 2147483647) (e1 : xF 1000 35 [.inr 2, .inl a1, .inl a2] M = rI v M1) (f1 : Fr w1 M M1) (k1 : okW cm cmo w1 = true) (e2 : xF 1000 251 [.inr 62, .inl a1, .inl a2] M1 = rI y M2) : v = y := by
  obtain ⟨G, X, Y⟩ := C
  obtain ⟨W, -⟩ := ci_facts R X Y
  have w1' := W.1
  have Y1 := MG_thr (MG_Fr f1 k1 Y)
  have t1 : xF (999 + 1) 35 [.inr 2, .inl a1, .inl a2] M = rI v M1 := e1
  have t2 : xF (999 + 1) 251 [.inr 62, .inl a1, .inl a2] M1 = rI y M2 := e2
  rw [T_X_widest, c_isRoom7 (by decide) W X.1 (by omega) (by omega), pbI_rI, ite01p] at t1
  rw [T_M_widest] at t2
  generalize pset M1 60 17 0 = N at Y1 t2
  rw [m_isRoom (by decide) Y1.1.1 (by omega) (by omega) (by omega), pbI_rI] at t2
  by_cases q1 : 0 ≤ a1 ∧ a1 < (hR G : Int)
  · rw [if_pos q1, c_isRoom7 (by decide) W X.1 (by omega) (by omega), pbI_rI, ite01pn] at t1
    rw [if_pos q1, if_neg (by decide), m_isRoom (by decide) Y1.1.1 (by omega) (by omega) (by omega), pbI_rI] at t2
    by_cases q2 : 0 ≤ a2 ∧ a2 < (hR G : Int)
    · obtain ⟨x, rfl⟩ := natI q1.1
      obtain ⟨r, rfl⟩ := natI q2.1
      have u1 := x_wd14 (D := 999) (by decide) W X (a := x) (b := r) (by omega) (by omega) 9 (by decide)
      obtain ⟨N1, u2⟩ := m_wd15 (D := 999) (by decide) W (a := x) (b := r) (by omega) (by omega) 9 N (by decide) Y1
      have u1' : xE 999 35 14 [.inr 2, .inl (x : Int), .inl (r : Int), .inl 9] [] M = _ := u1
      have u2' : xE 999 251 15 [.inr 62, .inl (x : Int), .inl (r : Int), .inl 9] [] N = _ := u2
      rw [if_pos q2, u1'] at t1
      rw [if_pos q2, if_pos (by decide), u2'] at t2
      rw [← (rI_inj t1).1, ← (rI_inj t2).1]
    · rw [if_neg q2] at t1
      rw [if_neg q2, if_neg (fun z => z rfl)] at t2
      rw [← (rI_inj t1).1, ← (rI_inj t2).1]
  · rw [if_neg q1] at t1
    rw [if_neg q1, if_pos rfl] at t2
    rw [← (rI_inj t1).1, ← (rI_inj t2).1]
theorem kc_stuck (R : RI0 M) (C : CI M) {M1 M2 : pM} {w1 : List (Nat × Nat)} {v y : Int} (e1 : xF 1000 36 [.inr 2] M = rI v M1) (f1 : Fr w1 M M1) (k1 : okW cm cmo w1 = true) (e2 : xF 1000 252 [.inr 62] M1 = rI y M2) : v = y := by
  obtain ⟨G, X, Y⟩ := C
  obtain ⟨W, -⟩ := ci_facts R X Y
  have Y1 := MG_thr (MG_Fr f1 k1 Y)
  have t2 : xF (999 + 1) 252 [.inr 62] M1 = rI y M2 := e2
  rw [x_stuck (by decide) W X] at e1
  rw [T_M_stuck] at t2
  obtain ⟨N1, u2⟩ := m_st7 (D := 999) (by decide) W (hT G) 0 (.inr 0) _ (by omega) Y1
  have u2' : xE 999 252 7 [.inr 62, .inl 0, .inl 0, .inr 0] [] (pset M1 60 17 0) = _ := u2
  rw [u2'] at t2
  rw [← (rI_inj e1).1, ← (rI_inj t2).1]
end WYS
/-! what it costs to come to another arrangement, on both sides: swap, apart -/
section CTO
variable {D d : Nat} {M M' N G h : pM} {p q : Nat → Int}
theorem stp_self {w : Int} {a : Nat} (hR0 : 0 < hR h) : stp h w a a = 0 := by
  unfold stp
  have : (rch h w a 0).testBit a = true := rch_zero.mpr rfl
  rcases firstN_spec (fun n => (rch h w a n).testBit a) (hR h) 0 with ⟨-, no⟩ | ⟨j, e, -, -, -, j3⟩
  · have := no 0 (by omega) (by omega)
    simp only [*] at this
    cases this
  · rw [e]
    rcases Nat.eq_zero_or_pos j with z | z
    · rw [z]; rfl
    · have u := j3 0 (by omega) z
      simp only [*] at u
      cases u
theorem cto_range (W : WF h) (p : Nat → Int) : -1 ≤ cto h p ∧ cto h p ≤ 450 := by
  have w2 := W.2.1
  unfold cto
  split
  · rename_i z
    have := sumTo_range (f := csp h p) (lo := 0) (hi := 45) (n := hT h) (fun t ht => ⟨of_decide_eq_true (allTo_iff.mp z t ht), (cst_range W ht _ _).2⟩)
    omega
  · decide
theorem m_cl78 (hD : 4 ≤ D) (W : WF h) (X : MH M h) (P : PL M h 78 p) : ∀ (m k : Nat) (y : pV) (N : pM), k + m = hT h → (∀ o i, o ≠ 74 → N o i = M o i) → (∀ t, t < k → 0 ≤ csp h p t) → ∃ M', xE D 209 4 [.inr 62, .inr 68, .inl 0, .inr 80, .inl 0, .inl (sumTo (csp h p) k), .inl (k : Int), y] [] N = rI (if cto h p < 0 then 1000000 else cto h p) M' ∧ ∀ o i, o ≠ 74 → M' o i = M o i := by
  have w1 := W.1
  have w2 := W.2.1
  intro m
  induction m with
  | zero =>
    intro k y N hk F C
    have e : k = hT h := by omega
    rw [L_M_costOf_66_78_4, F 60 3 (by decide), X.2.1, if_pos (by rw [le32_iff] <;> omega)]
    have c : cto h p = sumTo (csp h p) (hT h) := if_pos (allTo_iff.mpr fun t ht => decide_eq_true (C t (by omega)))
    have s := sumTo_range (f := csp h p) (lo := 0) (hi := 45) (n := hT h) (fun t ht => ⟨C t (by omega), (cst_range W ht _ _).2⟩)
    rw [c, if_neg (by omega), e]
    exact ⟨N, rfl, F⟩
  | succ m ih =>
    intro k y N hk F C
    have hkT : k < hT h := by omega
    have hw := W.2.2.2.2.2.2.2.1 k hkT
    obtain ⟨P1, P2, P3⟩ := P k hkT
    obtain ⟨y1, y2, y3, y4⟩ := X.2.2.2.2.2.1 k hkT
    obtain ⟨a, ha⟩ := natI hw.2.2.2.1
    obtain ⟨b, hb⟩ := natI P2
    have sr := stp_range W (h 4 k) a b
    have e1 : csp h p k = cst h k a b := by
      unfold csp
      rw [ha, hb, Int.toNat_natCast, Int.toNat_natCast]
    rw [L_M_costOf_66_78_4, F 60 3 (by decide), X.2.1, if_neg (by rw [le32_iff] <;> omega), Int.zero_add, if_pos (by omega), if_pos (by omega), Int.toNat_natCast, F 66 k (by decide), F 78 k (by decide), y4, P1, ha, hb]
    by_cases q : (a : Int) = (b : Int)
    · have ab : a = b := by omega
      have z : csp h p k = 0 := by
        rw [e1, ab]
        unfold cst
        rw [stp_self (by omega), if_neg (by decide), Int.zero_mul]
      rw [if_neg (fun z => z (by rw [q])), if_pos (by decide), if_pos (by omega), show ((k : Int) + 1) = ((k + 1 : Nat) : Int) by omega, Int.zero_mul, show sumTo (csp h p) k + 0 = sumTo (csp h p) (k + 1) by show _ = sumTo (csp h p) k + csp h p k; rw [z]]
      exact ih (k + 1) _ N (by omega) F (fun t ht => by
        rcases Nat.lt_or_ge t k with u | u
        · exact C t u
        · have : t = k := by omega
          rw [this, z]; exact Int.le_refl 0)
    · obtain ⟨M1, u1, u2⟩ := m_stepsF (d := D) (M := N) (by omega) W hkT (a := a) (b := b) (by omega) (by omega) (by rw [F 64 k (by decide)]; exact y2) (fun i hi => by rw [F 62 i (by decide)]; exact X.2.2.2.2.1 i hi) (by rw [F 60 0 (by decide)]; exact X.1)
      have F1 : ∀ o i, o ≠ 74 → M1 o i = M o i := fun o i z => by rw [u2 o i z, F o i z]
      rw [if_pos (by rw [eq32_iff] <;> omega), if_pos (by omega), if_pos (by omega), u1, pbI_rI]
      unfold fv
      by_cases s : stp h (h 4 k) a b < 0
      · rw [if_pos s, if_neg (by decide)]
        have c : cto h p = -1 := by
          unfold cto
          rw [if_neg]
          intro z
          have := of_decide_eq_true (allTo_iff.mp z k hkT)
          rw [e1] at this
          unfold cst at this
          rw [if_pos s] at this
          exact absurd this (by decide)
        rw [c]
        exact ⟨M1, rfl, F1⟩
      · have z : csp h p k = stp h (h 4 k) a b * h 5 k := by
          rw [e1]; exact if_neg s
        rw [if_neg s, if_pos (by rw [lt32_iff] <;> omega), if_pos (by omega), F1 65 k (by decide), y3, show ((k : Int) + 1) = ((k + 1 : Nat) : Int) by omega, ← z, show sumTo (csp h p) k + csp h p k = sumTo (csp h p) (k + 1) from rfl]
        exact ih (k + 1) _ M1 (by omega) F1 (fun t ht => by
          rcases Nat.lt_or_ge t k with u | u
          · exact C t u
          · have : t = k := by omega
            rw [this, e1]
            have := cst_range W hkT a b
            have : cst h k a b = stp h (h 4 k) a b * h 5 k := if_neg s
            rw [this]
            exact Int.mul_nonneg (by omega) (by omega))
theorem m_cost78 (hd : 5 ≤ d) (W : WF h) (X : MH M h) (P : PL M h 78 p) : ∃ M', xF d 209 [.inr 62, .inr 68, .inl 0, .inr 80, .inl 0] M = rI (if cto h p < 0 then 1000000 else cto h p) M' ∧ ∀ o i, o ≠ 74 → M' o i = M o i := by
  obtain ⟨D, rfl, hD⟩ := dsucc hd
  obtain ⟨M', e, f⟩ := m_cl78 (D := D) hD W X P (hT h) 0 (.inr 0) M (by omega) (fun _ _ _ => rfl) (fun t ht => absurd ht (Nat.not_lt_zero t))
  exact ⟨M', (T_M_costOf_66_78 D 0 0 M).trans e, f⟩
theorem m_cl81 (hD : 4 ≤ D) (W : WF h) (X : MH M h) (P : PL M h 81 p) : ∀ (m k : Nat) (y : pV) (N : pM), k + m = hT h → (∀ o i, o ≠ 74 → N o i = M o i) → (∀ t, t < k → 0 ≤ csp h p t) → ∃ M', xE D 209 4 [.inr 62, .inr 68, .inl 0, .inr 83, .inl 0, .inl (sumTo (csp h p) k), .inl (k : Int), y] [] N = rI (if cto h p < 0 then 1000000 else cto h p) M' ∧ ∀ o i, o ≠ 74 → M' o i = M o i := by
  have w1 := W.1
  have w2 := W.2.1
  intro m
  induction m with
  | zero =>
    intro k y N hk F C
    have e : k = hT h := by omega
    rw [L_M_costOf_66_81_4, F 60 3 (by decide), X.2.1, if_pos (by rw [le32_iff] <;> omega)]
    have c : cto h p = sumTo (csp h p) (hT h) := if_pos (allTo_iff.mpr fun t ht => decide_eq_true (C t (by omega)))
    have s := sumTo_range (f := csp h p) (lo := 0) (hi := 45) (n := hT h) (fun t ht => ⟨C t (by omega), (cst_range W ht _ _).2⟩)
    rw [c, if_neg (by omega), e]
    exact ⟨N, rfl, F⟩
  | succ m ih =>
    intro k y N hk F C
    have hkT : k < hT h := by omega
    have hw := W.2.2.2.2.2.2.2.1 k hkT
    obtain ⟨P1, P2, P3⟩ := P k hkT
    obtain ⟨y1, y2, y3, y4⟩ := X.2.2.2.2.2.1 k hkT
    obtain ⟨a, ha⟩ := natI hw.2.2.2.1
    obtain ⟨b, hb⟩ := natI P2
    have sr := stp_range W (h 4 k) a b
    have e1 : csp h p k = cst h k a b := by
      unfold csp
      rw [ha, hb, Int.toNat_natCast, Int.toNat_natCast]
    rw [L_M_costOf_66_81_4, F 60 3 (by decide), X.2.1, if_neg (by rw [le32_iff] <;> omega), Int.zero_add, if_pos (by omega), if_pos (by omega), Int.toNat_natCast, F 66 k (by decide), F 81 k (by decide), y4, P1, ha, hb]
    by_cases q : (a : Int) = (b : Int)
    · have ab : a = b := by omega
      have z : csp h p k = 0 := by
        rw [e1, ab]
        unfold cst
        rw [stp_self (by omega), if_neg (by decide), Int.zero_mul]
      rw [if_neg (fun z => z (by rw [q])), if_pos (by decide), if_pos (by omega), show ((k : Int) + 1) = ((k + 1 : Nat) : Int) by omega, Int.zero_mul, show sumTo (csp h p) k + 0 = sumTo (csp h p) (k + 1) by show _ = sumTo (csp h p) k + csp h p k; rw [z]]
      exact ih (k + 1) _ N (by omega) F (fun t ht => by
        rcases Nat.lt_or_ge t k with u | u
        · exact C t u
        · have : t = k := by omega
          rw [this, z]; exact Int.le_refl 0)
    · obtain ⟨M1, u1, u2⟩ := m_stepsF (d := D) (M := N) (by omega) W hkT (a := a) (b := b) (by omega) (by omega) (by rw [F 64 k (by decide)]; exact y2) (fun i hi => by rw [F 62 i (by decide)]; exact X.2.2.2.2.1 i hi) (by rw [F 60 0 (by decide)]; exact X.1)
      have F1 : ∀ o i, o ≠ 74 → M1 o i = M o i := fun o i z => by rw [u2 o i z, F o i z]
      rw [if_pos (by rw [eq32_iff] <;> omega), if_pos (by omega), if_pos (by omega), u1, pbI_rI]
      unfold fv
      by_cases s : stp h (h 4 k) a b < 0
      · rw [if_pos s, if_neg (by decide)]
        have c : cto h p = -1 := by
          unfold cto
          rw [if_neg]
          intro z
          have := of_decide_eq_true (allTo_iff.mp z k hkT)
          rw [e1] at this
          unfold cst at this
          rw [if_pos s] at this
          exact absurd this (by decide)
        rw [c]
        exact ⟨M1, rfl, F1⟩
      · have z : csp h p k = stp h (h 4 k) a b * h 5 k := by
          rw [e1]; exact if_neg s
        rw [if_neg s, if_pos (by rw [lt32_iff] <;> omega), if_pos (by omega), F1 65 k (by decide), y3, show ((k : Int) + 1) = ((k + 1 : Nat) : Int) by omega, ← z, show sumTo (csp h p) k + csp h p k = sumTo (csp h p) (k + 1) from rfl]
        exact ih (k + 1) _ M1 (by omega) F1 (fun t ht => by
          rcases Nat.lt_or_ge t k with u | u
          · exact C t u
          · have : t = k := by omega
            rw [this, e1]
            have := cst_range W hkT a b
            have : cst h k a b = stp h (h 4 k) a b * h 5 k := if_neg s
            rw [this]
            exact Int.mul_nonneg (by omega) (by omega))
theorem m_cost81 (hd : 5 ≤ d) (W : WF h) (X : MH M h) (P : PL M h 81 p) : ∃ M', xF d 209 [.inr 62, .inr 68, .inl 0, .inr 83, .inl 0] M = rI (if cto h p < 0 then 1000000 else cto h p) M' ∧ ∀ o i, o ≠ 74 → M' o i = M o i := by
  obtain ⟨D, rfl, hD⟩ := dsucc hd
  obtain ⟨M', e, f⟩ := m_cl81 (D := D) hD W X P (hT h) 0 (.inr 0) M (by omega) (fun _ _ _ => rfl) (fun t ht => absurd ht (Nat.not_lt_zero t))
  exact ⟨M', (T_M_costOf_66_81 D 0 0 M).trans e, f⟩
end CTO
/-! swap: what it answers, on both sides -/
section SWP
variable {D d : Nat} {M M' N G h : pM} {p q : Nat → Int}
def swP (G : pM) (b c : Int) (t : Nat) : Int := if G 6 t = b then c else if G 6 t = c then b else G 6 t
def swC (G : pM) (b c : Int) : Prop := (0 ≤ b ∧ b < hR G) ∧ (0 ≤ c ∧ c < hR G) ∧ b ≠ c
theorem swP_range (W : WF G) {b c : Int} (h : swC G b c) {t : Nat} (ht : t < hT G) : 0 ≤ swP G b c t ∧ swP G b c t < hR G := by
  obtain ⟨h1, h2, -⟩ := h
  have hw := W.2.2.2.2.2.2.2.1 t ht
  unfold swP
  split
  · exact h2
  · split
    · exact h1
    · exact hw.2.2.2
theorem x_lw59 (hd : 5 ≤ d) (W : WF h) (X : XH M h) (P : PL M h 59 p) : (lwf h p → xF d 91 [.inr 9, .inr 61] M = rI 1 M) ∧ (¬ lwf h p → xF d 91 [.inr 9, .inr 61] M = rI 0 M) := by
  have e := @c_lawful_59 d M h p hd W X P (inferInstanceAs (Decidable (ptd h p = 0 ∧ ovf h p = 0)))
  refine ⟨fun q => ?_, fun q => ?_⟩
  · rw [if_pos q] at e; exact e
  · rw [if_neg q] at e; exact e
theorem x_sw16 (hD : 6 ≤ D) (W : WF G) (X : XG M G) {b c : Int} (h : swC G b c) {v : Int} : ∀ (m k : Nat) (N : pM), k + m = hT G → (∀ o i, o ≠ 59 → N o i = M o i) → (∀ t, t < k → N 59 t = swP G b c t) → (∀ t, k ≤ t → t < hT G → N 59 t = G 6 t) → xE D 31 16 [.inr 2, .inl b, .inl c, .inl (k : Int)] [] N = rI v M' → (lwf G (swP G b c) → v = 1) ∧ (¬ lwf G (swP G b c) → v = 0) := by
  have w1 := W.1
  have w2 := W.2.1
  have hb := h.1
  have hc := h.2.1
  intro m
  induction m with
  | zero =>
    intro k N hk F A B ee
    have e : k = hT G := by omega
    have X1 : XG N G := XG_ag (fun o i q => F o i (fun z => by rw [z] at q; cases q)) X
    have P : PL N G 59 (swP G b c) := fun t ht => ⟨A t (by omega), swP_range W h ht⟩
    obtain ⟨D', rfl, hD'⟩ := dsucc (show 1 ≤ D by omega)
    have X2 : XG (pset N 5 1 0) G := XG_ag (fun o i q => pset_ne (fun z => by rw [z] at q; cases q)) X1
    have P2 : PL (pset N 5 1 0) G 59 (swP G b c) := fun t ht => by rw [pset_ne (by decide)]; exact P t ht
    obtain ⟨M3, e3, -, f3⟩ := x_tell (d := D' + 1) (M := pset N 5 1 0) (n := 0) (by omega) (by decide) pset_eq (cto G (swP G b c))
    have X3 : XG M3 G := XG_ag (fun o i q => f3 o i (fun z => by rw [z] at q; cases q) (fun z => by rw [z] at q; cases q)) X2
    have P3 : PL M3 G 59 (swP G b c) := fun t ht => by rw [f3 59 t (by decide) (by decide)]; exact P2 t ht
    have L := x_lw59 (d := D' + 1) (by omega) W X3.1 P3
    rw [L_X_swap_16, X1.1.2.1, if_pos (by rw [le32_iff] <;> omega), T_Numbers_start, pbN_rV, c_carriedTo_59 (by omega) W X2.1 P2, pbI_rI, e3, pbN_rV] at ee
    refine ⟨fun q => ?_, fun q => ?_⟩
    · rw [L.1 q, pbI_rI, if_neg (by decide)] at ee
      exact (rI_inj ee).1.symm
    · rw [L.2 q, pbI_rI, if_pos (by decide)] at ee
      exact (rI_inj ee).1.symm
  | succ m ih =>
    intro k N hk F A B ee
    have hkT : k < hT G := by omega
    have hw := W.2.2.2.2.2.2.2.1 k hkT
    obtain ⟨y1, y2, y3, y4⟩ := X.1.2.2.2.2.2.1 k hkT
    have st : ∀ N' : pM, (∀ o i, o ≠ 59 → N' o i = M o i) → (∀ t, t ≠ k → N' 59 t = N 59 t) → N' 59 k = swP G b c k → xE D 31 16 [.inr 2, .inl b, .inl c, .inl ((k : Int) + 1)] [] N' = rI v M' → (lwf G (swP G b c) → v = 1) ∧ (¬ lwf G (swP G b c) → v = 0) := fun N' F' K1 K2 ee' => by
      rw [show ((k : Int) + 1) = ((k + 1 : Nat) : Int) by omega] at ee'
      refine ih (k + 1) N' (by omega) F' (fun t ht => ?_) (fun t t1 t2 => by rw [K1 t (by omega)]; exact B t (by omega) t2) ee'
      rcases Nat.lt_or_ge t k with u | u
      · rw [K1 t (by omega)]; exact A t u
      · rw [show t = k by omega]; exact K2
    rw [L_X_swap_16, F 7 10 (by decide), X.1.2.1, if_neg (by rw [le32_iff] <;> omega), if_pos (by omega), Int.toNat_natCast, F 13 k (by decide), y4] at ee
    by_cases q1 : G 6 k = b
    · rw [if_neg (fun z => z (by rw [q1])), if_pos (by omega)] at ee
      exact st _ (fun o i z => by rw [pset_ne z]; exact F o i z) (fun t z => pset_ne2 z) (by rw [pset_eq]; unfold swP; rw [if_pos q1]) ee
    · rw [if_pos (by rw [eq32_iff] <;> omega), if_pos (by omega)] at ee
      by_cases q2 : G 6 k = c
      · rw [if_neg (fun z => z (by rw [q2])), if_pos (by omega)] at ee
        exact st _ (fun o i z => by rw [pset_ne z]; exact F o i z) (fun t z => pset_ne2 z) (by rw [pset_eq]; unfold swP; rw [if_neg q1, if_pos q2]) ee
      · rw [if_pos (by rw [eq32_iff] <;> omega)] at ee
        exact st N F (fun _ _ => rfl) (by rw [B k (Nat.le_refl k) hkT]; unfold swP; rw [if_neg q1, if_neg q2]) ee
theorem x_swap (hd : 7 ≤ d) (W : WF G) (X : XG M G) {b c : Int} (h1 : -2147483648 ≤ b ∧ b ≤ 2147483647) (h2 : -2147483648 ≤ c ∧ c ≤ 2147483647) {v : Int} (ee : xF d 31 [.inr 2, .inl b, .inl c] M = rI v M') : (swC G b c → (lwf G (swP G b c) → v = 1) ∧ (¬ lwf G (swP G b c) → v = 0)) ∧ (¬ swC G b c → v = -1) := by
  obtain ⟨D, rfl, hD⟩ := dsucc hd
  have w2 := W.2.1
  rw [T_X_swap, c_unlike7 (by omega) W X.1 (by omega) (by omega) (by omega) (by omega), pbI_rI] at ee
  by_cases q : swC G b c
  · refine ⟨fun _ => ?_, fun z => absurd q z⟩
    rw [if_pos (show (0 ≤ b ∧ b < hR G) ∧ (0 ≤ c ∧ c < hR G) ∧ b ≠ c from q), if_pos (by decide), c_copy_13_59 (by omega), pbN_rV] at ee
    exact x_sw16 (D := D) (by omega) W X q (hT G) 0 _ (by omega) (fun o i z => pcp_ne z) (fun t ht => absurd ht (Nat.not_lt_zero t)) (fun t _ ht => by rw [pcp_eq (by omega)]; exact (X.1.2.2.2.2.2.1 t ht).2.2.2) ee
  · refine ⟨fun z => absurd z q, fun _ => ?_⟩
    rw [if_neg (show ¬ ((0 ≤ b ∧ b < hR G) ∧ (0 ≤ c ∧ c < hR G) ∧ b ≠ c) from q), if_neg (fun z => z (by decide))] at ee
    exact (rI_inj ee).1.symm
theorem m_lw78 (hd : 3 ≤ d) (W : WF h) (X : MH M h) (P : PL M h 78 p) : (lwf h p → xF d 212 [.inr 62, .inr 80] M = rI 1 M) ∧ (¬ lwf h p → xF d 212 [.inr 62, .inr 80] M = rI 0 M) := by
  have e := m_lawful_78 hd (MH_fc W X) X.1 W.1
  have u := (lw_same W X (p := M 78) (fun t ht => by rw [(P t ht).1]; exact (P t ht).2)).trans (lwf_cg fun t ht => (P t ht).1)
  refine ⟨fun q => ?_, fun q => ?_⟩
  · rw [if_pos (u.mpr q)] at e; exact e
  · rw [if_neg (fun z => q (u.mp z))] at e; exact e
theorem m_lw81 (hd : 3 ≤ d) (W : WF h) (X : MH M h) (P : PL M h 81 p) : (lwf h p → xF d 212 [.inr 62, .inr 83] M = rI 1 M) ∧ (¬ lwf h p → xF d 212 [.inr 62, .inr 83] M = rI 0 M) := by
  have e := m_lawful_81 hd (MH_fc W X) X.1 W.1
  have u := (lw_same W X (p := M 81) (fun t ht => by rw [(P t ht).1]; exact (P t ht).2)).trans (lwf_cg fun t ht => (P t ht).1)
  refine ⟨fun q => ?_, fun q => ?_⟩
  · rw [if_pos (u.mpr q)] at e; exact e
  · rw [if_neg (fun z => q (u.mp z))] at e; exact e
theorem m_end78 (hD : 5 ≤ D) (W : WF G) (X : MG N G) {v c : Int} (P : PL N G 78 p) (ee : (pbN (xF D 172 [.inr 62, .inl c] (pset N 60 16 0)) fun M3 => pbI (xF D 212 [.inr 62, .inr 80] M3) fun v5 M4 => if eq32 v5 0 then rI 0 M4 else some (some (.inl 1), M4)) = rI v M') : (lwf G p → v = 1) ∧ (¬ lwf G p → v = 0) := by
  obtain ⟨M3, e3, -, f3⟩ := m_tellX (d := D) (M := pset N 60 16 0) (n := 0) (by omega) (by decide) pset_eq c
  have F3 : ∀ o i, ¬ (o = 60 ∧ i = 16) → o ≠ 69 → M3 o i = N o i := fun o i a b => by
    rw [f3 o i a b]
    unfold pset
    rw [if_neg a]
  have X3 : MG M3 G := MG_ag (fun o i q => F3 o i (fun z => by rw [z.1, z.2] at q; cases q) (fun z => by rw [z] at q; cases q)) X
  have P3 : PL M3 G 78 p := fun t ht => by rw [F3 78 t (fun z => absurd z.1 (by decide)) (by decide)]; exact P t ht
  have L := m_lw78 (d := D) (by omega) W X3.1 P3
  rw [e3, pbN_rV] at ee
  refine ⟨fun q => ?_, fun q => ?_⟩
  · rw [L.1 q, pbI_rI, if_neg (by decide)] at ee
    exact (rI_inj ee).1.symm
  · rw [L.2 q, pbI_rI, if_pos (by decide)] at ee
    exact (rI_inj ee).1.symm
theorem m_sw18 (hD : 6 ≤ D) (W : WF G) (X : MG M G) {b c : Int} (h : swC G b c) {v : Int} : ∀ (m k : Nat) (N : pM), k + m = hT G → (∀ o i, o ≠ 78 → N o i = M o i) → (∀ t, t < k → N 78 t = swP G b c t) → xE D 245 18 [.inr 62, .inl b, .inl c, .inl (k : Int)] [] N = rI v M' → (lwf G (swP G b c) → v = 1) ∧ (¬ lwf G (swP G b c) → v = 0) := by
  have w1 := W.1
  have w2 := W.2.1
  have hb := h.1
  have hc := h.2.1
  intro m
  induction m with
  | zero =>
    intro k N hk F A ee
    have e : k = hT G := by omega
    have X1 : MG N G := MG_ag (fun o i q => F o i (fun z => by rw [z] at q; cases q)) X
    have P : PL N G 78 (swP G b c) := fun t ht => ⟨A t (by omega), swP_range W h ht⟩
    obtain ⟨N1, u1, u2⟩ := m_cost78 (d := D) (by omega) W X1.1 P
    have X2 : MG N1 G := MG_ag (fun o i q => u2 o i (fun z => by rw [z] at q; cases q)) X1
    have P2 : PL N1 G 78 (swP G b c) := fun t ht => by rw [u2 78 t (by decide)]; exact P t ht
    have cr := cto_range W (swP G b c)
    rw [L_M_swap_18, X1.1.2.1, if_pos (by rw [le32_iff] <;> omega), u1, pbI_rI] at ee
    by_cases q : cto G (swP G b c) < 0
    · rw [if_pos q, if_neg (by decide)] at ee
      exact m_end78 (by omega) W X2 P2 ee
    · rw [if_neg q, if_pos (by rw [lt32_iff] <;> omega)] at ee
      exact m_end78 (by omega) W X2 P2 ee
  | succ m ih =>
    intro k N hk F A ee
    have hkT : k < hT G := by omega
    have hw := W.2.2.2.2.2.2.2.1 k hkT
    obtain ⟨y1, y2, y3, y4⟩ := X.1.2.2.2.2.2.1 k hkT
    have st : ∀ z : Int, z = swP G b c k → xE D 245 18 [.inr 62, .inl b, .inl c, .inl ((k : Int) + 1)] [] (pset N 78 k z) = rI v M' → (lwf G (swP G b c) → v = 1) ∧ (¬ lwf G (swP G b c) → v = 0) := fun z hz ee' => by
      rw [show ((k : Int) + 1) = ((k + 1 : Nat) : Int) by omega] at ee'
      refine ih (k + 1) _ (by omega) (fun o i u => by rw [pset_ne u]; exact F o i u) (fun t ht => ?_) ee'
      rcases Nat.lt_or_ge t k with u | u
      · rw [pset_ne2 (by omega)]; exact A t u
      · rw [show t = k by omega, pset_eq]; exact hz
    rw [L_M_swap_18, F 60 3 (by decide), X.1.2.1, if_neg (by rw [le32_iff] <;> omega), if_pos (by omega), Int.toNat_natCast, F 66 k (by decide), y4] at ee
    by_cases q1 : G 6 k = b
    · rw [if_neg (fun z => z (by rw [q1])), if_pos (by omega)] at ee
      exact st c (by unfold swP; rw [if_pos q1]) ee
    · rw [if_pos (by rw [eq32_iff] <;> omega), if_pos (by omega)] at ee
      by_cases q2 : G 6 k = c
      · rw [if_neg (fun z => z (by rw [q2])), if_pos (by omega)] at ee
        exact st b (by unfold swP; rw [if_neg q1, if_pos q2]) ee
      · rw [if_pos (by rw [eq32_iff] <;> omega), if_pos (by omega), if_pos (by omega)] at ee
        exact st (G 6 k) (by unfold swP; rw [if_neg q1, if_neg q2]) ee
theorem m_swap (hd : 7 ≤ d) (W : WF G) (X : MG M G) {b c : Int} (h1 : -2147483648 ≤ b ∧ b ≤ 2147483647) (h2 : -2147483648 ≤ c ∧ c ≤ 2147483647) {v : Int} (ee : xF d 245 [.inr 62, .inl b, .inl c] M = rI v M') : (swC G b c → (lwf G (swP G b c) → v = 1) ∧ (¬ lwf G (swP G b c) → v = 0)) ∧ (¬ swC G b c → v = -1) := by
  obtain ⟨D, rfl, hD⟩ := dsucc hd
  have w1 := W.1
  have w2 := W.2.1
  have X1 := MG_thr X
  rw [T_M_swap, m_isRoom (by omega) X1.1.1 w1 (by omega) (by omega), pbI_rI] at ee
  by_cases q1 : 0 ≤ b ∧ b < (hR G : Int)
  · rw [if_pos q1, if_neg (by decide), m_isRoom (by omega) X1.1.1 w1 (by omega) (by omega), pbI_rI] at ee
    by_cases q2 : 0 ≤ c ∧ c < (hR G : Int)
    · rw [if_pos q2, if_neg (by decide)] at ee
      by_cases q3 : b = c
      · rw [if_neg (fun z => z (by rw [q3]))] at ee
        exact ⟨fun z => absurd q3 z.2.2, fun _ => (rI_inj ee).1.symm⟩
      · rw [if_pos (by rw [eq32_iff] <;> omega)] at ee
        exact ⟨fun z => m_sw18 (D := D) (by omega) W X1 z (hT G) 0 _ (by omega) (fun _ _ _ => rfl) (fun t ht => absurd ht (Nat.not_lt_zero t)) ee, fun z => absurd ⟨q1, q2, q3⟩ z⟩
    · rw [if_neg q2, if_pos (by decide)] at ee
      exact ⟨fun z => absurd z.2.1 q2, fun _ => (rI_inj ee).1.symm⟩
  · rw [if_neg q1, if_pos (by decide)] at ee
    exact ⟨fun z => absurd z.1 q1, fun _ => (rI_inj ee).1.symm⟩
theorem kc_swap (R : RI0 M) (C : CI M) {M1 M2 : pM} {w1 : List (Nat × Nat)} {v y a1 a2 : Int} (h1 : -2147483648 ≤ a1 ∧ a1 ≤ 2147483647) (h2 : -2147483648 ≤ a2 ∧ a2 ≤ 2147483647) (e1 : xF 1000 31 [.inr 2, .inl a1, .inl a2] M = rI v M1) (f1 : Fr w1 M M1) (k1 : okW cm cmo w1 = true) (e2 : xF 1000 245 [.inr 62, .inl a1, .inl a2] M1 = rI y M2) : v = y := by
  obtain ⟨G, X, Y⟩ := C
  obtain ⟨W, -⟩ := ci_facts R X Y
  have a := x_swap (by decide) W X h1 h2 e1
  have b := m_swap (by decide) W (MG_Fr f1 k1 Y) h1 h2 e2
  by_cases q : swC G a1 a2
  · by_cases l : lwf G (swP G a1 a2)
    · rw [(a.1 q).1 l, (b.1 q).1 l]
    · rw [(a.1 q).2 l, (b.1 q).2 l]
  · rw [a.2 q, b.2 q]
end SWP
/-! apart: what it answers, on both sides -/
section APT
variable {D d : Nat} {M M' N G h : pM} {p q : Nat → Int}
theorem x_lw58 (hd : 5 ≤ d) (W : WF h) (X : XH M h) (P : PL M h 58 p) : (lwf h p → xF d 91 [.inr 9, .inr 60] M = rI 1 M) ∧ (¬ lwf h p → xF d 91 [.inr 9, .inr 60] M = rI 0 M) := by
  have e := @c_lawful_58 d M h p hd W X P (inferInstanceAs (Decidable (ptd h p = 0 ∧ ovf h p = 0)))
  refine ⟨fun q => ?_, fun q => ?_⟩
  · rw [if_pos q] at e; exact e
  · rw [if_neg q] at e; exact e
def apV (G : pM) (p : Nat → Int) : Int := if cto G p < 0 then -2 else cto G p
theorem x_apart (hd : 7 ≤ d) (W : WF G) (X : XG M G) {v : Int} (ee : xF d 39 [.inr 2] M = rI v M') : (M 0 14 = hT G → 0 < M 0 14 → PL M G 58 p → v = apV G p) ∧ (¬ (M 0 14 = hT G ∧ 0 < M 0 14) → -2147483648 ≤ M 0 14 ∧ M 0 14 ≤ 2147483647 → v = -4) := by
  obtain ⟨D, rfl, hD⟩ := dsucc hd
  obtain ⟨D', rfl, hD'⟩ := dsucc (show 1 ≤ D by omega)
  have w2 := W.2.1
  rw [T_X_apart, T_X_hasAim, X.1.2.1] at ee
  refine ⟨fun q1 q2 P => ?_, fun q r => ?_⟩
  · have cr := cto_range W p
    rw [if_neg (by rw [le32_iff] <;> omega), if_neg (fun z => z (by rw [q1])), pbI_rI, if_pos (by decide), c_carriedTo_58 (by omega) W X.1 P, pbI_rI] at ee
    unfold apV
    by_cases q : cto G p < 0
    · rw [if_neg (by rw [le32_iff] <;> omega)] at ee
      rw [if_pos q]
      exact (rI_inj ee).1.symm
    · have X2 : XG (pset M 5 1 0) G := XG_ag (fun o i q => pset_ne (fun z => by rw [z] at q; cases q)) X
      have P2 : PL (pset M 5 1 0) G 58 p := fun t ht => by rw [pset_ne (by decide)]; exact P t ht
      have L := x_lw58 (d := D' + 1) (by omega) W X2.1 P2
      rw [if_pos (by rw [le32_iff] <;> omega), T_Numbers_start, pbN_rV] at ee
      rw [if_neg q]
      rcases Classical.em (lwf G p) with l | l
      · obtain ⟨M3, e3, -, f3⟩ := x_tell (d := D' + 1) (M := pset M 5 1 0) (n := 0) (by omega) (by decide) pset_eq 1
        rw [L.1 l, pbI_rI, if_neg (by decide), e3, pbN_rV] at ee
        exact (rI_inj ee).1.symm
      · obtain ⟨M3, e3, -, f3⟩ := x_tell (d := D' + 1) (M := pset M 5 1 0) (n := 0) (by omega) (by decide) pset_eq 0
        rw [L.2 l, pbI_rI, if_pos (by decide), e3, pbN_rV] at ee
        exact (rI_inj ee).1.symm
  · by_cases z : 0 < M 0 14
    · rw [if_neg (by rw [le32_iff] <;> omega), if_pos (by rw [eq32_iff] <;> omega), pbI_rI, if_neg (fun z => z (by decide))] at ee
      exact (rI_inj ee).1.symm
    · rw [if_pos (by rw [le32_iff] <;> omega), pbI_rI, if_neg (fun z => z (by decide))] at ee
      exact (rI_inj ee).1.symm
theorem m_apart (hd : 7 ≤ d) (W : WF G) (X : MG M G) {v : Int} (ee : xF d 257 [.inr 62] M = rI v M') : (M 60 44 = 1 → M 60 43 = hT G → PL M G 81 p → v = apV G p) ∧ (M 60 44 = 0 ∨ (M 60 44 = 1 ∧ M 60 43 ≠ hT G ∧ 0 ≤ M 60 43 ∧ M 60 43 ≤ 10) → v = -4) := by
  obtain ⟨D, rfl, hD⟩ := dsucc hd
  obtain ⟨D', rfl, hD'⟩ := dsucc (show 1 ≤ D by omega)
  have w2 := W.2.1
  have X1 := MG_thr X
  have k44 : pset M 60 17 0 60 44 = M 60 44 := pset_ne2 (by decide)
  have k43 : pset M 60 17 0 60 43 = M 60 43 := pset_ne2 (by decide)
  rw [T_M_apart, T_M_hasAim, X1.1.2.1, k44, k43] at ee
  refine ⟨fun q1 q2 P => ?_, fun q => ?_⟩
  · have cr := cto_range W p
    have P1 : PL (pset M 60 17 0) G 81 p := fun t ht => by rw [pset_ne (by decide)]; exact P t ht
    obtain ⟨N1, u1, u2⟩ := m_cost81 (d := D' + 1) (by omega) W X1.1 P1
    have X2 : MG N1 G := MG_ag (fun o i q => u2 o i (fun z => by rw [z] at q; cases q)) X1
    have P2 : PL N1 G 81 p := fun t ht => by rw [u2 81 t (by decide)]; exact P1 t ht
    rw [q1, if_neg (by decide), if_neg (fun z => z (by rw [q2])), pbI_rI, if_pos (by decide), u1, pbI_rI] at ee
    unfold apV
    by_cases q : cto G p < 0
    · rw [if_pos q, if_neg (by decide)] at ee
      rw [if_pos q]
      exact (rI_inj ee).1.symm
    · have X3 : MG (pset N1 60 16 0) G := MG_ag (fun o i q => by
        unfold pset
        rw [if_neg (fun z => by rw [z.1, z.2] at q; cases q)]) X2
      have P3 : PL (pset N1 60 16 0) G 81 p := fun t ht => by rw [pset_ne (by decide)]; exact P2 t ht
      have L := m_lw81 (d := D' + 1) (by omega) W X3.1 P3
      rw [if_neg q, if_pos (by rw [lt32_iff] <;> omega)] at ee
      rw [if_neg q]
      rcases Classical.em (lwf G p) with l | l
      · obtain ⟨M3, e3, -, f3⟩ := m_tellX (d := D' + 1) (M := pset N1 60 16 0) (n := 0) (by omega) (by decide) pset_eq 1
        rw [L.1 l, pbI_rI, if_neg (by decide), e3, pbN_rV] at ee
        exact (rI_inj ee).1.symm
      · obtain ⟨M3, e3, -, f3⟩ := m_tellX (d := D' + 1) (M := pset N1 60 16 0) (n := 0) (by omega) (by decide) pset_eq 0
        rw [L.2 l, pbI_rI, if_pos (by decide), e3, pbN_rV] at ee
        exact (rI_inj ee).1.symm
  · rcases q with q | ⟨q1, q2, q3, q4⟩
    · rw [q, if_pos (by decide), pbI_rI, if_neg (fun z => z (by decide))] at ee
      exact (rI_inj ee).1.symm
    · rw [q1, if_neg (by decide), if_pos (by rw [eq32_iff] <;> omega), pbI_rI, if_neg (fun z => z (by decide))] at ee
      exact (rI_inj ee).1.symm
theorem kc_apart (R : RI0 M) (C : CI M) (A : GA M) {M1 M2 : pM} {w1 : List (Nat × Nat)} {v y : Int} (e1 : xF 1000 39 [.inr 2] M = rI v M1) (f1 : Fr w1 M M1) (k1 : okW cm cmo w1 = true) (k2 : okW cg cgo w1 = true) (e2 : xF 1000 257 [.inr 62] M1 = rI y M2) : v = y := by
  obtain ⟨G, X, Y⟩ := C
  obtain ⟨W, -⟩ := ci_facts R X Y
  have w2 := W.2.1
  have gk : ∀ o i, cg o i = true → M1 o i = M o i := fun o i q => f1 o i (okW_no cg_o k2 q)
  have hR0 := Y.1.1
  rcases A with ⟨a1, a2⟩ | ⟨a1, a2, a3, a4⟩
  · have a := (x_apart (p := M 58) (by decide) W X e1).2 (fun z => absurd z.2 (by omega)) (by omega)
    have b := (m_apart (p := M1 81) (by decide) W (MG_Fr f1 k1 Y) e2).2 (Or.inl (by rw [gk 60 44 (by decide)]; exact a2))
    rw [a, b]
  · by_cases z : M 0 14 = hT G
    · have P : PL M G 58 (M 58) := fun t ht => by
        obtain ⟨-, b2, b3⟩ := a4 t (by omega)
        exact ⟨rfl, b2, by rw [← hR0]; exact b3⟩
      have P2 : PL M1 G 81 (M 58) := fun t ht => by
        obtain ⟨b1, b2, b3⟩ := a4 t (by omega)
        exact ⟨by rw [gk 81 t (by rfl)]; exact b1.symm, b2, by rw [← hR0]; exact b3⟩
      have a := (x_apart (p := M 58) (by decide) W X e1).1 z a1 P
      have b := (m_apart (p := M 58) (by decide) W (MG_Fr f1 k1 Y) e2).1 (by rw [gk 60 44 (by decide)]; exact a2) (by rw [gk 60 43 (by decide), a3]; exact z) P2
      rw [a, b]
    · have b43 := gm_i R.1 60 43 (lo := 0) (hi := 10) (by decide +kernel) (by decide +kernel)
      have a := (x_apart (p := M 58) (by decide) W X e1).2 (fun u => absurd u.1 z) (by omega)
      have b := (m_apart (p := M1 81) (by decide) W (MG_Fr f1 k1 Y) e2).2 (Or.inr ⟨by rw [gk 60 44 (by decide)]; exact a2, by rw [gk 60 43 (by decide), a3]; exact z, by rw [gk 60 43 (by decide)]; exact b43.1, by rw [gk 60 43 (by decide)]; exact b43.2⟩)
      rw [a, b]
end APT
