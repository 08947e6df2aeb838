/-! calls of the reference that keep its invariant, by hand: widen, hinge, sheet, breaks -/
section RS
variable {D d R T : Nat} {M : pM}
/-- a door is made -/
theorem m_put (hd : 1 ≤ d) {x y : Nat} (hx : (x : Int) < M 60 0) (hy : (y : Int) < M 60 0) (hR : M 60 0 ≤ 6) (hxy : x ≠ y) {w : Int} (h0 : 0 ≤ w) (h9 : w ≤ 9) (hM : gM gAll M) (W : WM M) : ∃ M', xF d 185 [.inr 62, .inl (x : Int), .inl (y : Int), .inl w] M = rV M' ∧ gM gAll M' ∧ WM M' ∧ Fr [(62, 999)] M M' := by
  obtain ⟨D, rfl, -⟩ := dsucc hd
  rw [T_M_put, if_pos (by omega), if_pos (by omega), show (6 * (x : Int) + (y : Int)).toNat = 6 * x + y by omega, show (6 * (y : Int) + (x : Int)).toNat = 6 * y + x by omega]
  have ev : ∀ p, (pset (pset M 62 (6 * x + y) w) 62 (6 * y + x) w) 62 p = if p = 6 * y + x ∨ p = 6 * x + y then w else M 62 p := by
    intro p
    by_cases q : p = 6 * y + x
    · rw [q, pset_eq, if_pos (Or.inl rfl)]
    · rw [pset_ne2 q]
      by_cases q2 : p = 6 * x + y
      · rw [q2, pset_eq, if_pos (Or.inr rfl)]
      · rw [pset_ne2 q2, if_neg (fun z => z.elim q q2)]
  have eo : ∀ o i, o ≠ 62 → (pset (pset M 62 (6 * x + y) w) 62 (6 * y + x) w) o i = M o i := fun o i ho => by rw [pset_ne ho, pset_ne ho]
  obtain ⟨w1, w2, w3, w4, w5⟩ := W
  refine ⟨_, rfl, gM_r (gM_r hM (lo := 0) (hi := 9) (by decide +kernel) (by decide +kernel) h0 h9) (lo := 0) (hi := 9) (by decide +kernel) (by decide +kernel) h0 h9, ⟨fun r hr => ?_, fun a b ha hb => ?_, fun a b ha hb hh => ?_, fun t ht => ?_, fun s hs => ?_⟩, Fr_set (Fr_set Fr_rfl (wOK_r (by decide) _)) (wOK_r (by decide) _)⟩
  · rw [eo 60 0 (by decide)] at hr; rw [eo 61 r (by decide)]; exact w1 r hr
  · rw [ev, ev]
    by_cases q : 6 * a + b = 6 * y + x ∨ 6 * a + b = 6 * x + y
    · rw [if_pos q, if_pos (by omega)]
    · rw [if_neg q, if_neg (by omega)]; exact w2 a b ha hb
  · rw [eo 60 0 (by decide)] at hh
    rw [ev, if_neg (by omega)]; exact w3 a b ha hb hh
  · rw [eo 60 3 (by decide)] at ht
    rw [eo 63 t (by decide), eo 64 t (by decide), eo 65 t (by decide), eo 66 t (by decide), eo 60 0 (by decide)]
    exact w4 t ht
  · rw [eo 60 8 (by decide)] at hs
    rw [eo 67 s (by decide), eo 60 3 (by decide)]
    exact w5 s hs
theorem RI0_62 {M' : pM} {w : List (Nat × Nat)} (h : RI0 M) (g : gM gAll M') (W : WM M') (a : Fr w M M') (h0 : wOK w 60 0 = false) (h3 : wOK w 60 3 = false) (h33 : wOK w 60 33 = false) (h38 : wOK w 60 38 = false) (h52 : wOK w 60 52 = false) (hn : w.all (fun q => decide (q.1 ≠ 75 ∧ q.1 ≠ 87 ∧ q.1 ≠ 88 ∧ q.1 ≠ 89)) = true) : RI0 M' := ⟨g, by rw [a 60 38 h38]; exact h.2.1, W, UM_Fr a h0 h3 h33 h52 hn h.2.2.2⟩
theorem RI0_thr (h : RI0 M) : RI0 (pset M 60 17 0) := RI0_Fr (gM_thr h.1) (Fr_set (w := [(60, 17)]) Fr_rfl (by decide)) (by decide) h
theorem r_widen {d : Nat} (hd : 5 ≤ d) {b c e : Int} (hb1 : -2147483648 ≤ b) (hb2 : b ≤ 2147483647) (hc1 : -2147483648 ≤ c) (hc2 : c ≤ 2147483647) (he1 : -2147483648 ≤ e) (he2 : e ≤ 2147483647) (h : RI0 M) : okR d 204 [.inr 62, .inl b, .inl c, .inl e] [(60, 17), (62, 999)] M := by
  obtain ⟨D, rfl, hD⟩ := dsucc hd
  have ht := RI0_thr h
  have r0 := gm_i ht.1 60 0 (lo := 0) (hi := 6) (by decide +kernel) (by decide +kernel)
  obtain ⟨R, hR⟩ := natI r0.1
  have ft : Fr [(60, 17), (62, 999)] M (pset M 60 17 0) := Fr_set Fr_rfl (by decide)
  unfold okR
  rw [T_M_widen, m_isRoom (by omega) hR (by omega) hb1 (by omega), pbI_rI]
  by_cases q1 : 0 ≤ b ∧ b < (R : Int)
  · rw [if_pos q1, if_neg (by decide), m_isRoom (by omega) hR (by omega) hc1 (by omega), pbI_rI]
    by_cases q2 : 0 ≤ c ∧ c < (R : Int)
    · rw [if_pos q2, if_neg (by decide)]
      by_cases q3 : eq32 b c
      · rw [if_pos q3]
        exact ⟨_, _, rfl, ht, ft⟩
      · rw [if_neg q3, m_in (by omega), pbI_rI]
        by_cases q4 : lt32 e 0 ∨ lt32 9 e
        · rw [if_pos q4, if_neg (fun z => z rfl)]
          exact ⟨_, _, rfl, ht, ft⟩
        · have n1 : ¬ lt32 e 0 := fun z => q4 (Or.inl z)
          have n2 : ¬ lt32 9 e := fun z => q4 (Or.inr z)
          rw [lt32_iff (by omega) (by omega) (by omega) (by omega)] at n1 n2
          obtain ⟨x, rfl⟩ := natI q1.1
          obtain ⟨y, rfl⟩ := natI q2.1
          obtain ⟨M', e1, g, W, f⟩ := m_put (d := D) (x := x) (y := y) (by omega) (by omega) (by omega) (by omega) (fun z => q3 (by rw [z])) (w := e) (by omega) (by omega) ht.1 ht.2.2.1
          rw [if_neg q4, if_pos (by decide), if_pos (by omega), e1, pbN_rV]
          exact ⟨_, M', rfl, RI0_62 ht g W f (by decide) (by decide) (by decide) (by decide) (by decide) (by decide), Fr_tr ft (Fr_mono f (by decide))⟩
    · rw [if_neg q2, if_pos rfl]
      exact ⟨_, _, rfl, ht, ft⟩
  · rw [if_neg q1, if_pos rfl]
    exact ⟨_, _, rfl, ht, ft⟩
theorem m_comeTo (hd : 4 ≤ d) {r : Nat} (hr : r ≤ 5) (hM : gM gAll M) : ∃ z M', xF d 253 [.inr 62, .inl (r : Int)] M = rI z M' ∧ gM gAll M' ∧ Fr [(74, 999)] M M' := by
  obtain ⟨D, rfl, hD⟩ := dsucc hd
  have t0 := gm_i hM 60 3 (lo := 0) (hi := 10) (by decide +kernel) (by decide +kernel)
  obtain ⟨T, hT⟩ := natI t0.1
  have key : ∀ (m t : Nat) (x2 : Int) (M1 : pM), t + m = T → gM gAll M1 → Fr [(74, 999)] M M1 → ∃ z M', xE D 253 4 [.inr 62, .inl (r : Int), .inl x2, .inl (t : Int)] [] M1 = rI z M' ∧ gM gAll M' ∧ Fr [(74, 999)] M M' := by
    intro m
    induction m with
    | zero =>
      intro t x2 M1 ht g f
      rw [L_M_comeTo_4, f 60 3 (by decide), hT, if_pos (by rw [le32_iff] <;> omega)]
      exact ⟨_, M1, rfl, g, f⟩
    | succ m ih =>
      intro t x2 M1 ht g f
      have i5 := gm_r g (o := 66) (lo := 0) (hi := 5) (by decide +kernel) (by decide +kernel) (k := t) (show t < 10 by omega)
      obtain ⟨z, M2, e, g2, f2, -⟩ := u_steps (d := D) (by omega) (a1 := (t : Int)) (a2 := M1 66 t) (a3 := (r : Int)) g ⟨by omega, by omega⟩ i5 ⟨by omega, by omega⟩
      rw [L_M_comeTo_4, f 60 3 (by decide), hT, if_neg (by rw [le32_iff] <;> omega), if_pos (by omega), Int.toNat_natCast, e, pbI_rI, show ((t : Int) + 1) = ((t + 1 : Nat) : Int) by omega]
      by_cases q : le32 1000000 z
      · rw [if_pos q]; exact ih (t + 1) _ M2 (by omega) g2 (Fr_tr f f2)
      · rw [if_neg q]; exact ih (t + 1) _ M2 (by omega) g2 (Fr_tr f f2)
  rw [T_M_comeTo]
  exact key T 0 0 M (by omega) hM Fr_rfl
def wHinge : List (Nat × Nat) := [(60, 16), (60, 17), (62, 999), (69, 999), (74, 999)]
theorem m_hg25 (hD : 10 ≤ D) {x1 a : Nat} (hx1 : x1 ≤ 5) : ∀ (m b : Nat) (x2 x3 x4 : Int) (y7 y8 : pV) (M : pM), b + m = R → a < R → a < b ∨ b = R → R ≤ 6 → gM gAll M → WM M → M 60 0 = (R : Int) → ∃ (z2 z3 z4 : Int) (y6 y7' y8' : pV) (M' : pM), xE D 254 25 [.inr 62, .inl (x1 : Int), .inl x2, .inl x3, .inl x4, .inl (a : Int), .inl (b : Int), y7, y8] [] M = xE D 254 17 [.inr 62, .inl (x1 : Int), .inl z2, .inl z3, .inl z4, .inl ((a + 1 : Nat) : Int), y6, y7', y8'] [] M' ∧ gM gAll M' ∧ WM M' ∧ Fr wHinge M M' := by
  intro m
  induction m with
  | zero =>
    intro b x2 x3 x4 y7 y8 M hb ha hab hR hM W h0
    rw [L_M_hinge_25, h0, if_pos (by rw [le32_iff] <;> omega), show ((a : Int) + 1) = ((a + 1 : Nat) : Int) by omega]
    exact ⟨_, _, _, _, _, _, M, rfl, hM, W, Fr_rfl⟩
  | succ m ih =>
    intro b x2 x3 x4 y7 y8 M hb ha hab hR hM W h0
    have d0 := gm_r hM (o := 62) (lo := 0) (hi := 9) (by decide +kernel) (by decide +kernel) (k := 6 * a + b) (show 6 * a + b < 36 by omega)
    rw [L_M_hinge_25, h0, if_neg (by rw [le32_iff] <;> omega), if_pos (by omega), show (6 * (a : Int) + (b : Int)).toNat = 6 * a + b by omega, show ((b : Int) + 1) = ((b + 1 : Nat) : Int) by omega]
    by_cases q : eq32 (M 62 (6 * a + b)) 0
    · rw [if_neg (fun z => z q)]
      exact ih (b + 1) x2 x3 x4 _ y8 M (by omega) ha (Or.inl (by omega)) hR hM W h0
    · obtain ⟨M1, e1, g1, W1, f1⟩ := m_put (d := D) (x := a) (y := b) (w := 9) (by omega) (by omega) (by omega) (by omega) (by omega) (by omega) (by omega) hM W
      obtain ⟨v, M2, e2, g2, f2⟩ := m_comeTo (d := D) (by omega) hx1 g1
      have W2 := WM_Fr f2 (by decide) (by decide) (by decide) (by decide) W1
      have k0 : M2 60 0 = (R : Int) := by rw [f2 60 0 (by decide), f1 60 0 (by decide)]; exact h0
      obtain ⟨M4, e4, g4, W4, f4⟩ := m_put (d := D) (M := M2) (x := a) (y := b) (w := M 62 (6 * a + b)) (by omega) (by omega) (by omega) (by omega) (by omega) d0.1 d0.2 g2 W2
      have F : Fr wHinge M M4 := Fr_tr (Fr_mono f1 (by decide)) (Fr_tr (Fr_mono f2 (by decide)) (Fr_mono f4 (by decide)))
      have k4 : M4 60 0 = (R : Int) := by rw [f4 60 0 (by decide)]; exact k0
      rw [if_pos q, e1, pbN_rV, e2, pbI_rI, e4, pbN_rV]
      have go : ∀ (z2 z3 z4 : Int) (y7 y8 : pV), ∃ (z2' z3' z4' : Int) (y6 y7' y8' : pV) (M' : pM), xE D 254 25 [.inr 62, .inl (x1 : Int), .inl z2, .inl z3, .inl z4, .inl (a : Int), .inl ((b + 1 : Nat) : Int), y7, y8] [] M4 = xE D 254 17 [.inr 62, .inl (x1 : Int), .inl z2', .inl z3', .inl z4', .inl ((a + 1 : Nat) : Int), y6, y7', y8'] [] M' ∧ gM gAll M' ∧ WM M' ∧ Fr wHinge M M' := by
        intro z2 z3 z4 y7 y8
        obtain ⟨u2, u3, u4, u6, u7, u8, M', e, g, W', f⟩ := ih (b + 1) z2 z3 z4 y7 y8 M4 (by omega) ha (Or.inl (by omega)) hR g4 W4 k4
        exact ⟨u2, u3, u4, u6, u7, u8, M', e, g, W', Fr_tr F f⟩
      by_cases q2 : lt32 x2 0
      · rw [if_pos q2]; exact go _ _ _ _ _
      · rw [if_neg q2]
        by_cases q3 : lt32 x4 v
        · rw [if_pos q3]; exact go _ _ _ _ _
        · rw [if_neg q3]; exact go _ _ _ _ _
theorem m_hg17 (hD : 10 ≤ D) {x1 : Nat} (hx1 : x1 ≤ 5) : ∀ (m a : Nat) (x2 x3 x4 : Int) (y6 y7 y8 : pV) (M : pM), a + m = R → R ≤ 6 → gM gAll M → WM M → M 60 0 = (R : Int) → ∃ z M', xE D 254 17 [.inr 62, .inl (x1 : Int), .inl x2, .inl x3, .inl x4, .inl (a : Int), y6, y7, y8] [] M = rI z M' ∧ gM gAll M' ∧ WM M' ∧ Fr wHinge M M' := by
  intro m
  induction m with
  | zero =>
    intro a x2 x3 x4 y6 y7 y8 M ha hR hM W h0
    rw [L_M_hinge_17, h0, if_pos (by rw [le32_iff] <;> omega)]
    by_cases q : le32 0 x2
    · obtain ⟨M1, e1, g1, f1, k1⟩ := m_tellS (D := D) (M := pset M 60 16 0) (n := 0) (by omega) (by decide) pset_eq (gM_row0 hM) x3
      obtain ⟨M2, e2, g2, f2, k2⟩ := m_tellS (D := D) (M := M1) (n := 1) (by omega) (by decide) k1 g1 x4
      have F : Fr [(60, 16), (69, 999)] M M2 := Fr_tr (Fr_set Fr_rfl (by decide)) (Fr_tr f1 f2)
      rw [if_pos q, e1, pbN_rV, e2, pbN_rV]
      exact ⟨_, M2, rfl, g2, WM_Fr F (by decide) (by decide) (by decide) (by decide) W, Fr_mono F (by decide)⟩
    · rw [if_neg q]
      exact ⟨_, M, rfl, hM, W, Fr_rfl⟩
  | succ m ih =>
    intro a x2 x3 x4 y6 y7 y8 M ha hR hM W h0
    rw [L_M_hinge_17, h0, if_neg (by rw [le32_iff] <;> omega), show ((a : Int) + 1) = ((a + 1 : Nat) : Int) by omega]
    obtain ⟨z2, z3, z4, u6, u7, u8, M1, e1, g1, W1, f1⟩ := m_hg25 (D := D) (R := R) hD hx1 (a := a) (R - (a + 1)) (a + 1) x2 x3 x4 y7 y8 M (by omega) (by omega) (by omega) hR hM W h0
    rw [e1]
    obtain ⟨z, M', e, g, W', f⟩ := ih (a + 1) z2 z3 z4 u6 u7 u8 M1 (by omega) hR g1 W1 (by rw [f1 60 0 (by decide)]; exact h0)
    exact ⟨z, M', e, g, W', Fr_tr f1 f⟩
theorem r_hinge {d : Nat} (hd : 11 ≤ d) {b : Int} (hb1 : -2147483648 ≤ b) (hb2 : b ≤ 2147483647) (h : RI0 M) : okR d 254 [.inr 62, .inl b] wHinge M := by
  obtain ⟨D, rfl, hD⟩ := dsucc hd
  have ht := RI0_thr h
  have r0 := gm_i ht.1 60 0 (lo := 0) (hi := 6) (by decide +kernel) (by decide +kernel)
  obtain ⟨R, hR⟩ := natI r0.1
  have ft : Fr wHinge M (pset M 60 17 0) := Fr_set Fr_rfl (by decide)
  unfold okR
  rw [T_M_hinge, m_isRoom (by omega) hR (by omega) hb1 (by omega), pbI_rI]
  by_cases q1 : 0 ≤ b ∧ b < (R : Int)
  · obtain ⟨x, rfl⟩ := natI q1.1
    obtain ⟨z, M', e, g, W, f⟩ := m_hg17 (D := D) (R := R) (by omega) (x1 := x) (by omega) R 0 (-2) 0 0 (.inr 0) (.inr 0) (.inr 0) (pset M 60 17 0) (by omega) (by omega) ht.1 ht.2.2.1 hR
    rw [if_pos q1, if_pos (by decide)]
    exact ⟨z, M', e, RI0_62 ht g W f (by decide) (by decide) (by decide) (by decide) (by decide) (by decide), Fr_tr ft f⟩
  · rw [if_neg q1, if_neg (fun z => z rfl)]
    exact ⟨_, _, rfl, ht, ft⟩
theorem WM_65 {t : Nat} {v : Int} (h1 : 1 ≤ v) (W : WM M) : WM (pset M 65 t v) := by
  obtain ⟨w1, w2, w3, w4, w5⟩ := W
  refine ⟨fun r hr => ?_, fun a b ha hb => ?_, fun a b ha hb hh => ?_, fun i hi => ?_, fun s hs => ?_⟩
  · rw [pset_ne (by decide)] at hr ⊢; exact w1 r hr
  · rw [pset_ne (by decide), pset_ne (by decide)]; exact w2 a b ha hb
  · rw [pset_ne (by decide)] at hh ⊢; exact w3 a b ha hb hh
  · rw [pset_ne (by decide)] at hi
    rw [pset_ne (show 63 ≠ 65 by decide), pset_ne (show 64 ≠ 65 by decide), pset_ne (show 66 ≠ 65 by decide), pset_ne (show 60 ≠ 65 by decide)]
    have k := w4 i hi
    by_cases q : i = t
    · rw [q, pset_eq]; rw [q] at k; exact ⟨k.1, k.2.1, h1, k.2.2.2⟩
    · rw [pset_ne2 q]; exact k
  · rw [pset_ne (by decide)] at hs; rw [pset_ne (by decide), pset_ne (by decide)]; exact w5 s hs
theorem m_sh26 (x1 x2 x3 x4 : Int) : ∀ (m t : Nat) (x5 x6 : Int) (y8 : pV) (M : pM), t + m = T → T ≤ 10 → gM gAll M → WM M → M 60 3 = (T : Int) → ∃ z M', xE D 206 26 [.inr 62, .inl x1, .inl x2, .inl x3, .inl x4, .inl x5, .inl x6, .inl (t : Int), y8] [] M = rI z M' ∧ gM gAll M' ∧ WM M' ∧ Fr [(65, 999)] M M' := by
  intro m
  induction m with
  | zero =>
    intro t x5 x6 y8 M ht hT hM W h3
    rw [L_M_sheet_26, h3, if_pos (by rw [le32_iff] <;> omega)]
    by_cases q : eq32 x1 3
    · rw [if_neg (fun z => z q)]
      exact ⟨_, M, rfl, hM, W, Fr_rfl⟩
    · rw [if_pos q]
      exact ⟨_, M, rfl, hM, W, Fr_rfl⟩
  | succ m ih =>
    intro t x5 x6 y8 M ht hT hM W h3
    have e1 : ((t : Int) + 1) = ((t + 1 : Nat) : Int) := by omega
    have go : ∀ (v x5' : Int) (y8' : pV), 1 ≤ v ∧ v ≤ 9 → ∃ z M', xE D 206 26 [.inr 62, .inl x1, .inl x2, .inl x3, .inl x4, .inl x5', .inl (x6 + x4), .inl ((t + 1 : Nat) : Int), y8'] [] (pset M 65 t v) = rI z M' ∧ gM gAll M' ∧ WM M' ∧ Fr [(65, 999)] M M' := by
      intro v x5' y8' hv
      obtain ⟨z, M', e, g, W', f⟩ := ih (t + 1) x5' (x6 + x4) y8' (pset M 65 t v) (by omega) hT (gM_r hM (lo := 0) (hi := 9) (by decide +kernel) (by decide +kernel) (by omega) hv.2) (WM_65 hv.1 W) (by rw [pset_ne (by decide)]; exact h3)
      exact ⟨z, M', e, g, W', Fr_tr (Fr_set Fr_rfl (wOK_r (by decide) _)) f⟩
    have c1 : (1 : Int) ≤ 1 ∧ (1 : Int) ≤ 9 := by omega
    have t1 : (0 : Int) ≤ (t : Int) ∧ (t : Int) < 10 := by omega
    rw [L_M_sheet_26, h3, if_neg (by rw [le32_iff] <;> omega)]
    simp only [if_pos t1, Int.toNat_natCast, e1]
    split
    · split
      · split
        · exact go _ _ _ c1
        · split
          · exact go _ _ _ (clamp_range _)
          · exact go _ _ _ c1
      · split
        · exact go _ _ _ c1
        · split
          · exact go _ _ _ (clamp_range _)
          · exact go _ _ _ c1
    · split
      · exact go _ _ _ c1
      · split
        · exact go _ _ _ (clamp_range _)
        · exact go _ _ _ c1
theorem r_sheet {d : Nat} (hd : 3 ≤ d) {b c e f : Int} (h : RI0 M) : okR d 206 [.inr 62, .inl b, .inl c, .inl e, .inl f] [(60, 17), (65, 999)] M := by
  obtain ⟨D, rfl, hD⟩ := dsucc hd
  have ht := RI0_thr h
  have t0 := gm_i ht.1 60 3 (lo := 0) (hi := 10) (by decide +kernel) (by decide +kernel)
  obtain ⟨T, hT⟩ := natI t0.1
  have ft : Fr [(60, 17), (65, 999)] M (pset M 60 17 0) := Fr_set Fr_rfl (by decide)
  have go : ∃ z M', xE D 206 26 [.inr 62, .inl b, .inl c, .inl e, .inl f, .inl 0, .inl e, .inl 0, .inr 0] [] (pset M 60 17 0) = rI z M' ∧ RI0 M' ∧ Fr [(60, 17), (65, 999)] M M' := by
    obtain ⟨z, M', e1, g, W, f1⟩ := m_sh26 (D := D) (T := T) b c e f T 0 0 e (.inr 0) (pset M 60 17 0) (by omega) (by omega) ht.1 ht.2.2.1 hT
    exact ⟨z, M', e1, RI0_62 ht g W f1 (by decide) (by decide) (by decide) (by decide) (by decide) (by decide), Fr_tr ft (Fr_mono f1 (by decide))⟩
  unfold okR
  rw [T_M_sheet, m_in (by omega), pbI_rI]
  by_cases q1 : lt32 b 0 ∨ lt32 3 b
  · rw [if_pos q1, if_pos rfl]
    exact ⟨_, _, rfl, ht, ft⟩
  · rw [if_neg q1, if_neg (by decide)]
    by_cases q2 : le32 c 10
    · rw [if_pos q2]
      by_cases q3 : le32 3 b
      · rw [if_pos q3]; exact go
      · rw [if_neg q3]
        by_cases q4 : le32 0 c
        · rw [if_pos q4]; exact go
        · rw [if_neg q4]
          exact ⟨_, _, rfl, ht, ft⟩
    · rw [if_neg q2]
      exact ⟨_, _, rfl, ht, ft⟩
theorem WM_67 {s : Nat} {v : Int} (h1 : v ≤ M 67 s) (W : WM M) : WM (pset M 67 s v) := by
  obtain ⟨w1, w2, w3, w4, w5⟩ := W
  refine ⟨fun r hr => ?_, fun a b ha hb => ?_, fun a b ha hb hh => ?_, fun i hi => ?_, fun i hs => ?_⟩
  · rw [pset_ne (by decide)] at hr ⊢; exact w1 r hr
  · rw [pset_ne (by decide), pset_ne (by decide)]; exact w2 a b ha hb
  · rw [pset_ne (by decide)] at hh ⊢; exact w3 a b ha hb hh
  · rw [pset_ne (by decide)] at hi
    rw [pset_ne (show 63 ≠ 67 by decide), pset_ne (show 64 ≠ 67 by decide), pset_ne (show 65 ≠ 67 by decide), pset_ne (show 66 ≠ 67 by decide), pset_ne (show 60 ≠ 67 by decide)]
    exact w4 i hi
  · rw [pset_ne (by decide)] at hs
    rw [pset_ne (show 60 ≠ 67 by decide)]
    have k := w5 i hs
    by_cases q : i = s
    · rw [q, pset_eq]; rw [q] at k; omega
    · rw [pset_ne2 q]; exact k
def wBreaks : List (Nat × Nat) := [(60, 17), (60, 30), (67, 999), (72, 999), (73, 999)]
theorem r_breaks {d : Nat} (hd : 4 ≤ d) {b : Int} (hb1 : -2147483648 ≤ b) (hb2 : b ≤ 2147483647) (h : RI0 M) : okR d 226 [.inr 62, .inl b] wBreaks M := by
  obtain ⟨D, rfl, hD⟩ := dsucc hd
  have ht := RI0_thr h
  have t0 := gm_i ht.1 60 3 (lo := 0) (hi := 10) (by decide +kernel) (by decide +kernel)
  have s0 := gm_i ht.1 60 8 (lo := 0) (hi := 8) (by decide +kernel) (by decide +kernel)
  obtain ⟨T, hT⟩ := natI t0.1
  obtain ⟨S, hS⟩ := natI s0.1
  have ft : Fr wBreaks M (pset M 60 17 0) := Fr_set Fr_rfl (by decide)
  unfold okR
  rw [T_M_breaks, m_isThing (by omega) hT (by omega) hb1 (by omega), pbI_rI]
  by_cases q1 : 0 ≤ b ∧ b < (T : Int)
  · obtain ⟨t, rfl⟩ := natI q1.1
    rw [if_pos q1, if_pos (by decide)]
    have key : ∀ (m s : Nat) (M1 : pM), s + m = S → gM gAll M1 → WM M1 → Fr [(67, 999)] (pset M 60 17 0) M1 → ∃ z M', xE D 226 11 [.inr 62, .inl (t : Int), .inl (s : Int)] [] M1 = rI z M' ∧ RI0 M' ∧ Fr wBreaks M M' := by
      intro m
      induction m with
      | zero =>
        intro s M1 hs g W f
        obtain ⟨M2, e2, g2, f2, -⟩ := m_findClumps (d := D) (ns := 0) (g := 0) (by omega) g (fcx_of g) (by decide) (by decide)
        rw [L_M_breaks_11, f 60 8 (by decide), hS, if_pos (by rw [le32_iff] <;> omega), show (.inl 0 : pV) = .inl ((0 : Nat) : Int) from rfl, e2, pbN_rV]
        have R1 : RI0 M1 := RI0_62 ht g W f (by decide) (by decide) (by decide) (by decide) (by decide) (by decide)
        exact ⟨_, M2, rfl, RI0_Fr g2 f2 (by decide) R1, Fr_tr ft (Fr_tr (Fr_mono f (by decide)) (Fr_mono f2 (by decide)))⟩
      | succ m ih =>
        intro s M1 hs g W f
        have b0 := gm_r g (o := 67) (lo := 0) (hi := 1023) (by decide +kernel) (by decide +kernel) (k := s) (show s < 8 by omega)
        obtain ⟨v, hv⟩ := natI b0.1
        have hp : 2 ^ t < 1024 := show 2 ^ t < 2 ^ 10 from Nat.pow_lt_pow_right (by decide) (by omega)
        have hn := nan_le v (2 ^ t)
        rw [L_M_breaks_11, f 60 8 (by decide), hS, if_neg (by rw [le32_iff] <;> omega), if_pos (by omega), if_pos (by omega), Int.toNat_natCast, hv, jshl_one t (by omega), jxor_m1 (by omega), jand_not (by omega) (by omega), show ((s : Int) + 1) = ((s + 1 : Nat) : Int) by omega]
        exact ih (s + 1) _ (by omega) (gM_r g (lo := 0) (hi := 1023) (by decide +kernel) (by decide +kernel) (by omega) (by omega)) (WM_67 (by omega) W) (Fr_set f (wOK_r (by decide) _))
    exact key S 0 (pset M 60 17 0) (by omega) ht.1 ht.2.2.1 Fr_rfl
  · rw [if_neg q1, if_neg (fun z => z rfl)]
    exact ⟨_, _, rfl, ht, ft⟩
/-- isEnough gives the size back -/
theorem m_enough (hd : 5 ≤ d) {r : Nat} (hr : r < 6) (c : Int) (hM : gM gAll M) (h0 : 1 ≤ M 60 0 ∧ M 60 0 ≤ 6) : ∃ z M', xF d 249 [.inr 62, .inl (r : Int), .inl c] M = rI z M' ∧ gM gAll M' ∧ Fr [(60, 40), (78, 999), (79, 999)] M M' := by
  obtain ⟨D, rfl, hD⟩ := dsucc hd
  have g1 : gM gAll (pset (pset M 61 r (M 61 r + c)) 60 40 (-1)) := gM_f (gM_r1 hM (by decide +kernel) (by decide +kernel)) (lo := -1) (hi := 1000000) (by decide +kernel) (by omega) (by omega)
  obtain ⟨v, M2, e2, g2, f2, hv⟩ := u_nextRow (d := D) (by omega) g1 (by rw [pset_ne2 (by decide), pset_ne (by decide)]; exact h0) ⟨by rw [pset_eq]; omega, by rw [pset_eq]; omega⟩
  have r2 : (0 : Int) ≤ (r : Int) ∧ (r : Int) < 6 := by omega
  rw [T_M_isEnough, if_pos r2, if_pos r2, Int.toNat_natCast, m_begin (by omega), pbN_rV, e2, pbI_rI, if_pos r2, if_pos r2, if_pos (by omega)]
  refine ⟨v, _, rfl, gM_r1 g2 (by decide +kernel) (by decide +kernel), fun o i q => ?_⟩
  have k61 : M2 61 r = M 61 r + c := by rw [f2 61 r (wOK_no (by decide) r), pset_ne (by decide), pset_eq]
  by_cases q1 : o = 61 ∧ i = r
  · rw [q1.1, q1.2, pset_eq, k61]; omega
  · rw [show pset M2 61 r (M2 61 r - c) o i = M2 o i from if_neg q1, f2 o i q]
    by_cases q2 : o = 60 ∧ i = 40
    · rw [q2.1, q2.2] at q; exact absurd q (by decide)
    · rw [show pset (pset M 61 r (M 61 r + c)) 60 40 (-1) o i = pset M 61 r (M 61 r + c) o i from if_neg q2, show pset M 61 r (M 61 r + c) o i = M o i from if_neg q1]
end RS
