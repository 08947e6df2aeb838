/-! calls of the reference that are shown by hand: way, hinge -/
/-- doors are the same from both sides -/
def SymD (M : pM) : Prop := ∀ a b, a < 6 → b < 6 → M 62 (6 * a + b) = M 62 (6 * b + a)
/-- after n rounds of findFar: who is come to, and from whom -/
def FFs (R : Nat) (w : Int) (n : Nat) (M : pM) : Prop := ∀ r, r < R → M 74 r = 1000000 ∨ ∃ e : Nat, M 74 r = (e : Int) ∧ e ≤ n ∧ (e = 0 ∨ ∃ o k : Nat, e = k + 1 ∧ o < R ∧ M 74 o = (k : Int) ∧ w ≤ M 62 (6 * o + r))
theorem SymD_Fr {M M' : pM} {w : List (Nat × Nat)} (a : Fr w M M') (h : ∀ k, wOK w 62 k = false) (s : SymD M) : SymD M' := fun x y hx hy => by
  rw [a 62 _ (h _), a 62 _ (h _)]
  exact s x y hx hy
section WAY
variable {D d R T : Nat} {w : Int} {M : pM}
theorem gM_74 (hM : gM gAll M) {i : Nat} {v : Int} (h1 : 0 ≤ v) (h2 : v ≤ 1000000) : gM gAll (pset M 74 i v) := gM_r hM (lo := 0) (hi := 1000000) (by decide +kernel) (by decide +kernel) h1 h2
theorem FFs_upd {n r o : Nat} (hn : n ≤ 6) (hR : R ≤ 6) (hr : r < R) (ho : o < R) (h1 : M 74 r = (n : Int)) (h2 : w ≤ M 62 (6 * r + o)) (h : FFs R w (n + 1) M) : FFs R w (n + 1) (pset M 74 o (jmin (M 74 o) ((n : Int) + 1))) := by
  rcases h o ho with y | ⟨e, y1, y2, y3⟩
  · have ej : jmin (M 74 o) ((n : Int) + 1) = ((n + 1 : Nat) : Int) := by
      rw [y, jmin_eq (by omega) (by omega) (by omega) (by omega)]
      omega
    rw [ej]
    have hor : r ≠ o := fun z => by rw [z, y] at h1; omega
    intro i hi
    by_cases q : i = o
    · subst q
      refine Or.inr ⟨n + 1, by rw [pset_eq], by omega, Or.inr ⟨r, n, rfl, hr, by rw [pset_ne2 hor]; exact h1, by rw [pset_ne (by decide)]; exact h2⟩⟩
    · rw [pset_ne2 q]
      rcases h i hi with z | ⟨e, z1, z2, z3⟩
      · exact Or.inl z
      · refine Or.inr ⟨e, z1, z2, ?_⟩
        rcases z3 with z3 | ⟨o', k, x1, x2, x3, x4⟩
        · exact Or.inl z3
        · have : o' ≠ o := fun z => by rw [z, y] at x3; omega
          exact Or.inr ⟨o', k, x1, x2, by rw [pset_ne2 this]; exact x3, by rw [pset_ne (by decide)]; exact x4⟩
  · have ej : jmin (M 74 o) ((n : Int) + 1) = M 74 o := by
      rw [y1, jmin_eq (by omega) (by omega) (by omega) (by omega)]
      omega
    rw [ej]
    have e2 : pset M 74 o (M 74 o) = M := by
      funext a b
      unfold pset
      split
      · rename_i z; rw [z.1, z.2]
      · rfl
    rw [e2]
    exact h
theorem m_ff32 (hD : 1 ≤ D) (hR : R ≤ 6) (hw1 : 0 ≤ w) (hw2 : w ≤ 9) {n r : Nat} (hn : n ≤ 6) (hr : r < R) (x1 : Int) : ∀ m o (M : pM), o + m = R → gM gAll M → M 60 0 = (R : Int) → FFs R w (n + 1) M → ∃ (y5 : pV) (M' : pM), xE D 207 32 [.inr 62, .inl x1, .inl w, .inl (n : Int), .inl (r : Int), .inl (o : Int)] [] M = xE D 207 26 [.inr 62, .inl x1, .inl w, .inl (n : Int), .inl ((r + 1 : Nat) : Int), y5] [] M' ∧ gM gAll M' ∧ Fr [(74, 999)] M M' ∧ FFs R w (n + 1) M' := by
  intro m
  induction m with
  | zero =>
    intro o M ho hM h0 h
    rw [L_M_findFar_32, h0, if_pos (by rw [le32_iff] <;> omega), show ((r : Int) + 1) = ((r + 1 : Nat) : Int) by omega]
    exact ⟨_, M, rfl, hM, Fr_rfl, h⟩
  | succ m ih =>
    intro o M ho hM h0 h
    have e1 : ((o : Int) + 1) = ((o + 1 : Nat) : Int) := by omega
    have e2 : (6 * (r : Int) + (o : Int)).toNat = 6 * r + o := by omega
    have d0 := gm_r hM (o := 62) (lo := 0) (hi := 9) (by decide +kernel) (by decide +kernel) (k := 6 * r + o) (show 6 * r + o < 36 by omega)
    have f0 := gm_r hM (o := 74) (lo := 0) (hi := 1000000) (by decide +kernel) (by decide +kernel) (k := r) (show r < 6 by omega)
    have f1 := gm_r hM (o := 74) (lo := 0) (hi := 1000000) (by decide +kernel) (by decide +kernel) (k := o) (show o < 6 by omega)
    rw [L_M_findFar_32, h0, if_neg (by rw [le32_iff] <;> omega), if_pos (by omega), Int.toNat_natCast, Int.toNat_natCast, e1, e2]
    by_cases q1 : eq32 (M 74 r) (n : Int)
    · rw [if_neg (fun z => z q1), if_pos (by omega)]
      rw [eq32_iff (by omega) (by omega) (by omega) (by omega)] at q1
      by_cases q2 : lt32 (M 62 (6 * r + o)) w
      · rw [if_pos q2]
        exact ih (o + 1) M (by omega) hM h0 h
      · rw [if_neg q2, if_pos (by omega), if_pos (by omega)]
        rw [lt32_iff (by omega) (by omega) (by omega) (by omega)] at q2
        have hj : 0 ≤ jmin (M 74 o) ((n : Int) + 1) ∧ jmin (M 74 o) ((n : Int) + 1) ≤ 1000000 := by
          rw [jmin_eq (by omega) (by omega) (by omega) (by omega)]
          omega
        obtain ⟨y5, M', e, g, f, s⟩ := ih (o + 1) (pset M 74 o (jmin (M 74 o) ((n : Int) + 1))) (by omega) (gM_74 hM hj.1 hj.2) (by rw [pset_ne (by decide)]; exact h0) (FFs_upd hn hR hr (by omega) q1 (by omega) h)
        exact ⟨y5, M', e, g, Fr_tr (Fr_set Fr_rfl (wOK_r (by decide) _)) f, s⟩
    · rw [if_pos q1]
      exact ih (o + 1) M (by omega) hM h0 h
theorem m_ff26 (hD : 1 ≤ D) (hR : R ≤ 6) (hw1 : 0 ≤ w) (hw2 : w ≤ 9) {n : Nat} (hn : n ≤ 6) (x1 : Int) : ∀ m r (y5 : pV) (M : pM), r + m = R → gM gAll M → M 60 0 = (R : Int) → FFs R w (n + 1) M → ∃ (y4 y5' : pV) (M' : pM), xE D 207 26 [.inr 62, .inl x1, .inl w, .inl (n : Int), .inl (r : Int), y5] [] M = xE D 207 20 [.inr 62, .inl x1, .inl w, .inl ((n + 1 : Nat) : Int), y4, y5'] [] M' ∧ gM gAll M' ∧ Fr [(74, 999)] M M' ∧ FFs R w (n + 1) M' := by
  intro m
  induction m with
  | zero =>
    intro r y5 M hr hM h0 h
    rw [L_M_findFar_26, h0, if_pos (by rw [le32_iff] <;> omega), show ((n : Int) + 1) = ((n + 1 : Nat) : Int) by omega]
    exact ⟨_, y5, M, rfl, hM, Fr_rfl, h⟩
  | succ m ih =>
    intro r y5 M hr hM h0 h
    rw [L_M_findFar_26, h0, if_neg (by rw [le32_iff] <;> omega)]
    obtain ⟨y, M1, e1, g1, f1, s1⟩ := m_ff32 (D := D) hD hR hw1 hw2 hn (show r < R by omega) x1 R 0 M (by omega) hM h0 h
    rw [show (.inl 0 : pV) = .inl ((0 : Nat) : Int) from rfl, e1]
    obtain ⟨y4, y5', M', e, g, f, s⟩ := ih (r + 1) y M1 (by omega) g1 (by rw [f1 60 0 (by decide)]; exact h0) s1
    exact ⟨y4, y5', M', e, g, Fr_tr f1 f, s⟩
theorem m_ff20 (hD : 1 ≤ D) (hR : R ≤ 6) (hw1 : 0 ≤ w) (hw2 : w ≤ 9) (x1 : Int) : ∀ m n (y4 y5 : pV) (M : pM), n + m = R → gM gAll M → M 60 0 = (R : Int) → FFs R w n M → ∃ M', xE D 207 20 [.inr 62, .inl x1, .inl w, .inl (n : Int), y4, y5] [] M = rV M' ∧ gM gAll M' ∧ Fr [(74, 999)] M M' ∧ FFs R w R M' := by
  intro m
  induction m with
  | zero =>
    intro n y4 y5 M hn hM h0 h
    have e : n = R := by omega
    rw [L_M_findFar_20, h0, if_pos (by rw [le32_iff] <;> omega)]
    rw [e] at h
    exact ⟨M, rfl, hM, Fr_rfl, h⟩
  | succ m ih =>
    intro n y4 y5 M hn hM h0 h
    rw [L_M_findFar_20, h0, if_neg (by rw [le32_iff] <;> omega)]
    obtain ⟨y4', y5', M1, e1, g1, f1, s1⟩ := m_ff26 (D := D) hD hR hw1 hw2 (show n ≤ 6 by omega) x1 R 0 y5 M (by omega) hM h0 (fun r hr => by
      rcases h r hr with z | ⟨e, z1, z2, z3⟩
      · exact Or.inl z
      · exact Or.inr ⟨e, z1, by omega, z3⟩)
    rw [show (.inl 0 : pV) = .inl ((0 : Nat) : Int) from rfl, e1]
    obtain ⟨M', e, g, f, s⟩ := ih (n + 1) y4' y5' M1 (by omega) g1 (by rw [f1 60 0 (by decide)]; exact h0) s1
    exact ⟨M', e, g, Fr_tr f1 f, s⟩
theorem m_ff2 (hD : 1 ≤ D) (hR : R ≤ 6) (hw1 : 0 ≤ w) (hw2 : w ≤ 9) {x1 : Int} (hx1 : -2147483648 ≤ x1) (hx2 : x1 < 2147483648) : ∀ m i (M : pM), i + m = R → gM gAll M → M 60 0 = (R : Int) → (∀ j, j < i → M 74 j = 1000000 ∨ M 74 j = 0) → ∃ M', xE D 207 2 [.inr 62, .inl x1, .inl w, .inl (i : Int), .inr 0, .inr 0] [] M = rV M' ∧ gM gAll M' ∧ Fr [(74, 999)] M M' ∧ FFs R w R M' := by
  intro m
  induction m with
  | zero =>
    intro i M hi hM h0 h
    rw [L_M_findFar_2, h0, if_pos (by rw [le32_iff] <;> omega), show (.inl 0 : pV) = .inl ((0 : Nat) : Int) from rfl]
    exact m_ff20 hD hR hw1 hw2 x1 R 0 _ _ M (by omega) hM h0 (fun r hr => by
      rcases h r (by omega) with z | z
      · exact Or.inl z
      · exact Or.inr ⟨0, z, by omega, Or.inl rfl⟩)
  | succ m ih =>
    intro i M hi hM h0 h
    have e1 : ((i : Int) + 1) = ((i + 1 : Nat) : Int) := by omega
    have go : ∀ v : Int, (v = 0 ∨ v = 1000000) → ∃ M', xE D 207 2 [.inr 62, .inl x1, .inl w, .inl ((i + 1 : Nat) : Int), .inr 0, .inr 0] [] (pset M 74 i v) = rV M' ∧ gM gAll M' ∧ Fr [(74, 999)] M M' ∧ FFs R w R M' := by
      intro v hv
      obtain ⟨M', e, g, f, s⟩ := ih (i + 1) (pset M 74 i v) (by omega) (gM_74 hM (by omega) (by omega)) (by rw [pset_ne (by decide)]; exact h0) (fun j hj => by
        by_cases q : j = i
        · rw [q, pset_eq]; exact hv.symm
        · rw [pset_ne2 q]; exact h j (by omega))
      exact ⟨M', e, g, Fr_tr (Fr_set Fr_rfl (wOK_r (by decide) _)) f, s⟩
    rw [L_M_findFar_2, h0, if_neg (by rw [le32_iff] <;> omega)]
    by_cases q : eq32 (i : Int) x1
    · rw [if_neg (fun z => z q), if_pos (by omega), Int.toNat_natCast, e1]
      exact go 0 (Or.inl rfl)
    · rw [if_pos q, if_pos (by omega), Int.toNat_natCast, e1]
      exact go 1000000 (Or.inr rfl)
theorem m_findFar (hd : 2 ≤ d) (hM : gM gAll M) (h0 : M 60 0 = (R : Int)) (hR : R ≤ 6) (hw1 : 0 ≤ w) (hw2 : w ≤ 9) {x1 : Int} (hx1 : -2147483648 ≤ x1) (hx2 : x1 < 2147483648) : ∃ M', xF d 207 [.inr 62, .inl x1, .inl w] M = rV M' ∧ gM gAll M' ∧ Fr [(74, 999)] M M' ∧ FFs R w R M' := by
  obtain ⟨D, rfl, hD⟩ := dsucc hd
  rw [T_M_findFar, show (.inl 0 : pV) = .inl ((0 : Nat) : Int) from rfl]
  exact m_ff2 hD hR hw1 hw2 hx1 hx2 R 0 M (by omega) hM h0 (fun j hj => absurd hj (Nat.not_lt_zero j))
theorem m_isRoom (hd : 2 ≤ d) (h0 : M 60 0 = (R : Int)) (hR : R ≤ 6) {b : Int} (h1 : -2147483648 ≤ b) (h2 : b < 2147483648) : xF d 173 [.inr 62, .inl b] M = rI (if 0 ≤ b ∧ b < (R : Int) then 1 else 0) M := by
  obtain ⟨D, rfl, hD⟩ := dsucc hd
  rw [T_M_isRoom, h0, m_in hD, pbI_rI]
  by_cases q : 0 ≤ b ∧ b < (R : Int)
  · have n : ¬ (lt32 b 0 ∨ lt32 ((R : Int) - 1) b) := by
      rw [lt32_iff (by omega) (by omega) (by omega) (by omega), lt32_iff (by omega) (by omega) (by omega) (by omega)]
      omega
    rw [if_neg n, if_pos (Or.inr rfl), if_pos q]
  · have n : lt32 b 0 ∨ lt32 ((R : Int) - 1) b := by
      rw [lt32_iff (by omega) (by omega) (by omega) (by omega), lt32_iff (by omega) (by omega) (by omega) (by omega)]
      omega
    rw [if_pos n, if_pos (Or.inl rfl), if_neg q]
theorem m_isThing (hd : 2 ≤ d) (h3 : M 60 3 = (T : Int)) (hT : T ≤ 10) {b : Int} (h1 : -2147483648 ≤ b) (h2 : b < 2147483648) : xF d 174 [.inr 62, .inl b] M = rI (if 0 ≤ b ∧ b < (T : Int) then 1 else 0) M := by
  obtain ⟨D, rfl, hD⟩ := dsucc hd
  rw [T_M_isThing, h3, m_in hD, pbI_rI]
  by_cases q : 0 ≤ b ∧ b < (T : Int)
  · have n : ¬ (lt32 b 0 ∨ lt32 ((T : Int) - 1) b) := by
      rw [lt32_iff (by omega) (by omega) (by omega) (by omega), lt32_iff (by omega) (by omega) (by omega) (by omega)]
      omega
    rw [if_neg n, if_pos (Or.inr rfl), if_pos q]
  · have n : lt32 b 0 ∨ lt32 ((T : Int) - 1) b := by
      rw [lt32_iff (by omega) (by omega) (by omega) (by omega), lt32_iff (by omega) (by omega) (by omega) (by omega)]
      omega
    rw [if_pos n, if_pos (Or.inl rfl), if_neg q]
theorem m_wy49 {t now k b : Nat} (ht : t < 10) (hnow : now < 6) (hb : b < 6) (hM : gM gAll M) (h1 : M 74 b = (k : Int)) (h2 : M 64 t ≤ M 62 (6 * now + b)) (hk : k ≤ 6) (x2 x3 : Int) : ∀ m o, o + m = b → ∃ o' : Nat, o' ≤ b ∧ M 74 o' = (k : Int) ∧ xE D 250 49 [.inr 62, .inl (t : Int), .inl x2, .inl x3, .inl (now : Int), .inl (k : Int), .inl (o : Int)] [] M = (pbN (xF D 172 [.inr 62, .inl (o' : Int)] M) fun M1 => xE D 250 45 [.inr 62, .inl (t : Int), .inl x2, .inl x3, .inl (o' : Int), .inl ((k : Int) + (-1)), .inl (o' : Int)] [] M1) := by
  have w0 := gm_r hM (o := 64) (lo := 0) (hi := 9) (by decide +kernel) (by decide +kernel) (k := t) (show t < 10 from ht)
  intro m
  induction m with
  | zero =>
    intro o ho
    have e : o = b := by omega
    subst e
    have d0 := gm_r hM (o := 62) (lo := 0) (hi := 9) (by decide +kernel) (by decide +kernel) (k := 6 * now + o) (show 6 * now + o < 36 by omega)
    refine ⟨o, Nat.le_refl o, h1, ?_⟩
    rw [L_M_way_49, if_pos (by omega), Int.toNat_natCast, if_neg (fun z => z (by rw [h1])), if_pos (by omega), if_pos (by omega), Int.toNat_natCast, show (6 * (now : Int) + (o : Int)).toNat = 6 * now + o by omega, if_pos (by rw [le32_iff] <;> omega)]
  | succ m ih =>
    intro o ho
    have d0 := gm_r hM (o := 62) (lo := 0) (hi := 9) (by decide +kernel) (by decide +kernel) (k := 6 * now + o) (show 6 * now + o < 36 by omega)
    have f0 := gm_r hM (o := 74) (lo := 0) (hi := 1000000) (by decide +kernel) (by decide +kernel) (k := o) (show o < 6 by omega)
    obtain ⟨o', y1, y2, y3⟩ := ih (o + 1) (by omega)
    rw [show ((o + 1 : Nat) : Int) = (o : Int) + 1 by omega] at y3
    rw [L_M_way_49, if_pos (by omega), Int.toNat_natCast]
    by_cases q1 : eq32 (M 74 o) (k : Int)
    · rw [if_neg (fun z => z q1), if_pos (by omega), if_pos (by omega), Int.toNat_natCast, show (6 * (now : Int) + (o : Int)).toNat = 6 * now + o by omega]
      by_cases q2 : le32 (M 64 t) (M 62 (6 * now + o))
      · rw [if_pos q2]
        exact ⟨o, by omega, (eq32_iff (by omega) (by omega) (by omega) (by omega)).mp q1, rfl⟩
      · rw [if_neg q2]
        exact ⟨o', y1, y2, y3⟩
    · rw [if_pos q1]
      exact ⟨o', y1, y2, y3⟩
theorem m_wy45 (hD : 1 ≤ D) (hR : R ≤ 6) {t : Nat} (ht : t < 10) (x2 x3 : Int) : ∀ (k now n : Nat) (y6 : pV) (M : pM), gM gAll M → SymD M → FFs R (M 64 t) R M → now < R → M 74 now = (k : Int) → k ≤ 6 → M 60 16 = (n : Int) → n + k ≤ 6 → ∃ z M', xE D 250 45 [.inr 62, .inl (t : Int), .inl x2, .inl x3, .inl (now : Int), .inl ((k : Int) - 1), y6] [] M = rI z M' ∧ gM gAll M' ∧ Fr [(60, 16), (69, 999)] M M' := by
  intro k
  induction k with
  | zero =>
    intro now n y6 M hM hs hf hnow h74 hk h16 hn
    rw [L_M_way_45, if_pos (by rw [lt32_iff] <;> omega)]
    exact ⟨_, M, rfl, hM, Fr_rfl⟩
  | succ k ih =>
    intro now n y6 M hM hs hf hnow h74 hk h16 hn
    rcases hf now hnow with z | ⟨e, z1, z2, z3⟩
    · omega
    · rcases z3 with z3 | ⟨o, k', x1, x2', x3', x4⟩
      · omega
      · have ek : k' = k := by omega
        subst ek
        rw [L_M_way_45, if_neg (by rw [lt32_iff] <;> omega), show (((k' + 1 : Nat) : Int) - 1) = (k' : Int) by omega, show (.inl 0 : pV) = .inl ((0 : Nat) : Int) from rfl]
        obtain ⟨o', u1, u2, u3⟩ := m_wy49 (D := D) (M := M) (t := t) (now := now) (k := k') (b := o) ht (by omega) (by omega) hM x3' (by rw [hs now o (by omega) (by omega)]; exact x4) (by omega) x2 x3 o 0 (by omega)
        rw [u3]
        obtain ⟨M1, e1, g1, f1, k1⟩ := m_tellS (D := D) (n := n) hD (by omega) h16 hM (o' : Int)
        rw [e1, pbN_rV, show (k' : Int) + (-1) = (k' : Int) - 1 by omega]
        have k64 : M1 64 t = M 64 t := f1 64 t (wOK_no (by decide) t)
        obtain ⟨z, M', e', g, f⟩ := ih o' (n + 1) (.inl (o' : Int)) M1 g1 (SymD_Fr f1 (wOK_no (by decide)) hs) (fun r hr => by
          have := hf r hr
          rw [k64, f1 74 r (wOK_no (by decide) r)]
          rcases this with y | ⟨e, y1, y2, y3⟩
          · exact Or.inl y
          · refine Or.inr ⟨e, y1, y2, ?_⟩
            rcases y3 with y3 | ⟨o2, k2, v1, v2, v3, v4⟩
            · exact Or.inl y3
            · exact Or.inr ⟨o2, k2, v1, v2, by rw [f1 74 o2 (wOK_no (by decide) o2)]; exact v3, by rw [f1 62 _ (wOK_no (by decide) _)]; exact v4⟩) (by omega) (by rw [f1 74 o' (wOK_no (by decide) o')]; exact u2) (by omega) k1 (by omega)
        exact ⟨z, M', e', g, Fr_tr f1 f⟩
def wWay : List (Nat × Nat) := [(60, 16), (60, 17), (69, 999), (74, 999)]
theorem r_way {d : Nat} (hd : 5 ≤ d) {b c : Int} (hb1 : -2147483648 ≤ b) (hb2 : b ≤ 2147483647) (hc1 : -2147483648 ≤ c) (hc2 : c ≤ 2147483647) (hM : gM gAll M) (hs : SymD M) (hi : ∀ t : Nat, (t : Int) < M 60 3 → M 66 t < M 60 0) : okM d 250 [.inr 62, .inl b, .inl c] wWay M := by
  obtain ⟨D, rfl, hD⟩ := dsucc hd
  have gt := gM_thr hM
  have ft : Fr wWay M (pset M 60 17 0) := Fr_set Fr_rfl (by decide)
  have r0 := gm_i gt 60 0 (lo := 0) (hi := 6) (by decide +kernel) (by decide +kernel)
  have t0 := gm_i gt 60 3 (lo := 0) (hi := 10) (by decide +kernel) (by decide +kernel)
  obtain ⟨R, hR⟩ := natI r0.1
  obtain ⟨T, hT⟩ := natI t0.1
  unfold okM
  rw [T_M_way, m_isThing (by omega) hT (by omega) hb1 (by omega), pbI_rI]
  by_cases q1 : 0 ≤ b ∧ b < (T : Int)
  · rw [if_pos q1, if_neg (by decide), m_isRoom (by omega) hR (by omega) hc1 (by omega), pbI_rI]
    by_cases q2 : 0 ≤ c ∧ c < (R : Int)
    · obtain ⟨t, rfl⟩ := natI q1.1
      have w0 := gm_r gt (o := 64) (lo := 0) (hi := 9) (by decide +kernel) (by decide +kernel) (k := t) (show t < 10 by omega)
      obtain ⟨M5, e5, g5, f5, s5⟩ := m_findFar (d := D) (R := R) (w := pset M 60 17 0 64 t) (x1 := c) (by omega) gt hR (by omega) w0.1 w0.2 hc1 (by omega)
      have F5 : Fr wWay M M5 := Fr_tr ft (Fr_mono f5 (by decide))
      have i5 := gm_r g5 (o := 66) (lo := 0) (hi := 5) (by decide +kernel) (by decide +kernel) (k := t) (show t < 10 by omega)
      obtain ⟨a, ha⟩ := natI i5.1
      have h74 := gm_r g5 (o := 74) (lo := 0) (hi := 1000000) (by decide +kernel) (by decide +kernel) (k := a) (show a < 6 by omega)
      rw [if_pos q2, if_pos (by decide), if_pos (by omega), Int.toNat_natCast, e5, pbN_rV, if_pos (by omega), ha, if_pos (by omega), Int.toNat_natCast]
      by_cases q3 : lt32 (M5 74 a) 1000000
      · rw [if_pos q3, if_pos (by omega), pset_ne (show 66 ≠ 60 by decide), ha]
        have q4 := (lt32_iff (by omega) (by omega) (by omega) (by omega)).mp q3
        by_cases q5 : a < R
        · have gx := gM_row0 g5
          have k64 : M5 64 t = pset M 60 17 0 64 t := f5 64 t (wOK_no (by decide) t)
          obtain ⟨k, hk⟩ := natI h74.1
          have hk6 : k ≤ 6 := by
            rcases s5 a q5 with z | ⟨e, z1, z2, z3⟩ <;> omega
          obtain ⟨z, M', e', g, f⟩ := m_wy45 (D := D) (R := R) (by omega) (by omega) (t := t) (by omega) c (M5 74 a) k a 0 (.inr 0) (pset M5 60 16 0) gx (SymD_Fr (Fr_set F5 (o := 60) (i := 16) (v := 0) (by decide)) (wOK_no (by decide)) hs) (fun r hr => by
            have := s5 r hr
            rw [pset_ne (show 64 ≠ 60 by decide), k64, pset_ne (show 74 ≠ 60 by decide)]
            rcases this with y | ⟨e, y1, y2, y3⟩
            · exact Or.inl y
            · refine Or.inr ⟨e, y1, y2, ?_⟩
              rcases y3 with y3 | ⟨o2, k2, v1, v2, v3, v4⟩
              · exact Or.inl y3
              · exact Or.inr ⟨o2, k2, v1, v2, by rw [pset_ne (show 74 ≠ 60 by decide)]; exact v3, by rw [pset_ne (show 62 ≠ 60 by decide)]; exact v4⟩) q5 (by rw [pset_ne (show 74 ≠ 60 by decide)]; exact hk) hk6 (by rw [pset_eq]; first | done | rfl) (by omega)
          rw [hk] at e' ⊢
          exact ⟨z, M', e', g, Fr_tr F5 (Fr_tr (Fr_set Fr_rfl (by decide)) (Fr_mono f (by decide)))⟩
        · have h1 := hi t (by rw [pset_ne2 (by decide)] at hT; omega)
          have h2 : M5 66 t = M 66 t := by rw [f5 66 t (wOK_no (by decide) t), pset_ne (by decide)]
          rw [pset_ne2 (by decide)] at hR
          omega
      · rw [if_neg q3]
        exact ⟨_, M5, rfl, g5, F5⟩
    · rw [if_neg q2, if_neg (fun z => z rfl)]
      exact ⟨_, _, rfl, gt, ft⟩
  · rw [if_neg q1, if_pos rfl]
    exact ⟨_, _, rfl, gt, ft⟩
end WAY
