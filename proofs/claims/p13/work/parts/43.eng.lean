/-! fields, rows, calls, ends -/
section STEPS2
variable {E : aE}
def isR (a : aV) : Bool := Nat.beq a.1 3 && decide (2 ≤ a.2.1)
def obj (a : aV) : Nat := a.2.1.toNat - 2
theorem isR_ok {a : aV} {v : pV} (h : isR a = true) (g : gW a v) : v = .inr (obj a + 2) := by
  unfold isR at h
  rw [Bool.and_eq_true, decide_eq_true_eq] at h
  rw [gW_ref g (Nat.eq_of_beq_eq_true h.1)]
  unfold obj
  congr 1
  omega
def a_getf (E : aE) (ci k nx : Nat) : aF := fun S => match S.2.1 with
  | a :: r => bif isR a && Nat.beq (pK (obj a)) ci && Nat.ble (k + 1) (pL (obj a)) && Nat.ble k 63 then (match pFk ci k with
    | 0 => let v := lkP E.1 S.2.2 (obj a) k; bif Nat.ble v.1 2 then aGo nx (S.1, (v.1, v.2.1, v.2.2.1, v.2.2.2.1, v.2.2.2.2.1, 64 + (64 * obj a + k)) :: r, S.2.2) else none
    | 1 => let v := lkP E.1 S.2.2 (obj a) k; bif Nat.ble v.1 2 then aGo nx (S.1, (v.1, v.2.1, v.2.2.1, v.2.2.2.1, v.2.2.2.2.1, 64 + (64 * obj a + k)) :: r, S.2.2) else none
    | 2 => aGo nx (S.1, aRef (pFr (obj a) k + 2) :: r, S.2.2)
    | 3 => let v := lkP E.1 S.2.2 (obj a) k; bif Nat.beq v.1 0 && decide (v.2.1 = v.2.2.1) then aGo nx (S.1, aRef v.2.1.toNat :: r, S.2.2) else none
    | _ => none) else none
  | _ => none
theorem as_getf (hE : aWF E) {ci k nx : Nat} : aSnd E (s_getf ci k nx) (a_getf E ci k nx) := by
  rintro ⟨L, K, ov⟩ outs h s A0 ls st M ⟨g1, g2, g3, g4⟩ X Y hY
  unfold a_getf at h
  dsimp only at h g1 g2 g3 g4
  split at h
  · rename_i a as
    obtain ⟨v, r, rfl, q, h1⟩ := aF2_cons g2
    cases hb : (isR a && Nat.beq (pK (obj a)) ci && Nat.ble (k + 1) (pL (obj a)) && Nat.ble k 63) with
    | false => rw [hb] at h; cases h
    | true =>
      rw [hb, cond_true] at h
      simp only [Bool.and_eq_true] at hb
      obtain ⟨⟨⟨b1, b2⟩, b3⟩, b4⟩ := hb
      have e := isR_ok b1 q.1
      subst e
      have b5 := Nat.eq_of_beq_eq_true b2
      have b6 : k < pL (obj a) := Nat.le_of_ble_eq_true b3
      have b7 : k ≤ 63 := Nat.le_of_ble_eq_true b4
      have hs : s_getf ci k nx X Y ls (.inr (obj a + 2) :: r) M = X nx ls (pfv (obj a) k M :: r) M := by
        unfold s_getf
        dsimp only
        rw [b2, cond_true]
      rw [hs]
      have hl := lkP_ok hE g3 (o := obj a) (k := k) g4
      have hl1 := hl.1 b6
      have o1 : (64 + (64 * obj a + k) - 64) / 64 = obj a := by omega
      have o2 : (64 + (64 * obj a + k) - 64) % 64 = k := by omega
      unfold pfv
      rw [b5]
      split at h
      · rename_i e0
        rw [e0]
        cases h2 : Nat.ble (lkP E.1 ov (obj a) k).1 2 with
        | false => rw [h2] at h; cases h
        | true =>
          rw [h2, cond_true] at h
          cases h
          refine out1 Fr_rfl rfl ⟨g1, ⟨⟨Or.inl ⟨_, rfl, hl1⟩, hl.2, Or.inr (Or.inr ⟨Nat.le_add_right _ _, ?_⟩)⟩, h1⟩, g3, g4⟩
          show (Sum.inl _ : pV) = .inl (M ((64 + (64 * obj a + k) - 64) / 64) ((64 + (64 * obj a + k) - 64) % 64))
          rw [o1, o2]
      · rename_i e0
        rw [e0]
        cases h2 : Nat.ble (lkP E.1 ov (obj a) k).1 2 with
        | false => rw [h2] at h; cases h
        | true =>
          rw [h2, cond_true] at h
          cases h
          refine out1 Fr_rfl rfl ⟨g1, ⟨⟨Or.inl ⟨_, rfl, hl1⟩, hl.2, Or.inr (Or.inr ⟨Nat.le_add_right _ _, ?_⟩)⟩, h1⟩, g3, g4⟩
          show (Sum.inl _ : pV) = .inl (M ((64 + (64 * obj a + k) - 64) / 64) ((64 + (64 * obj a + k) - 64) % 64))
          rw [o1, o2]
      · rename_i e0
        rw [e0]
        cases h
        exact out1 Fr_rfl rfl ⟨g1, ⟨aRef_ok, h1⟩, g3, g4⟩
      · rename_i e0
        rw [e0]
        cases h2 : (Nat.beq (lkP E.1 ov (obj a) k).1 0 && decide ((lkP E.1 ov (obj a) k).2.1 = (lkP E.1 ov (obj a) k).2.2.1)) with
        | false => rw [h2] at h; cases h
        | true =>
          rw [h2, cond_true] at h
          cases h
          rw [Bool.and_eq_true, decide_eq_true_eq] at h2
          have e1 := Nat.eq_of_beq_eq_true h2.1
          have e2 : M (obj a) k = (lkP E.1 ov (obj a) k).2.1 := by
            rcases hl1 with w | w | w <;> omega
          refine out1 (ls' := ls) (st' := .inr (lkP E.1 ov (obj a) k).2.1.toNat :: r) (M' := M) Fr_rfl ?_ ⟨g1, ⟨aRef_ok, h1⟩, g3, g4⟩
          rw [e2]
          rfl
      · cases h
  · cases h
theorem gM_set (hE : aWF E) {M : pM} {o k : Nat} {z : Int} (g : gM E.1 M) (h : gR (E.1 o k) z) : gM E.1 (pset M o k z) := by
  intro o' k' hk
  unfold pset
  split
  · rename_i e
    rw [e.1, e.2]; exact h
  · exact g o' k' hk
def a_puti (E : aE) (ci k nx : Nat) : aF := fun S => match S.2.1 with
  | v :: a :: r => bif isR a && Nat.beq (pK (obj a)) ci && Nat.ble v.1 2 && leR v (E.1 (obj a) k) && cov [(obj a, k)] E.2.2.2 then
      aGo nx (S.1, r.map (clM [(obj a, k)]), (obj a, k, clS v) :: dlW S.2.2 [(obj a, k)]) else none
  | _ => none
theorem put_ok (hE : aWF E) {s : Nat → Int} {A0 ls : List pV} {M : pM} {L : List aV} {ov : aP} {as : List aV} {r : List pV} {o k : Nat} {v : aV} {z : Int} (g1 : aF2 (fun a v => gW a v ∧ gY s a v ∧ gL A0 a v) L ls) (h1 : aF2 (fun a v => gW a v ∧ gY s a v ∧ gO ls M a v) as r) (g3 : gM E.1 M) (g4 : gP s ov M) (rz : gR v z) (sz : gY s v (.inl z)) (hl : leR v (E.1 o k) = true) : gS E s A0 (L, as.map (clM [(o, k)]), (o, k, clS v) :: dlW ov [(o, k)]) ls r (pset M o k z) := by
  refine ⟨g1, Fr_loc Fr_pset h1, gM_set hE g3 (leR_R hl rz (hE.1 o k).2), ?_⟩
  intro e he
  rcases List.mem_cons.mp he with rfl | he
  · show gR (clS v) (pset M o k z o k) ∧ gY s (clS v) (.inl (pset M o k z o k))
    rw [pset_eq]
    exact ⟨rz, sz⟩
  · exact Fr_ov Fr_pset g4 e he
theorem as_puti (hE : aWF E) {ci k nx : Nat} : aSnd E (s_puti ci k nx) (a_puti E ci k nx) := by
  rintro ⟨L, K, ov⟩ outs h s A0 ls st M ⟨g1, g2, g3, g4⟩ X Y hY
  unfold a_puti at h
  dsimp only at h g1 g2 g3 g4
  split at h
  · rename_i v a as
    obtain ⟨vz, r1, rfl, qv, h1⟩ := aF2_cons g2
    obtain ⟨va, r, rfl, qa, h2⟩ := aF2_cons h1
    cases hb : (isR a && Nat.beq (pK (obj a)) ci && Nat.ble v.1 2 && leR v (E.1 (obj a) k) && cov [(obj a, k)] E.2.2.2) with
    | false => rw [hb] at h; cases h
    | true =>
      rw [hb, cond_true] at h
      simp only [Bool.and_eq_true] at hb
      obtain ⟨⟨⟨⟨b1, b2⟩, b3⟩, b4⟩, b5⟩ := hb
      have e := isR_ok b1 qa.1
      subst e
      obtain ⟨z, rfl, rz⟩ := gW_int qv.1 (Nat.le_of_ble_eq_true b3)
      cases h
      refine out1 (cov_ok b5 Fr_pset) ?_ (put_ok hE g1 h2 g3 g4 rz qv.2.1 b4)
      unfold s_puti
      dsimp only
      rw [b2, cond_true]
  · cases h
def a01 (v : aV) : Bool := Nat.beq v.1 0 && decide (0 ≤ v.2.1) && decide (v.2.2.1 ≤ 1)
theorem a01_ok {v : aV} {z : Int} (h : a01 v = true) (g : gR v z) : z = 0 ∨ z = 1 := by
  unfold a01 at h
  simp only [Bool.and_eq_true, decide_eq_true_eq] at h
  have e1 := Nat.eq_of_beq_eq_true h.1.1
  rcases g with w | w | w <;> omega
def a_putz (E : aE) (ci k nx : Nat) : aF := fun S => match S.2.1 with
  | v :: a :: r => bif isR a && Nat.beq (pK (obj a)) ci && a01 v && leR v (E.1 (obj a) k) && cov [(obj a, k)] E.2.2.2 then
      aGo nx (S.1, r.map (clM [(obj a, k)]), (obj a, k, clS v) :: dlW S.2.2 [(obj a, k)]) else none
  | _ => none
theorem a01_le {v : aV} (h : a01 v = true) : v.1 ≤ 2 := by
  unfold a01 at h
  simp only [Bool.and_eq_true, decide_eq_true_eq] at h
  have e1 := Nat.eq_of_beq_eq_true h.1.1
  omega
theorem as_putz (hE : aWF E) {ci k nx : Nat} : aSnd E (s_putz ci k nx) (a_putz E ci k nx) := by
  rintro ⟨L, K, ov⟩ outs h s A0 ls st M ⟨g1, g2, g3, g4⟩ X Y hY
  unfold a_putz at h
  dsimp only at h g1 g2 g3 g4
  split at h
  · rename_i v a as
    obtain ⟨vz, r1, rfl, qv, h1⟩ := aF2_cons g2
    obtain ⟨va, r, rfl, qa, h2⟩ := aF2_cons h1
    cases hb : (isR a && Nat.beq (pK (obj a)) ci && a01 v && leR v (E.1 (obj a) k) && cov [(obj a, k)] E.2.2.2) with
    | false => rw [hb] at h; cases h
    | true =>
      rw [hb, cond_true] at h
      simp only [Bool.and_eq_true] at hb
      obtain ⟨⟨⟨⟨b1, b2⟩, b3⟩, b4⟩, b5⟩ := hb
      have e := isR_ok b1 qa.1
      subst e
      obtain ⟨z, rfl, rz⟩ := gW_int qv.1 (a01_le b3)
      cases h
      refine out1 (cov_ok b5 Fr_pset) ?_ (put_ok hE g1 h2 g3 g4 rz qv.2.1 b4)
      unfold s_putz
      dsimp only
      rw [b2, cond_true, if_pos (a01_ok b3 rz)]
  · cases h
def a_putr (E : aE) (ci k tk nx : Nat) : aF := fun S => match S.2.1 with
  | v :: a :: r => bif isR a && isR v && Nat.beq (pK (obj a)) ci && Nat.beq (pK (obj v)) tk && leR (aR (obj v + 2 : Nat) (obj v + 2 : Nat)) (E.1 (obj a) k) && cov [(obj a, k)] E.2.2.2 then
      aGo nx (S.1, r.map (clM [(obj a, k)]), (obj a, k, clS (aR (obj v + 2 : Nat) (obj v + 2 : Nat))) :: dlW S.2.2 [(obj a, k)]) else none
  | _ => none
theorem as_putr (hE : aWF E) {ci k tk nx : Nat} : aSnd E (s_putr ci k tk nx) (a_putr E ci k tk nx) := by
  rintro ⟨L, K, ov⟩ outs h s A0 ls st M ⟨g1, g2, g3, g4⟩ X Y hY
  unfold a_putr at h
  dsimp only at h g1 g2 g3 g4
  split at h
  · rename_i v a as
    obtain ⟨vz, r1, rfl, qv, h1⟩ := aF2_cons g2
    obtain ⟨va, r, rfl, qa, h2⟩ := aF2_cons h1
    cases hb : (isR a && isR v && Nat.beq (pK (obj a)) ci && Nat.beq (pK (obj v)) tk && leR (aR (obj v + 2 : Nat) (obj v + 2 : Nat)) (E.1 (obj a) k) && cov [(obj a, k)] E.2.2.2) with
    | false => rw [hb] at h; cases h
    | true =>
      rw [hb, cond_true] at h
      simp only [Bool.and_eq_true] at hb
      obtain ⟨⟨⟨⟨⟨b1, b0⟩, b2⟩, b3⟩, b4⟩, b5⟩ := hb
      have e := isR_ok b1 qa.1
      subst e
      have e := isR_ok b0 qv.1
      subst e
      cases h
      refine out1 (M' := pset M (obj a) k (Int.ofNat (obj v + 2))) (cov_ok b5 Fr_pset) ?_ (put_ok hE g1 h2 g3 g4 (aR_ok (Int.le_refl _) (Int.le_refl _)) (Or.inl rfl) b4)
      unfold s_putr
      dsimp only
      rw [b2, b3]
      rfl
  · cases h
def ixI (i : aV) (o : Nat) : Bool := Nat.beq i.1 0 && decide (0 ≤ i.2.1) && decide (i.2.2.1 < Int.ofNat (pL o))
theorem ixI_ok {i : aV} {o : Nat} {z : Int} (h : ixI i o = true) (g : gR i z) : 0 ≤ z ∧ z < Int.ofNat (pL o) := by
  unfold ixI at h
  simp only [Bool.and_eq_true, decide_eq_true_eq] at h
  have e1 := Nat.eq_of_beq_eq_true h.1.1
  rcases g with w | w | w <;> omega
theorem ixI_le {i : aV} {o : Nat} (h : ixI i o = true) : i.1 ≤ 2 := by
  unfold ixI at h
  simp only [Bool.and_eq_true, decide_eq_true_eq] at h
  have e1 := Nat.eq_of_beq_eq_true h.1.1
  omega
def clA (a : aV) : aV := (a.1, a.2.1, a.2.2.1, 0, 0, 0)
def ixK (i : aV) (d : Nat) : Nat := bif decide (i.2.1 = i.2.2.1) then i.2.1.toNat else d
theorem ixI_one {i : aV} {o : Nat} {z : Int} (h : ixI i o = true) (g : gR i z) (e : i.2.1 = i.2.2.1) : z = i.2.1 := by
  unfold ixI at h
  simp only [Bool.and_eq_true, decide_eq_true_eq] at h
  have e1 := Nat.eq_of_beq_eq_true h.1.1
  rcases g with w | w | w <;> omega
theorem ixK_rd (hE : aWF E) {i : aV} {o : Nat} {z w : Int} (h : ixI i o = true) (g : gR i z) (ho : 100 ≤ pK o) (hz : z.toNat < pL o) (m : gR (E.1 o z.toNat) w) : gR (E.1 o (ixK i 100000)) w := by
  unfold ixK
  by_cases e : i.2.1 = i.2.2.1
  · rw [decide_eq_true e, cond_true, ← ixI_one h g e]
    exact m
  · rw [decide_eq_false e, cond_false]
    exact (hE.2 o z.toNat ho hz w).1 m
theorem ixK_wr (hE : aWF E) {i : aV} {o : Nat} {z w : Int} (h : ixI i o = true) (g : gR i z) (ho : 100 ≤ pK o) (hz : z.toNat < pL o) (m : gR (E.1 o (ixK i 100001)) w) : gR (E.1 o z.toNat) w := by
  unfold ixK at m
  by_cases e : i.2.1 = i.2.2.1
  · rw [decide_eq_true e, cond_true, ← ixI_one h g e] at m
    exact m
  · rw [decide_eq_false e, cond_false] at m
    exact (hE.2 o z.toNat ho hz w).2 m
def a_get (E : aE) (kd nx : Nat) : aF := fun S => match S.2.1 with
  | i :: a :: r => bif isR a && Nat.beq (pK (obj a)) kd && Nat.ble 100 kd && ixI i (obj a) then
      (bif decide (i.2.1 = i.2.2.1) && Nat.ble i.2.1.toNat 63 then (let v := lkP E.1 S.2.2 (obj a) i.2.1.toNat
        aGo nx (S.1, (v.1, v.2.1, v.2.2.1, v.2.2.2.1, v.2.2.2.2.1, 64 + (64 * obj a + i.2.1.toNat)) :: r, S.2.2))
      else aGo nx (S.1, clA (E.1 (obj a) (ixK i 100000)) :: r, S.2.2)) else none
  | _ => none
theorem as_get (hE : aWF E) {kd nx : Nat} : aSnd E (s_get kd nx) (a_get E kd nx) := by
  rintro ⟨L, K, ov⟩ outs h s A0 ls st M ⟨g1, g2, g3, g4⟩ X Y hY
  unfold a_get at h
  dsimp only at h g1 g2 g3 g4
  split at h
  · rename_i i a as
    obtain ⟨vi, r1, rfl, qi, h1⟩ := aF2_cons g2
    obtain ⟨va, r, rfl, qa, h2⟩ := aF2_cons h1
    cases hb : (isR a && Nat.beq (pK (obj a)) kd && Nat.ble 100 kd && ixI i (obj a)) with
    | false => rw [hb] at h; cases h
    | true =>
      rw [hb, cond_true] at h
      simp only [Bool.and_eq_true] at hb
      obtain ⟨⟨⟨b1, b2⟩, b3⟩, b4⟩ := hb
      have e := isR_ok b1 qa.1
      subst e
      obtain ⟨z, rfl, rz⟩ := gW_int qi.1 (ixI_le b4)
      have b5 := ixI_ok b4 rz
      have b6 := Nat.eq_of_beq_eq_true b2
      have b7 := Nat.le_of_ble_eq_true b3
      have hz : z.toNat < pL (obj a) := by
        have : Int.ofNat (pL (obj a)) = (pL (obj a) : Int) := rfl
        omega
      have hs : s_get kd nx X Y ls (.inl z :: .inr (obj a + 2) :: r) M = X nx ls (.inl (M (obj a) z.toNat) :: r) M := by
        unfold s_get
        dsimp only
        rw [b2, cond_true, if_pos b5]
      rw [hs]
      cases hc : (decide (i.2.1 = i.2.2.1) && Nat.ble i.2.1.toNat 63) with
      | true =>
        rw [hc, cond_true] at h
        rw [Bool.and_eq_true, decide_eq_true_eq] at hc
        have c1 := ixI_one b4 rz hc.1
        have c2 := Nat.le_of_ble_eq_true hc.2
        cases h
        rw [← c1] at c2 ⊢
        have hl := lkP_ok hE g3 (o := obj a) (k := z.toNat) g4
        refine out1 Fr_rfl rfl ⟨g1, ⟨⟨Or.inl ⟨_, rfl, hl.1 hz⟩, hl.2, Or.inr (Or.inr ⟨Nat.le_add_right _ _, ?_⟩)⟩, h2⟩, g3, g4⟩
        show (Sum.inl _ : pV) = .inl (M ((64 + (64 * obj a + z.toNat) - 64) / 64) ((64 + (64 * obj a + z.toNat) - 64) % 64))
        rw [show (64 + (64 * obj a + z.toNat) - 64) / 64 = obj a by omega, show (64 + (64 * obj a + z.toNat) - 64) % 64 = z.toNat by omega]
      | false =>
        rw [hc, cond_false] at h
        cases h
        have hm := ixK_rd hE b4 rz (by omega) hz (g3 (obj a) z.toNat hz)
        exact out1 Fr_rfl rfl ⟨g1, ⟨⟨Or.inl ⟨_, rfl, hm⟩, Or.inl rfl, Or.inl rfl⟩, h2⟩, g3, g4⟩
  · cases h
/-- where a row is written: one place of it, if it is known -/
def wIx (i : aV) (o : Nat) : Nat × Nat := (o, bif decide (i.2.1 = i.2.2.1) && Nat.ble i.2.1.toNat 63 then i.2.1.toNat else 999)
def wOv (i v : aV) (o : Nat) (ov : aP) : aP := bif decide (i.2.1 = i.2.2.1) && Nat.ble i.2.1.toNat 63 then (o, i.2.1.toNat, clA v) :: dlW ov [wIx i o] else dlW ov [wIx i o]
theorem wIx_fr {i : aV} {o : Nat} {z w : Int} {M : pM} (h : ixI i o = true) (g : gR i z) : Fr [wIx i o] M (pset M o z.toNat w) := by
  unfold wIx
  cases hc : (decide (i.2.1 = i.2.2.1) && Nat.ble i.2.1.toNat 63) with
  | true =>
    rw [Bool.and_eq_true, decide_eq_true_eq] at hc
    rw [cond_true, ← ixI_one h g hc.1]
    exact Fr_pset
  | false => exact Fr_pset9
theorem set_ok (hE : aWF E) {s : Nat → Int} {A0 ls : List pV} {M : pM} {L : List aV} {ov : aP} {as : List aV} {r : List pV} {o : Nat} {i v : aV} {z w : Int} (g1 : aF2 (fun a v => gW a v ∧ gY s a v ∧ gL A0 a v) L ls) (h1 : aF2 (fun a v => gW a v ∧ gY s a v ∧ gO ls M a v) as r) (g3 : gM E.1 M) (g4 : gP s ov M) (hi : ixI i o = true) (rz : gR i z) (hl : gR (E.1 o z.toNat) w) (hw : gR v w) : gS E s A0 (L, as.map (clM [wIx i o]), wOv i v o ov) ls r (pset M o z.toNat w) := by
  have f := wIx_fr (M := M) (w := w) hi rz
  refine ⟨g1, Fr_loc f h1, gM_set hE g3 hl, ?_⟩
  have g5 := Fr_ov f g4
  intro e he
  change e ∈ wOv i v o ov at he
  unfold wOv at he
  cases hc : (decide (i.2.1 = i.2.2.1) && Nat.ble i.2.1.toNat 63) with
  | true =>
    rw [hc, cond_true] at he
    rcases List.mem_cons.mp he with rfl | he
    · rw [Bool.and_eq_true, decide_eq_true_eq] at hc
      have c1 := ixI_one hi rz hc.1
      show gR (clA v) (pset M o z.toNat w o i.2.1.toNat) ∧ gY s (clA v) _
      rw [← c1, pset_eq]
      exact ⟨hw, Or.inl rfl⟩
    · exact g5 e he
  | false =>
    rw [hc, cond_false] at he
    exact g5 e he
def a_set (E : aE) (kd c nx : Nat) : aF := fun S => match S.2.1 with
  | v :: i :: a :: r => let u := bif Nat.beq c 0 then v else aUn 1 v
      bif isR a && Nat.beq (pK (obj a)) kd && Nat.ble 100 kd && ixI i (obj a) && Nat.ble v.1 2 && leR u (E.1 (obj a) (ixK i 100001)) && cov [wIx i (obj a)] E.2.2.2 then
      aGo nx (S.1, r.map (clM [wIx i (obj a)]), wOv i u (obj a) S.2.2) else none
  | _ => none
def fSet (c : Nat) : Int → Int := match c with
  | 0 => fun v => v
  | _ => jb
theorem as_set (hE : aWF E) {kd c nx : Nat} : aSnd E (s_set kd (fSet c) nx) (a_set E kd c nx) := by
  rintro ⟨L, K, ov⟩ outs h s A0 ls st M ⟨g1, g2, g3, g4⟩ X Y hY
  unfold a_set at h
  dsimp only at h g1 g2 g3 g4
  split at h
  · rename_i v i a as
    obtain ⟨vv, r1, rfl, qv, h1⟩ := aF2_cons g2
    obtain ⟨vi, r2, rfl, qi, h2⟩ := aF2_cons h1
    obtain ⟨va, r, rfl, qa, h3⟩ := aF2_cons h2
    cases hb : (isR a && Nat.beq (pK (obj a)) kd && Nat.ble 100 kd && ixI i (obj a) && Nat.ble v.1 2 && leR (bif Nat.beq c 0 then v else aUn 1 v) (E.1 (obj a) (ixK i 100001)) && cov [wIx i (obj a)] E.2.2.2) with
    | false => rw [hb] at h; cases h
    | true =>
      rw [hb, cond_true] at h
      simp only [Bool.and_eq_true] at hb
      obtain ⟨⟨⟨⟨⟨⟨b1, b2⟩, b3⟩, b4⟩, b5⟩, b6⟩, b7⟩ := hb
      have e := isR_ok b1 qa.1
      subst e
      obtain ⟨z, rfl, rz⟩ := gW_int qi.1 (ixI_le b4)
      obtain ⟨w, rfl, rw1⟩ := gW_int qv.1 (Nat.le_of_ble_eq_true b5)
      have b8 := ixI_ok b4 rz
      have b9 := Nat.eq_of_beq_eq_true b2
      have b10 := Nat.le_of_ble_eq_true b3
      cases h
      have rw2 : gR (bif Nat.beq c 0 then v else aUn 1 v) (fSet c w) := by
        cases c with
        | zero => exact rw1
        | succ c => exact (aUn_ok 1 rw1).1
      have hz : z.toNat < pL (obj a) := by
        have : Int.ofNat (pL (obj a)) = (pL (obj a) : Int) := rfl
        omega
      refine out1 (cov_ok b7 (wIx_fr b4 rz)) ?_ (set_ok hE g1 h3 g3 g4 b4 rz (ixK_wr hE b4 rz (by omega) hz (leR_R b6 rw2 (hE.1 _ _).2)) rw2)
      unfold s_set
      dsimp only
      rw [b2, cond_true, if_pos b8]
  · cases h
def a_setz (E : aE) (nx : Nat) : aF := fun S => match S.2.1 with
  | v :: i :: a :: r => bif isR a && Nat.beq (pK (obj a)) 102 && ixI i (obj a) && a01 v && leR v (E.1 (obj a) (ixK i 100001)) && cov [wIx i (obj a)] E.2.2.2 then
      aGo nx (S.1, r.map (clM [wIx i (obj a)]), wOv i v (obj a) S.2.2) else none
  | _ => none
theorem as_setz (hE : aWF E) {nx : Nat} : aSnd E (s_setz nx) (a_setz E nx) := by
  rintro ⟨L, K, ov⟩ outs h s A0 ls st M ⟨g1, g2, g3, g4⟩ X Y hY
  unfold a_setz at h
  dsimp only at h g1 g2 g3 g4
  split at h
  · rename_i v i a as
    obtain ⟨vv, r1, rfl, qv, h1⟩ := aF2_cons g2
    obtain ⟨vi, r2, rfl, qi, h2⟩ := aF2_cons h1
    obtain ⟨va, r, rfl, qa, h3⟩ := aF2_cons h2
    cases hb : (isR a && Nat.beq (pK (obj a)) 102 && ixI i (obj a) && a01 v && leR v (E.1 (obj a) (ixK i 100001)) && cov [wIx i (obj a)] E.2.2.2) with
    | false => rw [hb] at h; cases h
    | true =>
      rw [hb, cond_true] at h
      simp only [Bool.and_eq_true] at hb
      obtain ⟨⟨⟨⟨⟨b1, b2⟩, b4⟩, b5⟩, b6⟩, b7⟩ := hb
      have e := isR_ok b1 qa.1
      subst e
      obtain ⟨z, rfl, rz⟩ := gW_int qi.1 (ixI_le b4)
      obtain ⟨w, rfl, rw1⟩ := gW_int qv.1 (a01_le b5)
      have b8 := ixI_ok b4 rz
      have b9 := Nat.eq_of_beq_eq_true b2
      cases h
      have hz : z.toNat < pL (obj a) := by
        have : Int.ofNat (pL (obj a)) = (pL (obj a) : Int) := rfl
        omega
      refine out1 (cov_ok b7 (wIx_fr b4 rz)) ?_ (set_ok hE g1 h3 g3 g4 b4 rz (ixK_wr hE b4 rz (by omega) hz (leR_R b6 rw1 (hE.1 _ _).2)) rw1)
      unfold s_setz
      dsimp only
      rw [b2, cond_true, if_pos b8, if_pos (a01_ok b5 rw1)]
  · cases h
def a_getq (nx : Nat) : aF := fun S => match S.2.1 with
  | i :: a :: r => bif isR a && Nat.beq (pK (obj a)) 103 && ixI i (obj a) then
      some ((List.range (pL (obj a))).map fun j => .inr (nx, (S.1, aRef (pFr (obj a) j + 2) :: r, S.2.2))) else none
  | _ => none
theorem as_getq {nx : Nat} : aSnd E (s_getq nx) (a_getq nx) := by
  rintro ⟨L, K, ov⟩ outs h s A0 ls st M ⟨g1, g2, g3, g4⟩ X Y hY
  unfold a_getq at h
  dsimp only at h g1 g2 g3 g4
  split at h
  · rename_i i a as
    obtain ⟨vi, r1, rfl, qi, h1⟩ := aF2_cons g2
    obtain ⟨va, r, rfl, qa, h2⟩ := aF2_cons h1
    cases hb : (isR a && Nat.beq (pK (obj a)) 103 && ixI i (obj a)) with
    | false => rw [hb] at h; cases h
    | true =>
      rw [hb, cond_true] at h
      simp only [Bool.and_eq_true] at hb
      obtain ⟨⟨b1, b2⟩, b4⟩ := hb
      have e := isR_ok b1 qa.1
      subst e
      obtain ⟨z, rfl, rz⟩ := gW_int qi.1 (ixI_le b4)
      have b5 := ixI_ok b4 rz
      have hz : z.toNat < pL (obj a) := by
        have : Int.ofNat (pL (obj a)) = (pL (obj a) : Int) := rfl
        omega
      cases h
      refine ⟨_, List.mem_map.mpr ⟨z.toNat, List.mem_range.mpr hz, rfl⟩, M, Fr_rfl, Or.inr ⟨_, _, ls, .inr (pFr (obj a) z.toNat + 2) :: r, rfl, ?_, g1, ⟨aRef_ok, h2⟩, g3, g4⟩⟩
      unfold s_getq
      dsimp only
      rw [b2, cond_true, if_pos b5]
  · cases h
def a_len (nx : Nat) : aF := fun S => match S.2.1 with
  | a :: r => bif isR a && (Nat.ble 100 (pK (obj a)) && Nat.ble (pK (obj a)) 103) then aGo nx (S.1, aR (Int.ofNat (pL (obj a))) (Int.ofNat (pL (obj a))) :: r, S.2.2) else none
  | _ => none
theorem as_len {nx : Nat} : aSnd E (s_len nx) (a_len nx) := by
  rintro ⟨L, K, ov⟩ outs h s A0 ls st M ⟨g1, g2, g3⟩ X Y hY
  unfold a_len at h
  dsimp only at h g1 g2 g3
  split at h
  · rename_i a as
    obtain ⟨va, r, rfl, qa, h2⟩ := aF2_cons g2
    cases hb : (isR a && (Nat.ble 100 (pK (obj a)) && Nat.ble (pK (obj a)) 103)) with
    | false => rw [hb] at h; cases h
    | true =>
      rw [hb, cond_true] at h
      rw [Bool.and_eq_true] at hb
      have e := isR_ok hb.1 qa.1
      subst e
      cases h
      refine out1 (ls' := ls) (st' := .inl (Int.ofNat (pL (obj a))) :: r) (M' := M) Fr_rfl ?_ ⟨g1, ⟨⟨Or.inl ⟨_, rfl, aR_ok (Int.le_refl _) (Int.le_refl _)⟩, Or.inl rfl, Or.inl rfl⟩, h2⟩, g3⟩
      unfold s_len
      dsimp only
      rw [hb.2, cond_true]
  · cases h
def a_sw (E : aE) (ps : List (Int × Nat)) (d : Nat) : aF := fun S => match S.2.1 with
  | x :: r => bif Nat.ble x.1 2 then some ((ps.flatMap fun q => aBr E 0 x (aR q.1 q.1) (S.1, r, S.2.2) q.2) ++ [.inr (d, S.1, r, S.2.2)]) else none
  | _ => none
theorem as_sw (hE : aWF E) {ps : List (Int × Nat)} {d : Nat} : aSnd E (s_sw ps d) (a_sw E ps d) := by
  rintro ⟨L, K, ov⟩ outs h s A0 ls st M ⟨g1, g2, g3⟩ X Y hY
  unfold a_sw at h
  dsimp only at h g1 g2 g3
  split at h
  · rename_i x as
    obtain ⟨vx, r, rfl, qx, h2⟩ := aF2_cons g2
    cases hb : Nat.ble x.1 2 with
    | false => rw [hb] at h; cases h
    | true =>
      rw [hb, cond_true] at h
      obtain ⟨z, rfl, rz⟩ := gW_int qx.1 (Nat.le_of_ble_eq_true hb)
      cases h
      have key : ∀ qs : List (Int × Nat), (∀ q, q ∈ qs → q ∈ ps) → aOut E ((ps.flatMap fun q => aBr E 0 x (aR q.1 q.1) (L, as, ov) q.2) ++ [.inr (d, L, as, ov)]) s A0 ls M X (qs.foldr (fun q e => if eq32 z q.1 then X q.2 ls r M else e) (X d ls r M)) := by
        intro qs
        induction qs with
        | nil => intro _; exact ⟨_, List.mem_append_right _ (List.mem_singleton.mpr rfl), M, Fr_rfl, Or.inr ⟨_, _, ls, r, rfl, rfl, g1, h2, g3⟩⟩
        | cons q qs ih =>
          intro hq
          rw [List.foldr_cons]
          by_cases c : eq32 z q.1
          · rw [if_pos c]
            exact aBr_ok hE (c := 0) (S := (L, as, ov)) (y := aR q.1 q.1) (zy := q.1) ⟨g1, h2, g3⟩ rz (aR_ok (Int.le_refl _) (Int.le_refl _)) qx.2.2 (Or.inl rfl) c rfl (fun o ho => List.mem_append_left _ (List.mem_flatMap.mpr ⟨q, hq q List.mem_cons_self, ho⟩))
          · rw [if_neg c]
            exact ih (fun q' h' => hq q' (List.mem_cons_of_mem _ h'))
      exact key ps (fun _ h => h)
  · cases h
def a_sfld (z : Int) (nx : Nat) : aF := fun S => match S.2.1 with
  | a :: r => bif Nat.beq a.1 3 && decide (a.2.1 = 93) then aGo nx (S.1, aR z z :: r, S.2.2) else none
  | _ => none
theorem as_sfld {z : Int} {nx : Nat} : aSnd E (s_sfld (.inl z) nx) (a_sfld z nx) := by
  rintro ⟨L, K, ov⟩ outs h s A0 ls st M ⟨g1, g2, g3⟩ X Y hY
  unfold a_sfld at h
  dsimp only at h g1 g2 g3
  split at h
  · rename_i a as
    obtain ⟨va, r, rfl, qa, h2⟩ := aF2_cons g2
    cases hb : (Nat.beq a.1 3 && decide (a.2.1 = 93)) with
    | false => rw [hb] at h; cases h
    | true =>
      rw [hb, cond_true] at h
      rw [Bool.and_eq_true, decide_eq_true_eq] at hb
      have e := gW_ref qa.1 (Nat.eq_of_beq_eq_true hb.1)
      rw [hb.2] at e
      subst e
      cases h
      exact out1 Fr_rfl rfl ⟨g1, ⟨⟨Or.inl ⟨_, rfl, aR_ok (Int.le_refl _) (Int.le_refl _)⟩, Or.inl rfl, Or.inl rfl⟩, h2⟩, g3⟩
  · cases h
def a_sfldr (n nx : Nat) : aF := fun S => match S.2.1 with
  | a :: r => bif Nat.beq a.1 3 && decide (a.2.1 = 93) then aGo nx (S.1, aRef n :: r, S.2.2) else none
  | _ => none
theorem as_sfldr {n nx : Nat} : aSnd E (s_sfld (.inr n) nx) (a_sfldr n nx) := by
  rintro ⟨L, K, ov⟩ outs h s A0 ls st M ⟨g1, g2, g3⟩ X Y hY
  unfold a_sfldr at h
  dsimp only at h g1 g2 g3
  split at h
  · rename_i a as
    obtain ⟨va, r, rfl, qa, h2⟩ := aF2_cons g2
    cases hb : (Nat.beq a.1 3 && decide (a.2.1 = 93)) with
    | false => rw [hb] at h; cases h
    | true =>
      rw [hb, cond_true] at h
      rw [Bool.and_eq_true, decide_eq_true_eq] at hb
      have e := gW_ref qa.1 (Nat.eq_of_beq_eq_true hb.1)
      rw [hb.2] at e
      subst e
      cases h
      exact out1 Fr_rfl rfl ⟨g1, ⟨aRef_ok, h2⟩, g3⟩
  · cases h
def a_slen (nx : Nat) : aF := fun S => match S.2.1 with
  | a :: r => bif Nat.beq a.1 3 && decide (a.2.1 = 94) then aGo nx (S.1, aR 9 9 :: r, S.2.2) else none
  | _ => none
theorem as_slen {nx : Nat} : aSnd E (s_slen nx) (a_slen nx) := by
  rintro ⟨L, K, ov⟩ outs h s A0 ls st M ⟨g1, g2, g3⟩ X Y hY
  unfold a_slen at h
  dsimp only at h g1 g2 g3
  split at h
  · rename_i a as
    obtain ⟨va, r, rfl, qa, h2⟩ := aF2_cons g2
    cases hb : (Nat.beq a.1 3 && decide (a.2.1 = 94)) with
    | false => rw [hb] at h; cases h
    | true =>
      rw [hb, cond_true] at h
      rw [Bool.and_eq_true, decide_eq_true_eq] at hb
      have e := gW_ref qa.1 (Nat.eq_of_beq_eq_true hb.1)
      rw [hb.2] at e
      subst e
      cases h
      exact out1 Fr_rfl rfl ⟨g1, ⟨⟨Or.inl ⟨_, rfl, aR_ok (Int.le_refl _) (Int.le_refl _)⟩, Or.inl rfl, Or.inl rfl⟩, h2⟩, g3⟩
  · cases h
def a_sbld (nx : Nat) : aF := fun S => match S.2.1 with
  | i :: a :: r => bif Nat.beq a.1 3 && decide (a.2.1 = 94) && Nat.beq i.1 0 && decide (0 ≤ i.2.1) && decide (i.2.2.1 < 9) then aGo nx (S.1, eT :: r, S.2.2) else none
  | _ => none
theorem as_sbld {nx : Nat} : aSnd E (s_sbld nx) (a_sbld nx) := by
  rintro ⟨L, K, ov⟩ outs h s A0 ls st M ⟨g1, g2, g3⟩ X Y hY
  unfold a_sbld at h
  dsimp only at h g1 g2 g3
  split at h
  · rename_i i a as
    obtain ⟨vi, r1, rfl, qi, h1⟩ := aF2_cons g2
    obtain ⟨va, r, rfl, qa, h2⟩ := aF2_cons h1
    cases hb : (Nat.beq a.1 3 && decide (a.2.1 = 94) && Nat.beq i.1 0 && decide (0 ≤ i.2.1) && decide (i.2.2.1 < 9)) with
    | false => rw [hb] at h; cases h
    | true =>
      rw [hb, cond_true] at h
      simp only [Bool.and_eq_true, decide_eq_true_eq] at hb
      obtain ⟨⟨⟨⟨b1, b2⟩, b3⟩, b4⟩, b5⟩ := hb
      have e := gW_ref qa.1 (Nat.eq_of_beq_eq_true b1)
      rw [b2] at e
      subst e
      have b6 := Nat.eq_of_beq_eq_true b3
      obtain ⟨z, rfl, rz⟩ := gW_int qi.1 (by omega)
      have b7 : 0 ≤ z ∧ z < 9 := by
        rcases rz with w | w | w <;> omega
      cases h
      refine out1 (ls' := ls) (st' := .inl (sbyt.getD z.toNat 0).toInt :: r) (M' := M) Fr_rfl ?_ ⟨g1, ⟨⟨Or.inl ⟨_, rfl, aT_ok (iv_can _)⟩, Or.inl rfl, Or.inl rfl⟩, h2⟩, g3⟩
      exact if_pos b7
  · cases h
def a_iret : aF := fun S => match S.2.1 with
  | [a] => bif Nat.ble a.1 2 then some [.inl (some a, S.1, [], S.2.2)] else none
  | _ => none
theorem as_iret : aSnd E s_iret a_iret := by
  rintro ⟨L, K, ov⟩ outs h s A0 ls st M ⟨g1, g2, g3⟩ X Y hY
  unfold a_iret at h
  dsimp only at h g1 g2 g3
  split at h
  · rename_i a
    obtain ⟨va, r, rfl, qa, h2⟩ := aF2_cons g2
    cases hb : Nat.ble a.1 2 with
    | false => rw [hb] at h; cases h
    | true =>
      rw [hb, cond_true] at h
      obtain ⟨z, rfl, rz⟩ := gW_int qa.1 (Nat.le_of_ble_eq_true hb)
      have e := aF2_nil h2
      subst e
      cases h
      exact ⟨_, List.mem_singleton.mpr rfl, M, Fr_rfl, Or.inl ⟨_, _, rfl, _, rfl, qa.1, g1, trivial, g3⟩⟩
  · cases h
def a_zret : aF := fun S => match S.2.1 with
  | [a] => bif a01 a then some [.inl (some a, S.1, [], S.2.2)] else none
  | _ => none
theorem as_zret : aSnd E s_zret a_zret := by
  rintro ⟨L, K, ov⟩ outs h s A0 ls st M ⟨g1, g2, g3⟩ X Y hY
  unfold a_zret at h
  dsimp only at h g1 g2 g3
  split at h
  · rename_i a
    obtain ⟨va, r, rfl, qa, h2⟩ := aF2_cons g2
    cases hb : a01 a with
    | false => rw [hb] at h; cases h
    | true =>
      rw [hb, cond_true] at h
      obtain ⟨z, rfl, rz⟩ := gW_int qa.1 (a01_le hb)
      have e := aF2_nil h2
      subst e
      cases h
      exact ⟨_, List.mem_singleton.mpr rfl, M, Fr_rfl, Or.inl ⟨_, _, rfl, _, if_pos (a01_ok hb rz), qa.1, g1, trivial, g3⟩⟩
  · cases h
def a_aret : aF := fun S => match S.2.1 with
  | [a] => bif Nat.beq a.1 3 && decide (1 ≤ a.2.1) then some [.inl (some a, S.1, [], S.2.2)] else none
  | _ => none
theorem as_aret : aSnd E s_aret a_aret := by
  rintro ⟨L, K, ov⟩ outs h s A0 ls st M ⟨g1, g2, g3⟩ X Y hY
  unfold a_aret at h
  dsimp only at h g1 g2 g3
  split at h
  · rename_i a
    obtain ⟨va, r, rfl, qa, h2⟩ := aF2_cons g2
    cases hb : (Nat.beq a.1 3 && decide (1 ≤ a.2.1)) with
    | false => rw [hb] at h; cases h
    | true =>
      rw [hb, cond_true] at h
      rw [Bool.and_eq_true, decide_eq_true_eq] at hb
      have e1 := gW_ref qa.1 (Nat.eq_of_beq_eq_true hb.1)
      obtain ⟨j, hj⟩ : ∃ j, a.2.1.toNat = j + 1 := ⟨a.2.1.toNat - 1, by omega⟩
      rw [hj] at e1
      subst e1
      have e := aF2_nil h2
      subst e
      cases h
      exact ⟨_, List.mem_singleton.mpr rfl, M, Fr_rfl, Or.inl ⟨_, _, rfl, _, rfl, qa.1, g1, trivial, g3⟩⟩
  · cases h
def a_vret : aF := fun S => match S.2.1 with
  | [] => some [.inl (none, S.1, [], S.2.2)]
  | _ => none
theorem as_vret : aSnd E s_vret a_vret := by
  rintro ⟨L, K, ov⟩ outs h s A0 ls st M ⟨g1, g2, g3⟩ X Y hY
  unfold a_vret at h
  dsimp only at h g1 g2 g3
  split at h
  · have e := aF2_nil g2
    subst e
    cases h
    exact ⟨_, List.mem_singleton.mpr rfl, M, Fr_rfl, Or.inl ⟨_, _, rfl, _, rfl, trivial, g1, trivial, g3⟩⟩
  · cases h
end STEPS2
