/-! calls of the reference that are shown by hand: whether there are too many, best -/
/-- how many arrangements, put to a million -/
def wyW (R : Nat) : Nat → Nat
  | 0 => 1
  | c + 1 => min 1000000 (wyW R c * R)
theorem wyW_le (R : Nat) : ∀ c, wyW R c ≤ 1000000
  | 0 => show 1 ≤ 1000000 by decide
  | c + 1 => Nat.min_le_left _ _
theorem pset_pset {M : pM} {o i : Nat} {v w : Int} : pset (pset M o i v) o i w = pset M o i w := by
  funext o' i'
  unfold pset
  by_cases h : o' = o ∧ i' = i
  · rw [if_pos h, if_pos h]
  · rw [if_neg h, if_neg h, if_neg h]
def wTM : List (Nat × Nat) := [(60, 30), (60, 39), (72, 999), (73, 999)]
/-- what isTooMuch leaves behind -/
def TMr (S T R : Nat) (sv : Nat → Nat) (M M' : pM) : Prop := gM gAll M' ∧ Fr wTM M M' ∧ M' 60 39 = (wyW R (fcA sv 0 0 S T).1 : Nat) ∧ M' 60 30 = ((fcA sv 0 0 S T).1 : Nat) ∧ (∀ o, o < T → M' 72 o = fcO sv 0 0 S (M 72) T o) ∧ ∀ i, M' 73 i = fcM sv 0 0 S (M 73) T i
section TM
variable {D d S T R : Nat} {sv : Nat → Nat} {M : pM}
theorem m_tm9 {C : Nat} (h0 : M 60 0 = (R : Int)) (hR : R ≤ 6) (hC : M 60 30 = (C : Int)) (hC2 : C ≤ 10) : ∀ m c, c + m = C → xE D 228 9 [.inr 62, .inl (c : Int)] [] (pset M 60 39 (wyW R c : Nat)) = rI (if wyW R C ≤ 20000 then 0 else 1) (pset M 60 39 (wyW R C : Nat)) := by
  intro m
  induction m with
  | zero =>
    intro c hc
    have hw := wyW_le R C
    have e : c = C := by omega
    subst e
    rw [L_M_isTooMuch_9, pset_ne2 (by decide), hC, if_pos (by rw [le32_iff] <;> omega), pset_eq]
    by_cases q : wyW R c ≤ 20000
    · rw [if_pos q, if_pos (by rw [le32_iff] <;> omega)]
    · rw [if_neg q, if_neg (by rw [le32_iff] <;> omega)]
  | succ m ih =>
    intro c hc
    have hw := wyW_le R c
    have hm : wyW R c * R ≤ 1000000 * 6 := Nat.mul_le_mul hw hR
    have e1 : jmin 1000000 ((wyW R c : Nat) * (R : Int)) = ((wyW R (c + 1) : Nat) : Int) := by
      rw [← Int.natCast_mul, jmin_eq (by omega) (by omega) (by omega) (by omega)]
      show min (1000000 : Int) ((wyW R c * R : Nat) : Int) = ((min 1000000 (wyW R c * R) : Nat) : Int)
      omega
    rw [L_M_isTooMuch_9, pset_ne2 (by decide), hC, if_neg (by rw [le32_iff] <;> omega), pset_eq, pset_ne2 (by decide), h0, e1, pset_pset, show ((c : Int) + 1) = ((c + 1 : Nat) : Int) by omega]
    exact ih (c + 1) (by omega)
theorem m_tooMuch (hd : 3 ≤ d) (hM : gM gAll M) (h : FCx M S T sv) (h0 : M 60 0 = (R : Int)) (hR : R ≤ 6) : ∃ M', xF d 228 [.inr 62] M = rI (if wyW R (fcA sv 0 0 S T).1 ≤ 20000 then 0 else 1) M' ∧ TMr S T R sv M M' := by
  obtain ⟨D, rfl, hD⟩ := dsucc hd
  obtain ⟨M1, e1, r1, r2, r3, r4, r5⟩ := m_findClumps (ns := 0) (g := 0) hD hM h (by decide) (by decide)
  have hT := h.2.2.2.1
  have hc := fcA_le (sv := sv) (ns := 0) (g := 0) (S := S) T
  have e2 := m_tm9 (D := D) (M := M1) (R := R) (by rw [r2 60 0 (by decide)]; exact h0) hR r3 (by omega) (fcA sv 0 0 S T).1 0 (by omega)
  have hw := wyW_le R (fcA sv 0 0 S T).1
  rw [T_M_isTooMuch, show (.inl 0 : pV) = .inl ((0 : Nat) : Int) from rfl, e1, pbN_rV]
  refine ⟨_, e2, gM_f r1 (lo := 0) (hi := 1000000) (by decide +kernel) (by omega) (by omega), Fr_set (Fr_mono r2 (by decide)) (by decide), pset_eq, by rw [pset_ne2 (by decide)]; exact r3, fun o ho => by rw [pset_ne (by decide)]; exact r4 o ho, fun i => by rw [pset_ne (by decide)]; exact r5 i⟩
theorem RWx_tm {M' : pM} (h : FCx M S T sv) (h0 : M 60 0 = (R : Int)) (h1 : 1 ≤ R) (h6 : R ≤ 6) (h38 : M 60 38 = 0) (r : TMr S T R sv M M') : RWx M' R T (fcA sv 0 0 S T).1 := by
  have hT := h.2.2.2.1
  have hc := fcA_le (sv := sv) (ns := 0) (g := 0) (S := S) T
  refine ⟨by rw [r.2.1 60 0 (by decide)]; exact h0, h1, h6, by rw [r.2.1 60 3 (by decide)]; exact h.2.2.1, hT, r.2.2.2.1, by omega, by rw [r.2.1 60 38 (by decide)]; exact h38, fun t ht => ?_⟩
  have := fcO_ok (sv := sv) (ns := 0) (g := 0) (S := S) (f := M 72) T t (fcA_done T t ht) (Nat.zero_testBit t)
  refine ⟨(fcO sv 0 0 S (M 72) T t).toNat, ?_, by omega⟩
  rw [r.2.2.2.2.1 t ht]
  omega
theorem RWx_Fr {C : Nat} {M' : pM} {w : List (Nat × Nat)} (a : Fr w M M') (b1 : wOK w 60 0 = false) (b2 : wOK w 60 3 = false) (b3 : wOK w 60 30 = false) (b4 : wOK w 60 38 = false) (b5 : ∀ t, wOK w 72 t = false) (h : RWx M R T C) : RWx M' R T C := by
  obtain ⟨h1, h2, h3, h4, h5, h6, h7, h8, h9⟩ := h
  exact ⟨by rw [a 60 0 b1]; exact h1, h2, h3, by rw [a 60 3 b2]; exact h4, h5, by rw [a 60 30 b3]; exact h6, h7, by rw [a 60 38 b4]; exact h8, fun t ht => by rw [a 72 t (b5 t)]; exact h9 t ht⟩
/-- RWn as what is written -/
def wNR : List (Nat × Nat) := [(60, 40), (78, 999), (79, 999)]
theorem Fr_RWn {M' : pM} (n : RWn M M') : Fr wNR M M' := fun o i h => n o i (fun e => by
  rw [e, wOK_r (by decide)] at h; cases h) (fun e => by
  rw [e, wOK_r (by decide)] at h; cases h) (fun e => by
  rw [e.1, e.2] at h; cases h)
/-- no place of object o is written -/
theorem wOK_no {w : List (Nat × Nat)} {o : Nat} (h : w.all (fun q => !(Nat.beq q.1 o)) = true) (k : Nat) : wOK w o k = false := by
  cases e : wOK w o k with
  | false => rfl
  | true =>
    obtain ⟨q, hq, h2⟩ := List.any_eq_true.mp e
    have h3 := List.all_eq_true.mp h q hq
    rw [Bool.and_eq_true] at h2
    rw [h2.1] at h3
    cases h3
def wWorth : List (Nat × Nat) := [(60, 18), (60, 19), (60, 20), (60, 21), (60, 22), (60, 26), (60, 27)]
theorem m_worthAll78 (hd : 390 ≤ d) : ∀ {M : pM}, gM gAll M → M 60 3 = (T : Int) → T ≤ 10 → (∀ t, t < T → 0 ≤ M 78 t ∧ M 78 t ≤ 5) → ∃ z M', xF d 195 [.inr 62, .inr 80] M = rI z M' ∧ gM gAll M' ∧ Fr wWorth M M' := by
  obtain ⟨D, rfl, hD⟩ := dsucc hd
  intro M hM h3 hT h78
  have key : ∀ m t (x2 : Int) (M1 : pM), t + m = T → gM gAll M1 → Fr wWorth M M1 → ∃ z M', xE D 195 4 [.inr 62, .inr 80, .inl x2, .inl (t : Int)] [] M1 = rI z M' ∧ gM gAll M' ∧ Fr wWorth M M' := by
    intro m
    induction m with
    | zero =>
      intro t x2 M1 ht g f
      rw [L_M_worthAll_78_4, f 60 3 (by decide), h3, if_pos (by rw [le32_iff] <;> omega)]
      exact ⟨_, M1, rfl, g, f⟩
    | succ m ih =>
      intro t x2 M1 ht g f
      have h5 := h78 t (by omega)
      obtain ⟨z, M2, e, g2, f2, -⟩ := u_worthOf (d := D) (by omega) (a1 := (t : Int)) (a2 := M1 78 t) g ⟨by omega, by omega⟩ (by rw [f 78 t (wOK_no (by decide) t)]; exact h5)
      rw [L_M_worthAll_78_4, f 60 3 (by decide), h3, if_neg (by rw [le32_iff] <;> omega), if_pos (by omega), Int.toNat_natCast, e, pbI_rI, show ((t : Int) + 1) = ((t + 1 : Nat) : Int) by omega]
      exact ih (t + 1) _ M2 (by omega) g2 (Fr_tr f (Fr_mono f2 (by decide)))
  rw [T_M_worthAll_78]
  exact key T 0 0 M (by omega) hM Fr_rfl
/-- a number is told -/
theorem m_tellS (hD : 1 ≤ D) {n : Nat} (hn : n < 16) (h : M 60 16 = (n : Int)) (hM : gM gAll M) (v : Int) : ∃ M', xF D 172 [.inr 62, .inl v] M = rV M' ∧ gM gAll M' ∧ Fr [(60, 16), (69, 999)] M M' ∧ M' 60 16 = ((n + 1 : Nat) : Int) := by
  obtain ⟨D, rfl, -⟩ := dsucc hD
  rw [T_M_tell, h, if_pos (by omega), Int.toNat_natCast, pset_ne (by decide), h]
  refine ⟨_, rfl, gM_f (gM_r1 hM (by decide +kernel) (by decide +kernel)) (lo := 0) (hi := 16) (by decide +kernel) (by omega) (by omega), Fr_set (Fr_set Fr_rfl (wOK_r (by decide) _)) (by decide), ?_⟩
  rw [pset_eq]; omega
def wBest : List (Nat × Nat) := [(60, 16), (60, 17), (60, 18), (60, 19), (60, 20), (60, 21), (60, 22), (60, 26), (60, 27), (60, 30), (60, 39), (60, 40), (69, 999), (72, 999), (73, 999), (78, 999), (79, 999), (80, 999)]
theorem m_bs14 (hD : 400 ≤ D) {C W : Nat} (hW : W ≤ 20000) : ∀ m code (x1 x2 : Int) (y3 : pV) (M : pM), W ≤ code + m → code ≤ 20000 → RWx M R T C → gM gAll M → M 60 39 = (W : Int) → M 60 40 = (code : Int) - 1 → ∃ z M', xE D 236 14 [.inr 62, .inl x1, .inl x2, y3] [] M = rI z M' ∧ gM gAll M' ∧ Fr wBest M M' := by
  have fin : ∀ (x1 x2 : Int) (M1 : pM), gM gAll M1 → ∃ z M', (if ¬ eq32 x1 0 then (pbN (xF D 172 [.inr 62, .inl x2] (pset M1 60 16 0)) fun M3 => pbN (xF D 232 [.inr 62, .inr 82] M3) fun M4 => some (some (.inl 1), M4)) else some (some (.inl (-2)), M1)) = rI z M' ∧ gM gAll M' ∧ Fr wBest M1 M' := by
    intro x1 x2 M1 g1
    by_cases q : eq32 x1 0
    · rw [if_neg (fun z => z q)]
      exact ⟨_, M1, rfl, g1, Fr_rfl⟩
    · rw [if_pos q]
      obtain ⟨M3, e3, g3, f3, h3⟩ := m_tellS (D := D) (M := pset M1 60 16 0) (n := 0) (by omega) (by decide) pset_eq (gM_row0 g1) x2
      obtain ⟨M4, e4, g4, f4⟩ := u_tellF (d := D) (by omega) g3 ⟨by omega, by omega⟩
      rw [e3, pbN_rV, e4, pbN_rV]
      exact ⟨_, M4, rfl, g4, Fr_tr (Fr_set Fr_rfl (by decide)) (Fr_tr (Fr_mono f3 (by decide)) (Fr_mono f4 (by decide)))⟩
  intro m
  induction m with
  | zero =>
    intro code x1 x2 y3 M hm hc h hM h39 h40
    obtain ⟨M1, g1, n1, r⟩ := m_nextRow (d := D) (by omega) (W := W) (by omega) (code := code) (by omega) h hM h39 h40
    rcases r with ⟨r1, -, -⟩ | ⟨-, c1, r2, r3, -⟩
    · rw [L_M_best_14, r1, pbI_rI, if_pos rfl]
      obtain ⟨z, M', e, g, f⟩ := fin x1 x2 M1 g1
      exact ⟨z, M', e, g, Fr_tr (Fr_mono (Fr_RWn n1) (by decide)) f⟩
    · omega
  | succ m ih =>
    intro code x1 x2 y3 M hm hc h hM h39 h40
    obtain ⟨M1, g1, n1, r⟩ := m_nextRow (d := D) (by omega) (W := W) (by omega) (code := code) (by omega) h hM h39 h40
    have h1 := RWx_of n1 h
    have f1 : Fr wBest M M1 := Fr_mono (Fr_RWn n1) (by decide)
    rcases r with ⟨r1, -, -⟩ | ⟨r1, c1, r2, r3, -, -, r6, r7⟩
    · rw [L_M_best_14, r1, pbI_rI, if_pos rfl]
      obtain ⟨z, M', e, g, f⟩ := fin x1 x2 M1 g1
      exact ⟨z, M', e, g, Fr_tr f1 f⟩
    · rw [L_M_best_14, r1, pbI_rI, if_neg (by decide)]
      obtain ⟨v, M2, e2, g2, f2⟩ := m_worthAll78 (d := D) (by omega) g1 h1.2.2.2.1 h1.2.2.2.2.1 (fun t ht => by
        rw [r7 t ht]
        have := dg_lt (C := C) (code := c1) h.2.1 (M 72 t).toNat
        have h6 := h.2.2.1
        show (0 : Int) ≤ (dg R C c1 _ : Nat) ∧ ((dg R C c1 _ : Nat) : Int) ≤ 5
        omega)
      have h2 : RWx M2 R T C := RWx_Fr f2 (by decide) (by decide) (by decide) (by decide) (wOK_no (by decide)) h1
      have k39 : M2 60 39 = (W : Int) := by rw [f2 60 39 (by decide), n1 60 39 (by decide) (by decide) (by decide)]; exact h39
      have k40 : M2 60 40 = ((c1 + 1 : Nat) : Int) - 1 := by rw [f2 60 40 (by decide), r6]; omega
      have f12 : Fr wBest M M2 := Fr_tr f1 (Fr_mono f2 (by decide))
      have go : ∀ (x1 x2 : Int) (y3 : pV), ∃ z M', pbN (xF D 233 [.inr 62] M2) (fun M7 => xE D 236 14 [.inr 62, .inl x1, .inl x2, y3] [] M7) = rI z M' ∧ gM gAll M' ∧ Fr wBest M M' := by
        intro x1 x2 y3
        obtain ⟨M3, e3, g3, f3⟩ := u_take (d := D) (by omega) g2
        obtain ⟨z, M', e, g, f⟩ := ih (c1 + 1) x1 x2 y3 M3 (by omega) (by omega) (RWx_Fr f3 (by decide) (by decide) (by decide) (by decide) (wOK_no (by decide)) h2) g3 (by rw [f3 60 39 (by decide)]; exact k39) (by rw [f3 60 40 (by decide)]; exact k40)
        rw [e3, pbN_rV]
        exact ⟨z, M', e, g, Fr_tr f12 (Fr_tr (Fr_mono f3 (by decide)) f)⟩
      rw [e2, pbI_rI]
      by_cases q : eq32 x1 0
      · rw [if_pos q]
        exact go 1 v (.inl v)
      · rw [if_neg q]
        by_cases q2 : lt32 x2 v
        · rw [if_pos q2]
          exact go 1 v (.inl v)
        · rw [if_neg q2]
          obtain ⟨z, M', e, g, f⟩ := ih (c1 + 1) x1 x2 (.inl v) M2 (by omega) (by omega) h2 g2 k39 k40
          exact ⟨z, M', e, g, Fr_tr f12 f⟩
theorem r_best {d : Nat} (hd : 401 ≤ d) (hM : gM gAll M) (h1 : 1 ≤ M 60 0) (h38 : M 60 38 = 0) : okM d 236 [.inr 62] wBest M := by
  obtain ⟨D, rfl, hD⟩ := dsucc hd
  have hb := gm_i hM 60 0 (lo := 0) (hi := 6) (by decide +kernel) (by decide +kernel)
  obtain ⟨R, hR⟩ := natI hb.1
  have gt := gM_thr hM
  have ft : Fr wBest M (pset M 60 17 0) := Fr_set Fr_rfl (by decide)
  have hx := fcx_of gt
  have h0 : pset M 60 17 0 60 0 = (R : Int) := by rw [pset_ne2 (by decide)]; exact hR
  obtain ⟨M1, e1, r1⟩ := m_tooMuch (d := D) (by omega) gt hx h0 (by omega)
  have f1 : Fr wBest M M1 := Fr_tr ft (Fr_mono r1.2.1 (by decide))
  unfold okM
  rw [T_M_best, e1, pbI_rI]
  by_cases q : wyW R (fcA (fun k => (pset M 60 17 0 67 k).toNat) 0 0 (pset M 60 17 0 60 8).toNat (pset M 60 17 0 60 3).toNat).1 ≤ 20000
  · rw [if_pos q, if_pos rfl]
    obtain ⟨D', rfl, -⟩ := dsucc (show 1 ≤ D by omega)
    rw [T_M_beginRows, pbN_rV]
    have h2 := RWx_tm hx h0 (by omega) (by omega) (by rw [pset_ne2 (by decide)]; exact h38) r1
    have n2 : RWn M1 (pset M1 60 40 (-1)) := fun o i a b c => by
      unfold pset
      rw [if_neg c]
    obtain ⟨z, M', e, g, f⟩ := m_bs14 (D := D' + 1) (by omega) q 20000 0 0 0 (.inr 0) (pset M1 60 40 (-1)) (by omega) (by omega) (RWx_of n2 h2) (gM_f r1.1 (lo := -1) (hi := 1000000) (by decide +kernel) (by omega) (by omega)) (by rw [pset_ne2 (by decide)]; exact r1.2.2.1) (by rw [pset_eq]; omega)
    exact ⟨z, M', e, g, Fr_tr f1 (Fr_tr (Fr_set Fr_rfl (by decide)) f)⟩
  · rw [if_neg q, if_neg (by decide)]
    exact ⟨_, M1, rfl, r1.1, f1⟩
end TM
