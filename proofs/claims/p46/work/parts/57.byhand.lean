section
/-! calls of the reference that are shown by hand: build -/
/-- a call ends with an int, the ranges hold, it writes w alone -/
def okM (D k : Nat) (A : List pV) (w : List (Nat × Nat)) (M : pM) : Prop := ∃ z M', xF D k A M = rI z M' ∧ gM gAll M' ∧ Fr w M M'
theorem gM_thr {M : pM} (h : gM gAll M) : gM gAll (pset M 60 17 0) := gM_f h (lo := 0) (hi := 1) (by decide +kernel) (by omega) (by omega)
theorem gM_row0 {M : pM} (h : gM gAll M) : gM gAll (pset M 60 16 0) := gM_f h (lo := 0) (hi := 16) (by decide +kernel) (by omega) (by omega)
section BUILD
variable {D R : Nat} {M : pM}
theorem m_tell1 (hD : 100 ≤ D) (hM : gM gAll M) (v : Int) : ∃ M', xF D 172 [.inr 62, .inl v] (pset M 60 16 0) = rV M' ∧ gM gAll M' ∧ Fr [(60, 16), (69, 999)] M M' := by
  obtain ⟨M', e, g, f⟩ := u_tell (d := D) (by omega) (a1 := v) (gM_row0 hM) ⟨by rw [pset_eq]; omega, by rw [pset_eq]; omega⟩
  exact ⟨M', e, g, Fr_tr (Fr_set Fr_rfl (by decide)) f⟩
end BUILD
end
section
/-! calls of the reference that are shown by hand: whether there are too many, best -/
/-- how many arrangements, put to a million -/
def wyW (R : Nat) : Nat → Nat
  | 0 => 1
  | c + 1 => min 1000000 (wyW R c * R)
theorem wyW_le (R : Nat) : ∀ c, wyW R c ≤ 1000000
  | 0 => show 1 ≤ 1000000 by decide
  | c + 1 => Nat.min_le_left _ _
theorem pset_pset {M : pM} {o i : Nat} {v w : Int} : pset (pset M o i v) o i w = pset M o i w := by
  funext o' i'
  unfold pset
  by_cases h : o' = o ∧ i' = i
  · rw [if_pos h, if_pos h]
  · rw [if_neg h, if_neg h, if_neg h]
def wTM : List (Nat × Nat) := [(60, 30), (60, 39), (72, 999), (73, 999)]
/-- what isTooMuch leaves behind -/
def TMr (S T R : Nat) (sv : Nat → Nat) (M M' : pM) : Prop := gM gAll M' ∧ Fr wTM M M' ∧ M' 60 39 = (wyW R (fcA sv 0 0 S T).1 : Nat) ∧ M' 60 30 = ((fcA sv 0 0 S T).1 : Nat) ∧ (∀ o, o < T → M' 72 o = fcO sv 0 0 S (M 72) T o) ∧ ∀ i, M' 73 i = fcM sv 0 0 S (M 73) T i
section TM
variable {D d S T R : Nat} {sv : Nat → Nat} {M : pM}
theorem m_tm9 {C : Nat} (h0 : M 60 0 = (R : Int)) (hR : R ≤ 6) (hC : M 60 30 = (C : Int)) (hC2 : C ≤ 10) : ∀ m c, c + m = C → xE D 228 9 [.inr 62, .inl (c : Int)] [] (pset M 60 39 (wyW R c : Nat)) = rI (if wyW R C ≤ 20000 then 0 else 1) (pset M 60 39 (wyW R C : Nat)) := by
  intro m
  induction m with
  | zero =>
    intro c hc
    have hw := wyW_le R C
    have e : c = C := by omega
    subst e
    rw [L_M_isTooMuch_9, pset_ne2 (by decide), hC, if_pos (by rw [le32_iff] <;> omega), pset_eq]
    by_cases q : wyW R c ≤ 20000
    · rw [if_pos q, if_pos (by rw [le32_iff] <;> omega)]
    · rw [if_neg q, if_neg (by rw [le32_iff] <;> omega)]
  | succ m ih =>
    intro c hc
    have hw := wyW_le R c
    have hm : wyW R c * R ≤ 1000000 * 6 := Nat.mul_le_mul hw hR
    have e1 : jmin 1000000 ((wyW R c : Nat) * (R : Int)) = ((wyW R (c + 1) : Nat) : Int) := by
      rw [← Int.natCast_mul, jmin_eq (by omega) (by omega) (by omega) (by omega)]
      show min (1000000 : Int) ((wyW R c * R : Nat) : Int) = ((min 1000000 (wyW R c * R) : Nat) : Int)
      omega
    rw [L_M_isTooMuch_9, pset_ne2 (by decide), hC, if_neg (by rw [le32_iff] <;> omega), pset_eq, pset_ne2 (by decide), h0, e1, pset_pset, show ((c : Int) + 1) = ((c + 1 : Nat) : Int) by omega]
    exact ih (c + 1) (by omega)
theorem m_tooMuch (hd : 3 ≤ d) (hM : gM gAll M) (h : FCx M S T sv) (h0 : M 60 0 = (R : Int)) (hR : R ≤ 6) : ∃ M', xF d 228 [.inr 62] M = rI (if wyW R (fcA sv 0 0 S T).1 ≤ 20000 then 0 else 1) M' ∧ TMr S T R sv M M' := by
  obtain ⟨D, rfl, hD⟩ := dsucc hd
  obtain ⟨M1, e1, r1, r2, r3, r4, r5⟩ := m_findClumps (ns := 0) (g := 0) hD hM h (by decide) (by decide)
  have hT := h.2.2.2.1
  have hc := fcA_le (sv := sv) (ns := 0) (g := 0) (S := S) T
  have e2 := m_tm9 (D := D) (M := M1) (R := R) (by rw [r2 60 0 (by decide)]; exact h0) hR r3 (by omega) (fcA sv 0 0 S T).1 0 (by omega)
  have hw := wyW_le R (fcA sv 0 0 S T).1
  rw [T_M_isTooMuch, show (.inl 0 : pV) = .inl ((0 : Nat) : Int) from rfl, e1, pbN_rV]
  refine ⟨_, e2, gM_f r1 (lo := 0) (hi := 1000000) (by decide +kernel) (by omega) (by omega), Fr_set (Fr_mono r2 (by decide)) (by decide), pset_eq, by rw [pset_ne2 (by decide)]; exact r3, fun o ho => by rw [pset_ne (by decide)]; exact r4 o ho, fun i => by rw [pset_ne (by decide)]; exact r5 i⟩
theorem RWx_tm {M' : pM} (h : FCx M S T sv) (h0 : M 60 0 = (R : Int)) (h1 : 1 ≤ R) (h6 : R ≤ 6) (h38 : M 60 38 = 0) (r : TMr S T R sv M M') : RWx M' R T (fcA sv 0 0 S T).1 := by
  have hT := h.2.2.2.1
  have hc := fcA_le (sv := sv) (ns := 0) (g := 0) (S := S) T
  refine ⟨by rw [r.2.1 60 0 (by decide)]; exact h0, h1, h6, by rw [r.2.1 60 3 (by decide)]; exact h.2.2.1, hT, r.2.2.2.1, by omega, by rw [r.2.1 60 38 (by decide)]; exact h38, fun t ht => ?_⟩
  have := fcO_ok (sv := sv) (ns := 0) (g := 0) (S := S) (f := M 72) T t (fcA_done T t ht) (Nat.zero_testBit t)
  refine ⟨(fcO sv 0 0 S (M 72) T t).toNat, ?_, by omega⟩
  rw [r.2.2.2.2.1 t ht]
  omega
theorem RWx_Fr {C : Nat} {M' : pM} {w : List (Nat × Nat)} (a : Fr w M M') (b1 : wOK w 60 0 = false) (b2 : wOK w 60 3 = false) (b3 : wOK w 60 30 = false) (b4 : wOK w 60 38 = false) (b5 : ∀ t, wOK w 72 t = false) (h : RWx M R T C) : RWx M' R T C := by
  obtain ⟨h1, h2, h3, h4, h5, h6, h7, h8, h9⟩ := h
  exact ⟨by rw [a 60 0 b1]; exact h1, h2, h3, by rw [a 60 3 b2]; exact h4, h5, by rw [a 60 30 b3]; exact h6, h7, by rw [a 60 38 b4]; exact h8, fun t ht => by rw [a 72 t (b5 t)]; exact h9 t ht⟩
/-- RWn as what is written -/
def wNR : List (Nat × Nat) := [(60, 40), (78, 999), (79, 999)]
theorem Fr_RWn {M' : pM} (n : RWn M M') : Fr wNR M M' := fun o i h => n o i (fun e => by
  rw [e, wOK_r (by decide)] at h; cases h) (fun e => by
  rw [e, wOK_r (by decide)] at h; cases h) (fun e => by
  rw [e.1, e.2] at h; cases h)
/-- no place of object o is written -/
theorem wOK_no {w : List (Nat × Nat)} {o : Nat} (h : w.all (fun q => !(Nat.beq q.1 o)) = true) (k : Nat) : wOK w o k = false := by
  cases e : wOK w o k with
  | false => rfl
  | true =>
    obtain ⟨q, hq, h2⟩ := List.any_eq_true.mp e
    have h3 := List.all_eq_true.mp h q hq
    rw [Bool.and_eq_true] at h2
    rw [h2.1] at h3
    cases h3
def wWorth : List (Nat × Nat) := [(60, 18), (60, 19), (60, 20), (60, 21), (60, 22), (60, 26), (60, 27)]
theorem m_worthAll78 (hd : 390 ≤ d) : ∀ {M : pM}, gM gAll M → M 60 3 = (T : Int) → T ≤ 10 → (∀ t, t < T → 0 ≤ M 78 t ∧ M 78 t ≤ 5) → ∃ z M', xF d 195 [.inr 62, .inr 80] M = rI z M' ∧ gM gAll M' ∧ Fr wWorth M M' := by
  obtain ⟨D, rfl, hD⟩ := dsucc hd
  intro M hM h3 hT h78
  have key : ∀ m t (x2 : Int) (M1 : pM), t + m = T → gM gAll M1 → Fr wWorth M M1 → ∃ z M', xE D 195 4 [.inr 62, .inr 80, .inl x2, .inl (t : Int)] [] M1 = rI z M' ∧ gM gAll M' ∧ Fr wWorth M M' := by
    intro m
    induction m with
    | zero =>
      intro t x2 M1 ht g f
      rw [L_M_worthAll_78_4, f 60 3 (by decide), h3, if_pos (by rw [le32_iff] <;> omega)]
      exact ⟨_, M1, rfl, g, f⟩
    | succ m ih =>
      intro t x2 M1 ht g f
      have h5 := h78 t (by omega)
      obtain ⟨z, M2, e, g2, f2, -⟩ := u_worthOf (d := D) (by omega) (a1 := (t : Int)) (a2 := M1 78 t) g ⟨by omega, by omega⟩ (by rw [f 78 t (wOK_no (by decide) t)]; exact h5)
      rw [L_M_worthAll_78_4, f 60 3 (by decide), h3, if_neg (by rw [le32_iff] <;> omega), if_pos (by omega), Int.toNat_natCast, e, pbI_rI, show ((t : Int) + 1) = ((t + 1 : Nat) : Int) by omega]
      exact ih (t + 1) _ M2 (by omega) g2 (Fr_tr f (Fr_mono f2 (by decide)))
  rw [T_M_worthAll_78]
  exact key T 0 0 M (by omega) hM Fr_rfl
/-- a number is told -/
theorem m_tellS (hD : 1 ≤ D) {n : Nat} (hn : n < 16) (h : M 60 16 = (n : Int)) (hM : gM gAll M) (v : Int) : ∃ M', xF D 172 [.inr 62, .inl v] M = rV M' ∧ gM gAll M' ∧ Fr [(60, 16), (69, 999)] M M' ∧ M' 60 16 = ((n + 1 : Nat) : Int) := by
  obtain ⟨D, rfl, -⟩ := dsucc hD
  rw [T_M_tell, h, if_pos (by omega), Int.toNat_natCast, pset_ne (by decide), h]
  refine ⟨_, rfl, gM_f (gM_r1 hM (by decide +kernel) (by decide +kernel)) (lo := 0) (hi := 16) (by decide +kernel) (by omega) (by omega), Fr_set (Fr_set Fr_rfl (wOK_r (by decide) _)) (by decide), ?_⟩
  rw [pset_eq]; omega
def wBest : List (Nat × Nat) := [(60, 16), (60, 17), (60, 18), (60, 19), (60, 20), (60, 21), (60, 22), (60, 26), (60, 27), (60, 30), (60, 39), (60, 40), (69, 999), (72, 999), (73, 999), (78, 999), (79, 999), (80, 999)]
theorem m_bs14 (hD : 400 ≤ D) {C W : Nat} (hW : W ≤ 20000) : ∀ m code (x1 x2 : Int) (y3 : pV) (M : pM), W ≤ code + m → code ≤ 20000 → RWx M R T C → gM gAll M → M 60 39 = (W : Int) → M 60 40 = (code : Int) - 1 → ∃ z M', xE D 236 14 [.inr 62, .inl x1, .inl x2, y3] [] M = rI z M' ∧ gM gAll M' ∧ Fr wBest M M' := by
  have fin : ∀ (x1 x2 : Int) (M1 : pM), gM gAll M1 → ∃ z M', (if ¬ eq32 x1 0 then (pbN (xF D 172 [.inr 62, .inl x2] (pset M1 60 16 0)) fun M3 => pbN (xF D 232 [.inr 62, .inr 82] M3) fun M4 => some (some (.inl 1), M4)) else some (some (.inl (-2)), M1)) = rI z M' ∧ gM gAll M' ∧ Fr wBest M1 M' := by
    intro x1 x2 M1 g1
    by_cases q : eq32 x1 0
    · rw [if_neg (fun z => z q)]
      exact ⟨_, M1, rfl, g1, Fr_rfl⟩
    · rw [if_pos q]
      obtain ⟨M3, e3, g3, f3, h3⟩ := m_tellS (D := D) (M := pset M1 60 16 0) (n := 0) (by omega) (by decide) pset_eq (gM_row0 g1) x2
      obtain ⟨M4, e4, g4, f4⟩ := u_tellF (d := D) (by omega) g3 ⟨by omega, by omega⟩
      rw [e3, pbN_rV, e4, pbN_rV]
      exact ⟨_, M4, rfl, g4, Fr_tr (Fr_set Fr_rfl (by decide)) (Fr_tr (Fr_mono f3 (by decide)) (Fr_mono f4 (by decide)))⟩
  intro m
  induction m with
  | zero =>
    intro code x1 x2 y3 M hm hc h hM h39 h40
    obtain ⟨M1, g1, n1, r⟩ := m_nextRow (d := D) (by omega) (W := W) (by omega) (code := code) (by omega) h hM h39 h40
    rcases r with ⟨r1, -, -⟩ | ⟨-, c1, r2, r3, -⟩
    · rw [L_M_best_14, r1, pbI_rI, if_pos rfl]
      obtain ⟨z, M', e, g, f⟩ := fin x1 x2 M1 g1
      exact ⟨z, M', e, g, Fr_tr (Fr_mono (Fr_RWn n1) (by decide)) f⟩
    · omega
  | succ m ih =>
    intro code x1 x2 y3 M hm hc h hM h39 h40
    obtain ⟨M1, g1, n1, r⟩ := m_nextRow (d := D) (by omega) (W := W) (by omega) (code := code) (by omega) h hM h39 h40
    have h1 := RWx_of n1 h
    have f1 : Fr wBest M M1 := Fr_mono (Fr_RWn n1) (by decide)
    rcases r with ⟨r1, -, -⟩ | ⟨r1, c1, r2, r3, -, -, r6, r7⟩
    · rw [L_M_best_14, r1, pbI_rI, if_pos rfl]
      obtain ⟨z, M', e, g, f⟩ := fin x1 x2 M1 g1
      exact ⟨z, M', e, g, Fr_tr f1 f⟩
    · rw [L_M_best_14, r1, pbI_rI, if_neg (by decide)]
      obtain ⟨v, M2, e2, g2, f2⟩ := m_worthAll78 (d := D) (by omega) g1 h1.2.2.2.1 h1.2.2.2.2.1 (fun t ht => by
        rw [r7 t ht]
        have := dg_lt (C := C) (code := c1) h.2.1 (M 72 t).toNat
        have h6 := h.2.2.1
        show (0 : Int) ≤ (dg R C c1 _ : Nat) ∧ ((dg R C c1 _ : Nat) : Int) ≤ 5
        omega)
      have h2 : RWx M2 R T C := RWx_Fr f2 (by decide) (by decide) (by decide) (by decide) (wOK_no (by decide)) h1
      have k39 : M2 60 39 = (W : Int) := by rw [f2 60 39 (by decide), n1 60 39 (by decide) (by decide) (by decide)]; exact h39
      have k40 : M2 60 40 = ((c1 + 1 : Nat) : Int) - 1 := by rw [f2 60 40 (by decide), r6]; omega
      have f12 : Fr wBest M M2 := Fr_tr f1 (Fr_mono f2 (by decide))
      have go : ∀ (x1 x2 : Int) (y3 : pV), ∃ z M', pbN (xF D 233 [.inr 62] M2) (fun M7 => xE D 236 14 [.inr 62, .inl x1, .inl x2, y3] [] M7) = rI z M' ∧ gM gAll M' ∧ Fr wBest M M' := by
        intro x1 x2 y3
        obtain ⟨M3, e3, g3, f3⟩ := u_take (d := D) (by omega) g2
        obtain ⟨z, M', e, g, f⟩ := ih (c1 + 1) x1 x2 y3 M3 (by omega) (by omega) (RWx_Fr f3 (by decide) (by decide) (by decide) (by decide) (wOK_no (by decide)) h2) g3 (by rw [f3 60 39 (by decide)]; exact k39) (by rw [f3 60 40 (by decide)]; exact k40)
        rw [e3, pbN_rV]
        exact ⟨z, M', e, g, Fr_tr f12 (Fr_tr (Fr_mono f3 (by decide)) f)⟩
      rw [e2, pbI_rI]
      by_cases q : eq32 x1 0
      · rw [if_pos q]
        exact go 1 v (.inl v)
      · rw [if_neg q]
        by_cases q2 : lt32 x2 v
        · rw [if_pos q2]
          exact go 1 v (.inl v)
        · rw [if_neg q2]
          obtain ⟨z, M', e, g, f⟩ := ih (c1 + 1) x1 x2 (.inl v) M2 (by omega) (by omega) h2 g2 k39 k40
          exact ⟨z, M', e, g, Fr_tr f12 f⟩
theorem r_best {d : Nat} (hd : 401 ≤ d) (hM : gM gAll M) (h1 : 1 ≤ M 60 0) (h38 : M 60 38 = 0) : okM d 236 [.inr 62] wBest M := by
  obtain ⟨D, rfl, hD⟩ := dsucc hd
  have hb := gm_i hM 60 0 (lo := 0) (hi := 6) (by decide +kernel) (by decide +kernel)
  obtain ⟨R, hR⟩ := natI hb.1
  have gt := gM_thr hM
  have ft : Fr wBest M (pset M 60 17 0) := Fr_set Fr_rfl (by decide)
  have hx := fcx_of gt
  have h0 : pset M 60 17 0 60 0 = (R : Int) := by rw [pset_ne2 (by decide)]; exact hR
  obtain ⟨M1, e1, r1⟩ := m_tooMuch (d := D) (by omega) gt hx h0 (by omega)
  have f1 : Fr wBest M M1 := Fr_tr ft (Fr_mono r1.2.1 (by decide))
  unfold okM
  rw [T_M_best, e1, pbI_rI]
  by_cases q : wyW R (fcA (fun k => (pset M 60 17 0 67 k).toNat) 0 0 (pset M 60 17 0 60 8).toNat (pset M 60 17 0 60 3).toNat).1 ≤ 20000
  · rw [if_pos q, if_pos rfl]
    obtain ⟨D', rfl, -⟩ := dsucc (show 1 ≤ D by omega)
    rw [T_M_beginRows, pbN_rV]
    have h2 := RWx_tm hx h0 (by omega) (by omega) (by rw [pset_ne2 (by decide)]; exact h38) r1
    have n2 : RWn M1 (pset M1 60 40 (-1)) := fun o i a b c => by
      unfold pset
      rw [if_neg c]
    obtain ⟨z, M', e, g, f⟩ := m_bs14 (D := D' + 1) (by omega) q 20000 0 0 0 (.inr 0) (pset M1 60 40 (-1)) (by omega) (by omega) (RWx_of n2 h2) (gM_f r1.1 (lo := -1) (hi := 1000000) (by decide +kernel) (by omega) (by omega)) (by rw [pset_ne2 (by decide)]; exact r1.2.2.1) (by rw [pset_eq]; omega)
    exact ⟨z, M', e, g, Fr_tr f1 (Fr_tr (Fr_set Fr_rfl (by decide)) f)⟩
  · rw [if_neg q, if_neg (by decide)]
    exact ⟨_, M1, rfl, r1.1, f1⟩
end TM
end
section
/-! calls of the reference that are shown by hand: may -/
def wMay : List (Nat × Nat) := [(60, 16), (60, 17), (60, 30), (60, 39), (60, 40), (69, 999), (72, 999), (73, 999), (78, 999), (79, 999)]
section MAY
variable {D d S T R : Nat} {sv : Nat → Nat} {M : pM}
theorem m_in {z lo hi : Int} (hd : 1 ≤ d) : xF d 169 [.inl z, .inl lo, .inl hi] M = rI (if lt32 z lo ∨ lt32 hi z then 0 else 1) M := by
  obtain ⟨D, rfl, -⟩ := dsucc hd
  rw [T_M_in]
  by_cases q : lt32 z lo
  · rw [if_pos q, if_pos (Or.inl q)]
  · rw [if_neg q]
    by_cases q2 : lt32 hi z
    · rw [if_pos q2, if_pos (Or.inr q2)]
    · rw [if_neg q2, if_neg (fun h => h.elim q q2)]
theorem m_begin (hd : 1 ≤ d) : xF d 229 [.inr 62] M = rV (pset M 60 40 (-1)) := by
  obtain ⟨D, rfl, -⟩ := dsucc hd
  rw [T_M_beginRows]
theorem m_my34 (hD : 100 ≤ D) {C W : Nat} (hW : W ≤ 20000) {l : Nat} (hl : l < 10) (x1 : Int) : ∀ m code (x3 x4 : Int) (M : pM), W ≤ code + m → code ≤ 20000 → RWx M R T C → gM gAll M → M 60 39 = (W : Int) → M 60 40 = (code : Int) - 1 → ∃ z M', xE D 242 34 [.inr 62, .inl x1, .inl (l : Int), .inl x3, .inl x4] [] M = rI z M' ∧ gM gAll M' ∧ Fr wMay M M' := by
  intro m
  induction m with
  | zero =>
    intro code x3 x4 M hm hc h hM h39 h40
    obtain ⟨M1, g1, n1, r⟩ := m_nextRow (d := D) (by omega) (W := W) (by omega) (code := code) (by omega) h hM h39 h40
    rcases r with ⟨r1, -, -⟩ | ⟨-, c1, r2, r3, -⟩
    · obtain ⟨M3, e3, g3, f3⟩ := m_tell1 hD g1 x4
      rw [L_M_may_34, r1, pbI_rI, if_pos rfl, e3, pbN_rV]
      exact ⟨_, M3, rfl, g3, Fr_tr (Fr_mono (Fr_RWn n1) (by decide)) (Fr_mono f3 (by decide))⟩
    · omega
  | succ m ih =>
    intro code x3 x4 M hm hc h hM h39 h40
    obtain ⟨M1, g1, n1, r⟩ := m_nextRow (d := D) (by omega) (W := W) (by omega) (code := code) (by omega) h hM h39 h40
    have f1 : Fr wMay M M1 := Fr_mono (Fr_RWn n1) (by decide)
    rcases r with ⟨r1, -, -⟩ | ⟨r1, c1, r2, r3, -, -, r6, r7⟩
    · obtain ⟨M3, e3, g3, f3⟩ := m_tell1 hD g1 x4
      rw [L_M_may_34, r1, pbI_rI, if_pos rfl, e3, pbN_rV]
      exact ⟨_, M3, rfl, g3, Fr_tr f1 (Fr_mono f3 (by decide))⟩
    · rw [L_M_may_34, r1, pbI_rI, if_neg (by decide), if_pos (by omega), if_pos (by omega), if_pos (by omega)]
      have h1 := RWx_of n1 h
      have k39 : M1 60 39 = (W : Int) := by rw [n1 60 39 (by decide) (by decide) (by decide)]; exact h39
      have go : ∀ (x3 x4 : Int), ∃ z M', xE D 242 34 [.inr 62, .inl x1, .inl (l : Int), .inl x3, .inl x4] [] M1 = rI z M' ∧ gM gAll M' ∧ Fr wMay M M' := by
        intro x3 x4
        obtain ⟨z, M', e, g, f⟩ := ih (c1 + 1) x3 x4 M1 (by omega) (by omega) h1 g1 k39 (by rw [r6]; omega)
        exact ⟨z, M', e, g, Fr_tr f1 f⟩
      by_cases q : eq32 (M1 78 (l : Int).toNat) (M1 66 (l : Int).toNat)
      · rw [if_neg (fun z => z q)]
        exact go _ _
      · rw [if_pos q]
        exact go _ _
theorem r_may {d : Nat} (hd : 401 ≤ d) {b : Int} (hb1 : -2147483648 ≤ b) (hb2 : b ≤ 2147483647) (hM : gM gAll M) (h1 : 1 ≤ M 60 0) (h38 : M 60 38 = 0) : okM d 242 [.inr 62, .inl b] wMay M := by
  obtain ⟨D, rfl, hD⟩ := dsucc hd
  have hbd := gm_i hM 60 0 (lo := 0) (hi := 6) (by decide +kernel) (by decide +kernel)
  obtain ⟨R, hR⟩ := natI hbd.1
  have gt := gM_thr hM
  have ft : Fr wMay M (pset M 60 17 0) := Fr_set Fr_rfl (by decide)
  have hx := fcx_of gt
  generalize hS : (pset M 60 17 0 60 8).toNat = S at hx
  generalize hT : (pset M 60 17 0 60 3).toNat = T at hx
  generalize hv : (fun k => (pset M 60 17 0 67 k).toNat) = sv at hx
  obtain ⟨M1, e1, g1, f1, k30, -, -⟩ := m_findClumps (ns := 0) (g := 0) (d := D) (by omega) gt hx (by decide) (by decide)
  have hc := fcA_le (sv := sv) (ns := 0) (g := 0) (S := S) T
  have hT10 := hx.2.2.2.1
  have F1 : Fr wMay M M1 := Fr_tr ft (Fr_mono f1 (by decide))
  unfold okM
  rw [T_M_may, show (.inl 0 : pV) = .inl ((0 : Nat) : Int) from rfl, e1, pbN_rV, k30, m_in (by omega), pbI_rI]
  by_cases q : lt32 b ((0 : Nat) : Int) ∨ lt32 (((fcA sv 0 0 S T).1 : Int) - 1) b
  · rw [if_pos q, if_neg (fun z => z rfl)]
    exact ⟨_, M1, rfl, g1, F1⟩
  · rw [if_neg q, if_pos (by decide)]
    have q1 : 0 ≤ b ∧ b < (fcA sv 0 0 S T).1 := by
      have n1 : ¬ lt32 b ((0 : Nat) : Int) := fun z => q (Or.inl z)
      have n2 : ¬ lt32 (((fcA sv 0 0 S T).1 : Int) - 1) b := fun z => q (Or.inr z)
      rw [lt32_iff (by omega) (by omega) (by omega) (by omega)] at n1 n2
      omega
    obtain ⟨n, rfl⟩ := natI q1.1
    have hx1 := FCx_Fr f1 (by decide) (by decide) FCw_67 hx
    have h0 : M1 60 0 = (R : Int) := by rw [f1 60 0 (by decide), pset_ne2 (by decide)]; exact hR
    obtain ⟨M4, e4, r4⟩ := m_tooMuch (d := D) (by omega) g1 hx1 h0 (by omega)
    have F4 : Fr wMay M M4 := Fr_tr F1 (Fr_mono r4.2.1 (by decide))
    rw [e4, pbI_rI]
    by_cases q2 : wyW R (fcA sv 0 0 S T).1 ≤ 20000
    · obtain ⟨a, j, m1, m2, m3, m4⟩ := fcM_pos (sv := sv) (ns := 0) (g := 0) (S := S) (f := M1 73) T n (by omega)
      have ha : a < 1024 := by
        rw [m4]
        exact fcX_lt hx.2.2.2.2.2 (show 2 ^ j < 2 ^ 10 from Nat.pow_lt_pow_right (by decide) (by omega))
      have ha0 : a ≠ 0 := fun z => by rw [z, Nat.zero_testBit] at m3; cases m3
      have hz := ntz_lt ha ha0
      obtain ⟨l, hl⟩ := natI hz.1
      rw [if_pos q2, if_pos rfl, if_pos (by omega), Int.toNat_natCast, r4.2.2.2.2.2 n, m1, j_ntz (by omega) ha, pbI_rI, hl, m_begin (by omega), pbN_rV]
      have h2 := RWx_tm hx1 h0 (by omega) (by omega) (by rw [f1 60 38 (by decide), pset_ne2 (by decide)]; exact h38) r4
      have n2 : RWn M4 (pset M4 60 40 (-1)) := fun o i a b c => by
        unfold pset
        rw [if_neg c]
      obtain ⟨z, M', e, g, f⟩ := m_my34 (D := D) (by omega) q2 (l := l) (by omega) (n : Int) 20000 0 ((0 : Nat) : Int) ((0 : Nat) : Int) (pset M4 60 40 (-1)) (by omega) (by omega) (RWx_of n2 h2) (gM_f r4.1 (lo := -1) (hi := 1000000) (by decide +kernel) (by omega) (by omega)) (by rw [pset_ne2 (by decide)]; exact r4.2.2.1) (by rw [pset_eq]; omega)
      exact ⟨z, M', e, g, Fr_tr F4 (Fr_tr (Fr_set Fr_rfl (by decide)) f)⟩
    · rw [if_neg q2, if_neg (by decide)]
      exact ⟨_, M4, rfl, r4.1, F4⟩
end MAY
end
section
/-! calls of the reference that are shown by hand: the list of arrangements for aims -/
def wAims : List (Nat × Nat) := [(60, 30), (60, 39), (60, 40), (60, 48), (60, 49), (72, 999), (73, 999), (74, 999), (78, 999), (79, 999), (83, 999), (84, 999)]
section AIMS
variable {D d S T R : Nat} {sv : Nat → Nat} {M : pM}
theorem gM_83 (hM : gM gAll M) {i : Nat} {v : Int} (h1 : 0 ≤ v) (h2 : v ≤ 5) : gM gAll (pset M 83 i v) := gM_r hM (lo := 0) (hi := 5) (by decide +kernel) (by decide +kernel) h1 h2
theorem m_fa7 (hD : 1 ≤ D) : ∀ m t (M : pM), t + m = T → T ≤ 10 → gM gAll M → M 60 3 = (T : Int) → ∃ M2, xE D 260 7 [.inr 62, .inl (t : Int), .inr 0] [] M = xE D 260 29 [.inr 62, .inl (T : Int), .inr 0] [] (pset (pset (pset M2 60 48 1) 60 49 (-1)) 60 40 (-1)) ∧ gM gAll M2 ∧ Fr [(83, 999)] M M2 := by
  intro m
  induction m with
  | zero =>
    intro t M ht hT hM h3
    rw [L_M_findAims_7, h3, if_pos (by rw [le32_iff] <;> omega), m_begin hD, pbN_rV, show t = T by omega]
    exact ⟨M, rfl, hM, Fr_rfl⟩
  | succ m ih =>
    intro t M ht hT hM h3
    have h6 := gm_r hM (o := 66) (lo := 0) (hi := 5) (by decide +kernel) (by decide +kernel) (k := t) (show t < 10 by omega)
    rw [L_M_findAims_7, h3, if_neg (by rw [le32_iff] <;> omega), if_pos (by omega), if_pos (by omega), Int.toNat_natCast, show ((t : Int) + 1) = ((t + 1 : Nat) : Int) by omega]
    obtain ⟨M2, e, g, f⟩ := ih (t + 1) (pset M 83 t (M 66 t)) (by omega) hT (gM_83 hM h6.1 h6.2) (by rw [pset_ne (by decide)]; exact h3)
    exact ⟨M2, e, g, Fr_tr (Fr_set Fr_rfl (wOK_r (by decide) _)) f⟩
theorem m_fa42 {n : Nat} (hn : n ≤ 300) : ∀ m t (x1 : Int) (M : pM), t + m = T → T ≤ 10 → gM gAll M → M 60 3 = (T : Int) → M 60 48 = (n : Int) → (∀ t, t < T → 0 ≤ M 78 t ∧ M 78 t ≤ 5) → ∃ (z v : Int) (M2 : pM), xE D 260 42 [.inr 62, .inl x1, .inl (t : Int)] [] M = xE D 260 29 [.inr 62, .inl z, .inl (T : Int)] [] (pset (pset M2 60 49 v) 60 48 ((n : Int) + 1)) ∧ gM gAll M2 ∧ Fr [(83, 999)] M M2 ∧ (v = M 60 49 ∨ v = (n : Int)) := by
  intro m
  induction m with
  | zero =>
    intro t x1 M ht hT hM h3 h48 h78
    rw [L_M_findAims_42, h3, if_pos (by rw [le32_iff] <;> omega), show t = T by omega]
    by_cases q : eq32 x1 0
    · rw [if_pos q, pset_ne2 (by decide), h48]
      exact ⟨x1, M 60 49, M, rfl, hM, Fr_rfl, Or.inl rfl⟩
    · rw [if_neg q, pset_ne2 (by decide), h48]
      exact ⟨x1, n, M, rfl, hM, Fr_rfl, Or.inr rfl⟩
  | succ m ih =>
    intro t x1 M ht hT hM h3 h48 h78
    have h6 := h78 t (by omega)
    have e1 : ((t : Int) + 1) = ((t + 1 : Nat) : Int) := by omega
    have e2 : ((10 * (n : Int) + (t : Int)).toNat) = 10 * n + t := by omega
    have go : ∀ z1 : Int, ∃ (z v : Int) (M2 : pM), xE D 260 42 [.inr 62, .inl z1, .inl ((t + 1 : Nat) : Int)] [] (pset M 83 (10 * n + t) (M 78 t)) = xE D 260 29 [.inr 62, .inl z, .inl (T : Int)] [] (pset (pset M2 60 49 v) 60 48 ((n : Int) + 1)) ∧ gM gAll M2 ∧ Fr [(83, 999)] M M2 ∧ (v = M 60 49 ∨ v = (n : Int)) := by
      intro z1
      obtain ⟨z, v, M2, e, g, f, hv⟩ := ih (t + 1) z1 (pset M 83 (10 * n + t) (M 78 t)) (by omega) hT (gM_83 hM h6.1 h6.2) (by rw [pset_ne (by decide)]; exact h3) (by rw [pset_ne (by decide)]; exact h48) (fun t ht => by rw [pset_ne (by decide)]; exact h78 t ht)
      rw [pset_ne (by decide)] at hv
      exact ⟨z, v, M2, e, g, Fr_tr (Fr_set Fr_rfl (wOK_r (by decide) _)) f, hv⟩
    rw [L_M_findAims_42, h3, if_neg (by rw [le32_iff] <;> omega), if_pos (by omega), h48, if_pos (by omega), Int.toNat_natCast, e2, e1]
    by_cases q : eq32 x1 0
    · rw [if_pos q]
      exact go 0
    · rw [if_neg q, if_pos (by omega), if_pos (by omega)]
      by_cases q2 : eq32 ((pset M 83 (10 * n + t) (M 78 t)) 78 t) ((pset M 83 (10 * n + t) (M 78 t)) 81 t)
      · rw [if_neg (fun z => z q2)]
        exact go 1
      · rw [if_pos q2]
        exact go 0
theorem m_fa100 (hD : 100 ≤ D) {n a : Nat} (hn : n ≤ 301) (ha : a < n) : ∀ m b (M : pM), b + m = n → gM gAll M → M 60 48 = (n : Int) → ∃ M2, xE D 260 100 [.inr 62, .inl (a : Int), .inl (b : Int)] [] M = xE D 260 94 [.inr 62, .inl ((a + 1 : Nat) : Int), .inl (n : Int)] [] M2 ∧ gM gAll M2 ∧ Fr [(74, 999), (84, 999)] M M2 := by
  intro m
  induction m with
  | zero =>
    intro b M hb hM h48
    rw [L_M_findAims_100, h48, if_pos (by rw [le32_iff] <;> omega), show ((a : Int) + 1) = ((a + 1 : Nat) : Int) by omega, show b = n by omega]
    exact ⟨M, rfl, hM, Fr_rfl⟩
  | succ m ih =>
    intro b M hb hM h48
    obtain ⟨z, M1, e1, g1, f1, hz⟩ := u_costR (d := D) (by omega) (a2 := 10 * (a : Int)) (a4 := 10 * (b : Int)) hM ⟨by omega, by omega⟩ ⟨by omega, by omega⟩
    rw [L_M_findAims_100, h48, if_neg (by rw [le32_iff] <;> omega), e1, pbI_rI, if_pos (by omega), show ((b : Int) + 1) = ((b + 1 : Nat) : Int) by omega]
    have f2 : Fr [(74, 999), (84, 999)] M (pset M1 84 ((301 * (a : Int) + (b : Int)).toNat) z) := Fr_set (Fr_mono f1 (by decide)) (wOK_r (by decide) _)
    obtain ⟨M2, e, g, f⟩ := ih (b + 1) (pset M1 84 ((301 * (a : Int) + (b : Int)).toNat) z) (by omega) (gM_r g1 (lo := 0) (hi := 100000000) (by decide +kernel) (by decide +kernel) (by omega) (by omega)) (by rw [f2 60 48 (by decide)]; exact h48)
    exact ⟨M2, e, g, Fr_tr f2 f⟩
theorem m_fa94 (hD : 100 ≤ D) {n : Nat} (hn : n ≤ 301) (hn1 : 1 ≤ n) : ∀ m a (y : pV) (M : pM), a + m = n → gM gAll M → M 60 48 = (n : Int) → ∃ M2, xE D 260 94 [.inr 62, .inl (a : Int), y] [] M = rI 1 M2 ∧ gM gAll M2 ∧ Fr [(74, 999), (84, 999)] M M2 := by
  intro m
  induction m with
  | zero =>
    intro a y M ha hM h48
    rw [L_M_findAims_94, h48, if_pos (by rw [le32_iff] <;> omega)]
    exact ⟨M, rfl, hM, Fr_rfl⟩
  | succ m ih =>
    intro a y M ha hM h48
    obtain ⟨M1, e1, g1, f1⟩ := m_fa100 hD (a := a) hn (by omega) (n - 1) 1 M (by omega) hM h48
    rw [L_M_findAims_94, h48, if_neg (by rw [le32_iff] <;> omega), show (.inl 1 : pV) = .inl ((1 : Nat) : Int) from rfl, e1]
    obtain ⟨M2, e, g, f⟩ := ih (a + 1) (.inl (n : Int)) M1 (by omega) g1 (by rw [f1 60 48 (by decide)]; exact h48)
    exact ⟨M2, e, g, Fr_tr f1 f⟩
/-- what is known of the list -/
def FAr (M : pM) : Prop := ∃ n : Nat, M 60 48 = (n : Int) ∧ 1 ≤ n ∧ n ≤ 301 ∧ (M 60 49 = -1 ∨ (1 ≤ M 60 49 ∧ M 60 49 < (n : Int)))
theorem m_fa29 (hD : 400 ≤ D) {C W : Nat} (hW : W ≤ 20000) : ∀ (m code n : Nat) (x1 : Int) (y2 : pV) (M : pM), W ≤ code + m → code ≤ 20000 → RWx M R T C → gM gAll M → M 60 39 = (W : Int) → M 60 40 = (code : Int) - 1 → M 60 48 = (n : Int) → 1 ≤ n → n ≤ 301 → (M 60 49 = -1 ∨ (1 ≤ M 60 49 ∧ M 60 49 < (n : Int))) → ∃ z M', xE D 260 29 [.inr 62, .inl x1, y2] [] M = rI z M' ∧ gM gAll M' ∧ Fr wAims M M' ∧ (z = 0 ∨ (z = 1 ∧ FAr M')) := by
  have fin : ∀ (n : Nat) (y2 : pV) (M0 M1 : pM), gM gAll M1 → Fr wAims M0 M1 → M1 60 48 = (n : Int) → 1 ≤ n → n ≤ 301 → (M1 60 49 = -1 ∨ (1 ≤ M1 60 49 ∧ M1 60 49 < (n : Int))) → ∃ z M', xE D 260 94 [.inr 62, .inl 0, y2] [] M1 = rI z M' ∧ gM gAll M' ∧ Fr wAims M0 M' ∧ (z = 0 ∨ (z = 1 ∧ FAr M')) := by
    intro n y2 M0 M1 g1 f1 h48 hn1 hn h49
    obtain ⟨M2, e, g, f⟩ := m_fa94 (D := D) (by omega) hn hn1 n 0 y2 M1 (by omega) g1 h48
    rw [show (.inl 0 : pV) = .inl ((0 : Nat) : Int) from rfl, e]
    exact ⟨1, M2, rfl, g, Fr_tr f1 (Fr_mono f (by decide)), Or.inr ⟨rfl, n, by rw [f 60 48 (by decide)]; exact h48, hn1, hn, by rw [f 60 49 (by decide)]; exact h49⟩⟩
  intro m
  induction m with
  | zero =>
    intro code n x1 y2 M hm hc h hM h39 h40 h48 hn1 hn h49
    obtain ⟨M1, g1, n1, r⟩ := m_nextRow (d := D) (by omega) (W := W) (by omega) (code := code) (by omega) h hM h39 h40
    rcases r with ⟨r1, -, -⟩ | ⟨-, c1, r2, r3, -⟩
    · rw [L_M_findAims_29, r1, pbI_rI, if_pos rfl]
      exact fin n y2 M M1 g1 (Fr_mono (Fr_RWn n1) (by decide)) (by rw [n1 60 48 (by decide) (by decide) (by decide)]; exact h48) hn1 hn (by rw [n1 60 49 (by decide) (by decide) (by decide)]; exact h49)
    · omega
  | succ m ih =>
    intro code n x1 y2 M hm hc h hM h39 h40 h48 hn1 hn h49
    obtain ⟨M1, g1, n1, r⟩ := m_nextRow (d := D) (by omega) (W := W) (by omega) (code := code) (by omega) h hM h39 h40
    have h1 := RWx_of n1 h
    have f1 : Fr wAims M M1 := Fr_mono (Fr_RWn n1) (by decide)
    have k48 : M1 60 48 = (n : Int) := by rw [n1 60 48 (by decide) (by decide) (by decide)]; exact h48
    have k49 : M1 60 49 = M 60 49 := n1 60 49 (by decide) (by decide) (by decide)
    rcases r with ⟨r1, -, -⟩ | ⟨r1, c1, r2, r3, -, -, r6, r7⟩
    · rw [L_M_findAims_29, r1, pbI_rI, if_pos rfl]
      exact fin n y2 M M1 g1 f1 k48 hn1 hn (by rw [k49]; exact h49)
    · rw [L_M_findAims_29, r1, pbI_rI, if_neg (by decide), k48]
      by_cases q : n ≤ 300
      · rw [if_pos (by rw [le32_iff] <;> omega)]
        obtain ⟨z, v, M2, e2, g2, f2, hv⟩ := m_fa42 (D := D) q T 0 1 M1 (by omega) h1.2.2.2.2.1 g1 h1.2.2.2.1 k48 (fun t ht => by
          rw [r7 t ht]
          have := dg_lt (C := C) (code := c1) h.2.1 (M 72 t).toNat
          have h6 := h.2.2.1
          show (0 : Int) ≤ (dg R C c1 _ : Nat) ∧ ((dg R C c1 _ : Nat) : Int) ≤ 5
          omega)
        rw [show (.inl 0 : pV) = .inl ((0 : Nat) : Int) from rfl, e2]
        have f3 : Fr wAims M1 (pset (pset M2 60 49 v) 60 48 ((n : Int) + 1)) := Fr_set (Fr_set (Fr_mono f2 (by decide)) (by decide)) (by decide)
        have f4 : Fr [(83, 999), (60, 49), (60, 48)] M1 (pset (pset M2 60 49 v) 60 48 ((n : Int) + 1)) := Fr_set (Fr_set (Fr_mono f2 (by decide)) (by decide)) (by decide)
        have hv2 : v = -1 ∨ (1 ≤ v ∧ v < ((n + 1 : Nat) : Int)) := by
          rcases hv with hv | hv
          · rw [hv, k49]
            rcases h49 with y | y
            · exact Or.inl y
            · exact Or.inr ⟨y.1, by omega⟩
          · rw [hv]; exact Or.inr ⟨by omega, by omega⟩
        have g3 : gM gAll (pset (pset M2 60 49 v) 60 48 ((n : Int) + 1)) := gM_f (gM_f g2 (lo := -1) (hi := 300) (by decide +kernel) (by omega) (by omega)) (lo := 0) (hi := 301) (by decide +kernel) (by omega) (by omega)
        obtain ⟨z', M', e, g, f, r⟩ := ih (c1 + 1) (n + 1) z (.inl (T : Int)) _ (by omega) (by omega) (RWx_Fr f4 (by decide) (by decide) (by decide) (by decide) (wOK_no (by decide)) h1) g3 (by rw [f4 60 39 (by decide), n1 60 39 (by decide) (by decide) (by decide)]; exact h39) (by rw [f4 60 40 (by decide), r6]; omega) (by rw [pset_eq]; omega) (by omega) (by omega) (by rw [pset_ne2 (by decide), pset_eq]; exact hv2)
        exact ⟨z', M', e, g, Fr_tr f1 (Fr_tr f3 f), r⟩
      · rw [if_neg (by rw [le32_iff] <;> omega)]
        exact ⟨0, M1, rfl, g1, f1, Or.inl rfl⟩
theorem m_findAims (hd : 401 ≤ d) (hM : gM gAll M) (h1 : 1 ≤ M 60 0) (h38 : M 60 38 = 0) : ∃ z M', xF d 260 [.inr 62] M = rI z M' ∧ gM gAll M' ∧ Fr wAims M M' ∧ (z = 0 ∨ (z = 1 ∧ FAr M')) := by
  obtain ⟨D, rfl, hD⟩ := dsucc hd
  have hbd := gm_i hM 60 0 (lo := 0) (hi := 6) (by decide +kernel) (by decide +kernel)
  obtain ⟨R, hR⟩ := natI hbd.1
  have hx := fcx_of hM
  generalize hS : (M 60 8).toNat = S at hx
  generalize hT : (M 60 3).toNat = T at hx
  generalize hv : (fun k => (M 67 k).toNat) = sv at hx
  obtain ⟨M1, e1, r1⟩ := m_tooMuch (d := D) (by omega) hM hx hR (by omega)
  have f1 : Fr wAims M M1 := Fr_mono r1.2.1 (by decide)
  rw [T_M_findAims, e1, pbI_rI]
  by_cases q : wyW R (fcA sv 0 0 S T).1 ≤ 20000
  · rw [if_pos q, if_pos rfl]
    have h2 := RWx_tm hx hR (by omega) (by omega) h38 r1
    obtain ⟨M2, e2, g2, f2⟩ := m_fa7 (D := D) (by omega) T 0 M1 (by omega) hx.2.2.2.1 r1.1 h2.2.2.2.1
    rw [show (.inl 0 : pV) = .inl ((0 : Nat) : Int) from rfl, e2]
    have f4 : Fr [(83, 999), (60, 48), (60, 49), (60, 40)] M1 (pset (pset (pset M2 60 48 1) 60 49 (-1)) 60 40 (-1)) := Fr_set (Fr_set (Fr_set (Fr_mono f2 (by decide)) (by decide)) (by decide)) (by decide)
    have g3 : gM gAll (pset (pset (pset M2 60 48 1) 60 49 (-1)) 60 40 (-1)) := gM_f (gM_f (gM_f g2 (lo := 0) (hi := 301) (by decide +kernel) (by omega) (by omega)) (lo := -1) (hi := 300) (by decide +kernel) (by omega) (by omega)) (lo := -1) (hi := 1000000) (by decide +kernel) (by omega) (by omega)
    obtain ⟨z, M', e, g, f, r⟩ := m_fa29 (D := D) (by omega) q 20000 0 1 (T : Int) (.inr 0) _ (by omega) (by omega) (RWx_Fr f4 (by decide) (by decide) (by decide) (by decide) (wOK_no (by decide)) h2) g3 (by rw [f4 60 39 (by decide)]; exact r1.2.2.1) (by rw [pset_eq]; omega) (by rw [pset_ne2 (by decide), pset_ne2 (by decide), pset_eq]; first | done | rfl) (by omega) (by omega) (Or.inl (by rw [pset_ne2 (by decide), pset_eq]))
    exact ⟨z, M', e, g, Fr_tr f1 (Fr_tr (Fr_mono f4 (by decide)) f), r⟩
  · rw [if_neg q, if_neg (by decide)]
    exact ⟨0, M1, rfl, r1.1, f1, Or.inl rfl⟩
end AIMS
end
section
/-! calls of the reference that are shown by hand: the evenings -/
def cntF (p : Nat → Int) : Nat → Nat
  | 0 => 0
  | a + 1 => cntF p a + if p a = 1000000 then 1 else 0
theorem cntF_cg {p q : Nat → Int} : ∀ n, (∀ i, i < n → (q i = 1000000 ↔ p i = 1000000)) → cntF q n = cntF p n
  | 0, _ => rfl
  | n + 1, h => by
    unfold cntF
    rw [cntF_cg n (fun i hi => h i (by omega))]
    have := h n (by omega)
    by_cases e : p n = 1000000
    · rw [if_pos e, if_pos (this.mpr e)]
    · rw [if_neg e, if_neg (fun z => e (this.mp z))]
theorem cntF_set {p q : Nat → Int} {a : Nat} (h : ∀ i, i ≠ a → q i = p i) (h1 : p a = 1000000) (h2 : q a ≠ 1000000) : ∀ n, a < n → cntF q n + 1 = cntF p n
  | 0, ha => absurd ha (Nat.not_lt_zero a)
  | n + 1, ha => by
    unfold cntF
    by_cases e : a = n
    · subst e
      rw [if_pos h1, if_neg h2, cntF_cg a (fun i hi => by rw [h i (by omega)])]
    · have := cntF_set h h1 h2 n (by omega)
      rw [h n (fun z => e z.symm)]
      omega
theorem cntF_le (p : Nat → Int) : ∀ n, cntF p n ≤ n
  | 0 => Nat.le_refl 0
  | n + 1 => by
    unfold cntF
    have := cntF_le p n
    split <;> omega
theorem cntF_lt {p : Nat → Int} {a : Nat} (h : p a ≠ 1000000) : ∀ n, a < n → cntF p n + 1 ≤ n
  | 0, ha => absurd ha (Nat.not_lt_zero a)
  | n + 1, ha => by
    unfold cntF
    by_cases e : a = n
    · subst e
      rw [if_neg h]
      have := cntF_le p a
      omega
    · have := cntF_lt h n (by omega)
      split <;> omega
def rowE (M : pM) (n a : Nat) : Prop := (M 85 a = 1000000 ∧ M 86 a = 1000000) ∨ ∃ e c : Nat, M 85 a = (e : Int) ∧ M 86 a = (c : Int) ∧ e < n ∧ c ≤ 999 * e
def witE (M : pM) (mo : Int) (N : Nat) : Prop := M 85 0 = 1000000 ∨ ∃ b e : Nat, 1 ≤ b ∧ b < N ∧ M 85 0 = ((e + 1 : Nat) : Int) ∧ M 85 b = (e : Int) ∧ M 84 b ≤ mo ∧ M 86 0 = M 86 b + M 84 b
def wE : List (Nat × Nat) := [(85, 999), (86, 999)]
def SP (n cnt0 N : Nat) (mo more : Int) (M : pM) : Prop := gM gAll M ∧ M 60 48 = (N : Int) ∧ (∀ i, i < N → rowE M (n + 1) i) ∧ witE M mo N ∧ ((more = 0 ∧ cntF (M 85) N = cnt0 ∧ ∀ i, i < N → rowE M n i) ∨ (more = 1 ∧ cntF (M 85) N + 1 ≤ cnt0))
theorem rowE_cg {M M' : pM} {n a : Nat} (h1 : M' 85 a = M 85 a) (h2 : M' 86 a = M 86 a) (h : rowE M n a) : rowE M' n a := by
  unfold rowE
  rw [h1, h2]
  exact h
theorem rowE_mono {M : pM} {n n' a : Nat} (hn : n ≤ n') (h : rowE M n a) : rowE M n' a := by
  rcases h with h | ⟨e, c, h1, h2, h3, h4⟩
  · exact Or.inl h
  · exact Or.inr ⟨e, c, h1, h2, by omega, h4⟩
def updE (M : pM) (a : Nat) (n w : Int) : pM := pset (pset M 85 a n) 86 a w
section EVEN
variable {D d N : Nat} {mo : Int} {M : pM}
theorem upd85 {a : Nat} {n w : Int} (i : Nat) : updE M a n w 85 i = if i = a then n else M 85 i := by
  unfold updE
  rw [pset_ne (by decide)]
  by_cases h : i = a
  · rw [if_pos h, h, pset_eq]
  · rw [if_neg h, pset_ne2 h]
theorem upd86 {a : Nat} {n w : Int} (i : Nat) : updE M a n w 86 i = if i = a then w else M 86 i := by
  unfold updE
  by_cases h : i = a
  · rw [if_pos h, h, pset_eq]
  · rw [if_neg h, pset_ne2 h, pset_ne (by decide)]
theorem upd84 {a : Nat} {n w : Int} (i : Nat) : updE M a n w 84 i = M 84 i := by
  unfold updE
  rw [pset_ne (by decide), pset_ne (by decide)]
theorem SP_upd {n cnt0 a b : Nat} {more : Int} (hn1 : 1 ≤ n) (hn : n ≤ 302) (hN : N ≤ 301) (hm : mo ≤ 999) (ha : a < N) (hb1 : 1 ≤ b) (hb : b < N) (h : SP n cnt0 N mo more M) (hna : (n : Int) ≤ M 85 a) (h85 : M 85 b = (n : Int) - 1) (hc : M 84 (301 * a + b) ≤ mo) : SP n cnt0 N mo 1 (updE M a n (jmin (M 86 a) (M 86 b + M 84 (301 * a + b)))) := by
  obtain ⟨g, h48, hr, hw, hk⟩ := h
  have c0 := gm_r g (o := 84) (lo := 0) (hi := 100000000) (by decide +kernel) (by decide +kernel) (k := 301 * a + b) (show 301 * a + b < 90601 by omega)
  have hne : b ≠ a := fun z => by rw [z] at h85; omega
  obtain ⟨e, c, e1, e2, e3, e4⟩ : ∃ e c : Nat, M 85 b = (e : Int) ∧ M 86 b = (c : Int) ∧ e + 1 = n ∧ c ≤ 999 * e := by
    rcases hr b hb with y | ⟨e, c, y1, y2, y3, y4⟩
    · omega
    · exact ⟨e, c, y1, y2, by omega, y4⟩
  have hA : 0 ≤ M 86 a ∧ M 86 a ≤ 1000000 := gm_r g (o := 86) (lo := 0) (hi := 1000000) (by decide +kernel) (by decide +kernel) (k := a) (show a < 301 by omega)
  have ej : jmin (M 86 a) (M 86 b + M 84 (301 * a + b)) = min (M 86 a) (M 86 b + M 84 (301 * a + b)) := jmin_eq (by omega) (by omega) (by omega) (by omega)
  rw [ej]
  have hw1 : 0 ≤ min (M 86 a) (M 86 b + M 84 (301 * a + b)) := by omega
  obtain ⟨w, ew⟩ := natI hw1
  rw [ew]
  have hw2 : w ≤ 999 * n := by omega
  have hfar : (n : Int) ≠ 1000000 := by omega
  refine ⟨gM_r (gM_r g (lo := 0) (hi := 1000000) (by decide +kernel) (by decide +kernel) (by omega) (by omega)) (lo := 0) (hi := 1000000) (by decide +kernel) (by decide +kernel) (by omega) (by omega), ?_, fun i hi => ?_, ?_, Or.inr ⟨rfl, ?_⟩⟩
  · unfold updE
    rw [pset_ne (by decide), pset_ne (by decide)]; exact h48
  · by_cases q : i = a
    · refine Or.inr ⟨n, w, by rw [upd85, if_pos q], by rw [upd86, if_pos q], by omega, hw2⟩
    · exact rowE_cg (by rw [upd85, if_neg q]) (by rw [upd86, if_neg q]) (hr i hi)
  · -- the witness
    by_cases q : a = 0
    · subst q
      rw [show 301 * 0 + b = b by omega] at *
      by_cases p : M 86 b + M 84 b ≤ M 86 0
      · refine Or.inr ⟨b, e, hb1, hb, by rw [upd85, if_pos rfl]; omega, by rw [upd85, if_neg hne]; exact e1, by rw [upd84]; exact hc, ?_⟩
        rw [upd86, if_pos rfl, upd86, if_neg hne, upd84]
        omega
      · rcases hw with y | ⟨b0, e0, y1, y2, y3, y4, y5, y6⟩
        · rcases hr 0 ha with z | ⟨e', c', z1, -, z3, -⟩
          · omega
          · omega
        · have hb0 : b0 ≠ 0 := by omega
          have z : e0 + 1 = n := by
            rcases hr 0 ha with z | ⟨e', c', z1, -, z3, -⟩
            · omega
            · omega
          refine Or.inr ⟨b0, e0, y1, y2, by rw [upd85, if_pos rfl]; omega, by rw [upd85, if_neg hb0]; exact y4, by rw [upd84]; exact y5, ?_⟩
          rw [upd86, if_pos rfl, upd86, if_neg hb0, upd84]
          omega
    · rcases hw with y | ⟨b0, e0, y1, y2, y3, y4, y5, y6⟩
      · exact Or.inl (by rw [upd85, if_neg (fun z => q z.symm)]; exact y)
      · have hb0 : b0 ≠ a := fun z => by
          rw [z] at y4
          rcases hr 0 (by omega) with x | ⟨e', c', x1, -, x3, -⟩
          · rcases hr a ha with x2 | ⟨e2', c2', x4, -, x5, -⟩ <;> omega
          · omega
        refine Or.inr ⟨b0, e0, y1, y2, by rw [upd85, if_neg (fun z => q z.symm)]; exact y3, by rw [upd85, if_neg hb0]; exact y4, by rw [upd84]; exact y5, ?_⟩
        rw [upd86, if_neg (fun z => q z.symm), upd86, if_neg hb0, upd84]
        exact y6
  · by_cases q : M 85 a = 1000000
    · have := cntF_set (p := M 85) (q := updE M a n w 85) (a := a) (fun i hi => by rw [upd85, if_neg hi]) q (by rw [upd85, if_pos rfl]; exact hfar) N ha
      rcases hk with ⟨-, k2, -⟩ | ⟨-, k2⟩ <;> omega
    · have := cntF_cg (p := M 85) (q := updE M a n w 85) N (fun i hi => by
        rw [upd85]
        by_cases r : i = a
        · rw [if_pos r, r]
          exact ⟨fun z => absurd z hfar, fun z => absurd z q⟩
        · rw [if_neg r])
      rcases hk with ⟨-, -, k3⟩ | ⟨-, k2⟩
      · rcases k3 a ha with z | ⟨e', c', z1, -, z3, -⟩ <;> omega
      · omega
theorem m_fe53 {n cnt0 a : Nat} (hn1 : 1 ≤ n) (hn : n ≤ 302) (hN : N ≤ 301) (hm : mo ≤ 999) (hm0 : 0 ≤ mo) (ha : a < N) : ∀ m b (more : Int) (y6 : pV) (M : pM), b + m = N → 1 ≤ b → SP n cnt0 N mo more M → (n : Int) ≤ M 85 a → ∃ (more' : Int) (y5 y6' : pV) (M' : pM), xE D 262 53 [.inr 62, .inl mo, .inl more, .inl (n : Int), .inl (a : Int), .inl (b : Int), y6] [] M = xE D 262 40 [.inr 62, .inl mo, .inl more', .inl (n : Int), .inl ((a + 1 : Nat) : Int), y5, y6'] [] M' ∧ SP n cnt0 N mo more' M' ∧ Fr wE M M' := by
  intro m
  induction m with
  | zero =>
    intro b more y6 M hb hb1 h hna
    rw [L_M_findEvenings_53, h.2.1, if_pos (by rw [le32_iff] <;> omega), show ((a : Int) + 1) = ((a + 1 : Nat) : Int) by omega]
    exact ⟨more, _, y6, M, rfl, h, Fr_rfl⟩
  | succ m ih =>
    intro b more y6 M hb hb1 h hna
    have e1 : ((b : Int) + 1) = ((b + 1 : Nat) : Int) := by omega
    have e2 : (301 * (a : Int) + (b : Int)).toNat = 301 * a + b := by omega
    have c0 := gm_r h.1 (o := 84) (lo := 0) (hi := 100000000) (by decide +kernel) (by decide +kernel) (k := 301 * a + b) (show 301 * a + b < 90601 by omega)
    have b0 := gm_r h.1 (o := 85) (lo := 0) (hi := 1000000) (by decide +kernel) (by decide +kernel) (k := b) (show b < 301 by omega)
    rw [L_M_findEvenings_53, h.2.1, if_neg (by rw [le32_iff] <;> omega), if_pos (by omega), if_pos (by omega), Int.toNat_natCast, Int.toNat_natCast, e2, e1]
    by_cases q1 : eq32 (M 85 b) ((n : Int) - 1)
    · rw [if_neg (fun z => z q1)]
      rw [eq32_iff (by omega) (by omega) (by omega) (by omega)] at q1
      by_cases q2 : lt32 mo (M 84 (301 * a + b))
      · rw [if_pos q2]
        exact ih (b + 1) more _ M (by omega) (by omega) h hna
      · rw [if_neg q2]
        rw [lt32_iff (by omega) (by omega) (by omega) (by omega)] at q2
        rw [if_pos (by rw [lt32_iff] <;> omega), if_pos (by omega), if_pos (by omega), if_pos (by omega), if_pos (by omega), pset_ne (show 86 ≠ 85 by decide), pset_ne (show 86 ≠ 85 by decide)]
        have s := SP_upd hn1 hn hN hm ha hb1 (by omega) h hna q1 (by omega)
        obtain ⟨more', y5, y6', M', e, s2, f⟩ := ih (b + 1) 1 (.inl (M 84 (301 * a + b))) _ (by omega) (by omega) s (by rw [upd85, if_pos rfl]; omega)
        exact ⟨more', y5, y6', M', e, s2, Fr_tr (Fr_set (Fr_set Fr_rfl (wOK_r (by decide) _)) (wOK_r (by decide) _)) f⟩
    · rw [if_pos q1]
      exact ih (b + 1) more _ M (by omega) (by omega) h hna
theorem m_fe40 {n cnt0 : Nat} (hn1 : 1 ≤ n) (hn : n ≤ 302) (hN : N ≤ 301) (hN1 : 1 ≤ N) (hm : mo ≤ 999) (hm0 : 0 ≤ mo) : ∀ m a (more : Int) (y5 y6 : pV) (M : pM), a + m = N → SP n cnt0 N mo more M → ∃ (more' : Int) (y4 y5' y6' : pV) (M' : pM), xE D 262 40 [.inr 62, .inl mo, .inl more, .inl (n : Int), .inl (a : Int), y5, y6] [] M = xE D 262 34 [.inr 62, .inl mo, .inl more', .inl ((n + 1 : Nat) : Int), y4, y5', y6'] [] M' ∧ SP n cnt0 N mo more' M' ∧ Fr wE M M' := by
  intro m
  induction m with
  | zero =>
    intro a more y5 y6 M ha h
    rw [L_M_findEvenings_40, h.2.1, if_pos (by rw [le32_iff] <;> omega), show ((n : Int) + 1) = ((n + 1 : Nat) : Int) by omega]
    exact ⟨more, _, y5, y6, M, rfl, h, Fr_rfl⟩
  | succ m ih =>
    intro a more y5 y6 M ha h
    have b0 := gm_r h.1 (o := 85) (lo := 0) (hi := 1000000) (by decide +kernel) (by decide +kernel) (k := a) (show a < 301 by omega)
    rw [L_M_findEvenings_40, h.2.1, if_neg (by rw [le32_iff] <;> omega), if_pos (by omega), Int.toNat_natCast]
    by_cases q : le32 (n : Int) (M 85 a)
    · rw [if_pos q]
      rw [le32_iff (by omega) (by omega) (by omega) (by omega)] at q
      obtain ⟨more1, y5', y6', M1, e1, s1, f1⟩ := m_fe53 (D := D) hn1 hn hN hm hm0 (show a < N by omega) (N - 1) 1 more y6 M (by omega) (by omega) h q
      rw [show (.inl 1 : pV) = .inl ((1 : Nat) : Int) from rfl, e1]
      obtain ⟨more', y4, y5'', y6'', M', e, s, f⟩ := ih (a + 1) more1 y5' y6' M1 (by omega) s1
      exact ⟨more', y4, y5'', y6'', M', e, s, Fr_tr f1 f⟩
    · rw [if_neg q, show ((a : Int) + 1) = ((a + 1 : Nat) : Int) by omega]
      exact ih (a + 1) more y5 y6 M (by omega) h
theorem m_fe34 (hN : N ≤ 301) (hN1 : 1 ≤ N) (hm : mo ≤ 999) (hm0 : 0 ≤ mo) : ∀ cnt n (y4 y5 y6 : pV) (M : pM), 1 ≤ n → n + cnt ≤ N → cntF (M 85) N = cnt → gM gAll M → M 60 48 = (N : Int) → (∀ i, i < N → rowE M n i) → witE M mo N → ∃ M', xE D 262 34 [.inr 62, .inl mo, .inl 1, .inl (n : Int), y4, y5, y6] [] M = rV M' ∧ gM gAll M' ∧ Fr wE M M' ∧ witE M' mo N := by
  intro cnt
  induction cnt using Nat.strongRecOn with
  | ind cnt ih =>
    intro n y4 y5 y6 M hn1 hn hc hM h48 hr hw
    obtain ⟨more, y4', y5', y6', M1, e1, s1, f1⟩ := m_fe40 (D := D) (n := n) (cnt0 := cnt) (N := N) (mo := mo) hn1 (by omega) hN hN1 hm hm0 N 0 0 y5 y6 M (by omega) ⟨hM, h48, fun i hi => rowE_mono (by omega) (hr i hi), hw, Or.inl ⟨rfl, hc, hr⟩⟩
    rw [L_M_findEvenings_34, if_neg (by decide), show (.inl 0 : pV) = .inl ((0 : Nat) : Int) from rfl]
    rw [show (.inl 0 : pV) = .inl ((0 : Nat) : Int) from rfl] at e1
    rw [e1]
    obtain ⟨s2, s3, s4, s5, s6⟩ := s1
    rcases s6 with ⟨k1, -, -⟩ | ⟨k1, k2⟩
    · rw [k1, L_M_findEvenings_34, if_pos rfl]
      exact ⟨M1, rfl, s2, f1, s5⟩
    · rw [k1]
      obtain ⟨M', e, g, f, w⟩ := ih (cntF (M1 85) N) (by omega) (n + 1) y4' y5' y6' M1 (by omega) (by omega) rfl s2 s3 s4 s5
      exact ⟨M', e, g, Fr_tr f1 f, w⟩
theorem m_fe2 (hN : N ≤ 301) {A : Nat} (hA1 : 1 ≤ A) (hA : A < N) (hm : mo ≤ 999) (hm0 : 0 ≤ mo) : ∀ m i (M : pM), i + m = N → gM gAll M → M 60 48 = (N : Int) → M 60 49 = (A : Int) → (∀ j, j < i → M 85 j = (if j = A then 0 else 1000000) ∧ M 86 j = (if j = A then 0 else 1000000)) → ∃ M', xE D 262 2 [.inr 62, .inl mo, .inl (i : Int), .inr 0, .inr 0, .inr 0, .inr 0] [] M = rV M' ∧ gM gAll M' ∧ Fr wE M M' ∧ witE M' mo N := by
  intro m
  induction m with
  | zero =>
    intro i M hi hM h48 h49 hj
    rw [L_M_findEvenings_2, h48, if_pos (by rw [le32_iff] <;> omega)]
    have hc := cntF_lt (p := M 85) (a := A) (by rw [(hj A (by omega)).1, if_pos rfl]; decide) N hA
    exact m_fe34 hN (by omega) hm hm0 (cntF (M 85) N) 1 _ _ _ M (by omega) (by omega) rfl hM h48 (fun j hj2 => by
      have := hj j (by omega)
      by_cases q : j = A
      · rw [if_pos q] at this
        exact Or.inr ⟨0, 0, this.1, this.2, by omega, by omega⟩
      · rw [if_neg q] at this
        exact Or.inl this) (Or.inl (by
      have := (hj 0 (by omega)).1
      rw [if_neg (by omega)] at this
      exact this))
  | succ m ih =>
    intro i M hi hM h48 h49 hj
    have e1 : ((i : Int) + 1) = ((i + 1 : Nat) : Int) := by omega
    have go : ∀ v : Int, (v = 0 ∨ v = 1000000) → (i = A ↔ v = 0) → ∃ M', xE D 262 2 [.inr 62, .inl mo, .inl ((i + 1 : Nat) : Int), .inr 0, .inr 0, .inr 0, .inr 0] [] (pset (pset M 85 i v) 86 i v) = rV M' ∧ gM gAll M' ∧ Fr wE M M' ∧ witE M' mo N := by
      intro v hv hiv
      have g2 : gM gAll (pset (pset M 85 i v) 86 i v) := gM_r (gM_r hM (lo := 0) (hi := 1000000) (by decide +kernel) (by decide +kernel) (by omega) (by omega)) (lo := 0) (hi := 1000000) (by decide +kernel) (by decide +kernel) (by omega) (by omega)
      obtain ⟨M', e, g, f, w⟩ := ih (i + 1) (pset (pset M 85 i v) 86 i v) (by omega) g2 (by rw [pset_ne (by decide), pset_ne (by decide)]; exact h48) (by rw [pset_ne (by decide), pset_ne (by decide)]; exact h49) (fun j hj2 => by
        show updE M i v v 85 j = _ ∧ updE M i v v 86 j = _
        rw [upd85, upd86]
        by_cases r : j = i
        · rw [if_pos r, if_pos r]
          by_cases s : j = A
          · rw [if_pos s]
            have : v = 0 := hiv.mp (by omega)
            exact ⟨this, this⟩
          · rw [if_neg s]
            have : v ≠ 0 := fun z => s (by rw [r]; exact hiv.mpr z)
            exact ⟨by omega, by omega⟩
        · rw [if_neg r, if_neg r]
          exact hj j (by omega))
      exact ⟨M', e, g, Fr_tr (Fr_set (Fr_set Fr_rfl (wOK_r (by decide) _)) (wOK_r (by decide) _)) f, w⟩
    rw [L_M_findEvenings_2, h48, if_neg (by rw [le32_iff] <;> omega), h49]
    by_cases q : eq32 (i : Int) (A : Int)
    · have q2 := (eq32_iff (by omega) (by omega) (by omega) (by omega)).mp q
      rw [if_neg (fun z => z q), if_pos (by omega), Int.toNat_natCast, pset_ne (show 60 ≠ 85 by decide), h49, if_neg (fun z => z q), if_pos (by omega), e1]
      exact go 0 (Or.inl rfl) ⟨fun _ => rfl, fun _ => by omega⟩
    · have q2 : ¬ i = A := fun z => q (by rw [z])
      rw [if_pos q, if_pos (by omega), Int.toNat_natCast, pset_ne (show 60 ≠ 85 by decide), h49, if_pos q, if_pos (by omega), e1]
      exact go 1000000 (Or.inr rfl) ⟨fun z => absurd z q2, fun z => absurd z (by decide)⟩
theorem m_findEv (hd : 1 ≤ d) (hM : gM gAll M) (h : FAr M) (h49 : M 60 49 ≠ -1) (hm : mo ≤ 999) (hm0 : 0 ≤ mo) : ∃ M' N, xF d 262 [.inr 62, .inl mo] M = rV M' ∧ gM gAll M' ∧ Fr wE M M' ∧ witE M' mo N ∧ N ≤ 301 := by
  obtain ⟨D, rfl, -⟩ := dsucc hd
  obtain ⟨n, h1, h2, h3, h4⟩ := h
  rcases h4 with h4 | h4
  · exact absurd h4 h49
  · obtain ⟨A, eA⟩ := natI (show 0 ≤ M 60 49 by omega)
    rw [T_M_findEvenings, show (.inl 0 : pV) = .inl ((0 : Nat) : Int) from rfl]
    obtain ⟨M', e, g, f, w⟩ := m_fe2 (D := D) (N := n) h3 (A := A) (by omega) (by omega) hm hm0 n 0 M (by omega) hM h1 eA (fun j hj => absurd hj (Nat.not_lt_zero j))
    exact ⟨M', n, e, g, f, w, h3⟩
end EVEN
end
section
/-! calls of the reference that are shown by hand: weakest, evenings -/
def wWk : List (Nat × Nat) := [(60, 16), (60, 17), (60, 30), (60, 39), (60, 40), (60, 48), (60, 49), (69, 999), (72, 999), (73, 999), (74, 999), (78, 999), (79, 999), (83, 999), (84, 999), (85, 999), (86, 999)]
section WEAK
variable {D d T : Nat} {M : pM}
theorem FAr_Fr {M' : pM} {w : List (Nat × Nat)} (a : Fr w M M') (h1 : wOK w 60 48 = false) (h2 : wOK w 60 49 = false) (h : FAr M) : FAr M' := by
  obtain ⟨n, k1, k2, k3, k4⟩ := h
  exact ⟨n, by rw [a 60 48 h1]; exact k1, k2, k3, by rw [a 60 49 h2]; exact k4⟩
theorem m_wk32 (hD : 400 ≤ D) : ∀ (m v : Nat) (M : pM), v + m = 1000 → gM gAll M → FAr M → M 60 49 ≠ -1 → ∃ z M', xE D 264 32 [.inr 62, .inl (v : Int)] [] M = rI z M' ∧ gM gAll M' ∧ Fr wWk M M' := by
  intro m
  induction m with
  | zero =>
    intro v M hv hM h h49
    rw [L_M_weakest_32, if_pos (by rw [lt32_iff] <;> omega)]
    exact ⟨_, M, rfl, hM, Fr_rfl⟩
  | succ m ih =>
    intro v M hv hM h h49
    obtain ⟨z, M1, e1, g1, f1, -⟩ := u_isCost (d := D) (by omega) (a1 := (v : Int)) hM ⟨by omega, by omega⟩
    have F1 : Fr wWk M M1 := Fr_mono f1 (by decide)
    have h1 := FAr_Fr f1 (by decide) (by decide) h
    have k49 : M1 60 49 ≠ -1 := by rw [f1 60 49 (by decide)]; exact h49
    have e2 : ((v : Int) + 1) = ((v + 1 : Nat) : Int) := by omega
    rw [L_M_weakest_32, if_neg (by rw [lt32_iff] <;> omega), e1, pbI_rI, e2]
    by_cases q : eq32 z 0
    · rw [if_neg (fun y => y q)]
      obtain ⟨z', M', e, g, f⟩ := ih (v + 1) M1 (by omega) g1 h1 k49
      exact ⟨z', M', e, g, Fr_tr F1 f⟩
    · rw [if_pos q]
      obtain ⟨M3, N, e3, g3, f3, -, -⟩ := m_findEv (d := D) (mo := (v : Int)) (by omega) g1 h1 k49 (by omega) (by omega)
      have F3 : Fr wWk M M3 := Fr_tr F1 (Fr_mono f3 (by decide))
      rw [e3, pbN_rV]
      by_cases q2 : lt32 (M3 85 0) 1000000
      · rw [if_pos q2]
        obtain ⟨M4, e4, g4, f4⟩ := m_tell1 (D := D) (by omega) g3 ((pset M3 60 16 0) 85 0)
        rw [e4, pbN_rV]
        exact ⟨_, M4, rfl, g4, Fr_tr F3 (Fr_mono f4 (by decide))⟩
      · rw [if_neg q2]
        obtain ⟨z', M', e, g, f⟩ := ih (v + 1) M3 (by omega) g3 (FAr_Fr f3 (by decide) (by decide) h1) (by rw [f3 60 49 (by decide)]; exact k49)
        exact ⟨z', M', e, g, Fr_tr F3 f⟩
/-- what weakest and evenings have in common -/
theorem m_aimed (hD : 402 ≤ D) (hM : gM gAll M) (h1 : 1 ≤ M 60 0) (h38 : M 60 38 = 0) (F : pM → Option pR) (hF : ∀ M5, gM gAll M5 → Fr wWk M M5 → FAr M5 → M5 60 49 ≠ -1 → ∃ z M', F M5 = rI z M' ∧ gM gAll M' ∧ Fr wWk M M') : ∃ z M', (pbI (xF D 256 [.inr 62] (pset M 60 17 0)) fun v2 M1 => if ¬ eq32 v2 0 then (pbI (xF D 261 [.inr 62] M1) fun v4 M3 => if eq32 v4 0 then (pbI (xF D 260 [.inr 62] M3) fun v6 M5 => if ¬ eq32 v6 0 then (if ¬ eq32 (M5 60 49) (-1) then F M5 else some (some (.inl (-2)), M5)) else some (some (.inl (-3)), M5)) else (pbN (xF D 172 [.inr 62, .inl 0] (pset M3 60 16 0)) fun M7 => some (some (.inl 0), M7))) else some (some (.inl (-4)), M1)) = rI z M' ∧ gM gAll M' ∧ Fr wWk M M' := by
  have gt := gM_thr hM
  have ft : Fr wWk M (pset M 60 17 0) := Fr_set Fr_rfl (by decide)
  obtain ⟨v2, M1, e1, g1, f1, -⟩ := u_hasAim (d := D) (by omega) gt
  have F1 : Fr wWk M M1 := Fr_tr ft (Fr_mono f1 (by decide))
  rw [e1, pbI_rI]
  by_cases q1 : eq32 v2 0
  · rw [if_neg (fun y => y q1)]
    exact ⟨_, M1, rfl, g1, F1⟩
  · rw [if_pos q1]
    obtain ⟨v4, M3, e3, g3, f3, -⟩ := u_isThere (d := D) (by omega) g1
    have F3 : Fr wWk M M3 := Fr_tr F1 (Fr_mono f3 (by decide))
    rw [e3, pbI_rI]
    by_cases q2 : eq32 v4 0
    · rw [if_pos q2]
      obtain ⟨v6, M5, e5, g5, f5, r5⟩ := m_findAims (d := D) (by omega) g3 (by rw [F3 60 0 (by decide)]; exact h1) (by rw [F3 60 38 (by decide)]; exact h38)
      have F5 : Fr wWk M M5 := Fr_tr F3 (Fr_mono f5 (by decide))
      rw [e5, pbI_rI]
      by_cases q3 : eq32 v6 0
      · rw [if_neg (fun y => y q3)]
        exact ⟨_, M5, rfl, g5, F5⟩
      · rw [if_pos q3]
        by_cases q4 : eq32 (M5 60 49) (-1)
        · rw [if_neg (fun y => y q4)]
          exact ⟨_, M5, rfl, g5, F5⟩
        · rw [if_pos q4]
          rcases r5 with r5 | ⟨-, r5⟩
          · exact absurd (by rw [r5]) q3
          · exact hF M5 g5 F5 r5 (fun y => q4 (by rw [y]))
    · rw [if_neg q2]
      obtain ⟨M4, e4, g4, f4⟩ := m_tell1 (D := D) (by omega) g3 0
      rw [e4, pbN_rV]
      exact ⟨_, M4, rfl, g4, Fr_tr F3 (Fr_mono f4 (by decide))⟩
theorem r_weakest {d : Nat} (hd : 403 ≤ d) (hM : gM gAll M) (h1 : 1 ≤ M 60 0) (h38 : M 60 38 = 0) : okM d 264 [.inr 62] wWk M := by
  obtain ⟨D, rfl, hD⟩ := dsucc hd
  unfold okM
  rw [T_M_weakest]
  refine m_aimed hD hM h1 h38 (fun M5 => xE D 264 32 [.inr 62, .inl 1] [] M5) (fun M5 g5 F5 r5 k5 => ?_)
  obtain ⟨z, M', e, g, f⟩ := m_wk32 (D := D) (by omega) 999 1 M5 (by omega) g5 r5 k5
  exact ⟨z, M', e, g, Fr_tr F5 f⟩
theorem m_ev89 (hD : 1 ≤ D) {k : Nat} (hk : k ≤ 300) : ∀ m t (M : pM), t + m = T → T ≤ 10 → gM gAll M → M 60 3 = (T : Int) → M 60 16 = ((t + 1 : Nat) : Int) → ∃ z M', xE D 263 89 [.inr 62, .inl (k : Int), .inl (t : Int)] [] M = rI z M' ∧ gM gAll M' ∧ Fr [(60, 16), (69, 999)] M M' := by
  intro m
  induction m with
  | zero =>
    intro t M ht hT hM h3 h16
    rw [L_M_evenings_89, h3, if_pos (by rw [le32_iff] <;> omega)]
    exact ⟨_, M, rfl, hM, Fr_rfl⟩
  | succ m ih =>
    intro t M ht hT hM h3 h16
    obtain ⟨M1, e1, g1, f1, k1⟩ := m_tellS (D := D) (n := t + 1) hD (by omega) h16 hM (M 83 ((10 * (k : Int) + (t : Int)).toNat))
    rw [L_M_evenings_89, h3, if_neg (by rw [le32_iff] <;> omega), if_pos (by omega), e1, pbN_rV, show ((t : Int) + 1) = ((t + 1 : Nat) : Int) by omega]
    obtain ⟨z, M', e, g, f⟩ := ih (t + 1) M1 (by omega) hT g1 (by rw [f1 60 3 (by decide)]; exact h3) k1
    exact ⟨z, M', e, g, Fr_tr f1 f⟩
theorem m_ev44 (hD : 1 ≤ D) (hT : T ≤ 10) (hM : gM gAll M) (h3 : M 60 3 = (T : Int)) {b : Nat} (hb : b ≤ 300) (w1 : M 85 b = M 85 0 - 1) (w2 : M 84 b ≤ M 60 12) (w3 : M 86 0 = M 86 b + M 84 b) : ∀ m k, k + m = b → 1 ≤ k → ∃ z M', xE D 263 44 [.inr 62, .inl (k : Int), .inr 0] [] M = rI z M' ∧ gM gAll M' ∧ Fr [(60, 16), (69, 999)] M M' := by
  have fin : ∀ k : Nat, k ≤ 300 → ∃ z M', (pbN (xF D 172 [.inr 62, .inl ((pset M 60 16 0) 86 0)] (pset M 60 16 0)) fun M1 => xE D 263 89 [.inr 62, .inl (k : Int), .inl 0] [] M1) = rI z M' ∧ gM gAll M' ∧ Fr [(60, 16), (69, 999)] M M' := by
    intro k hk
    obtain ⟨M1, e1, g1, f1, k1⟩ := m_tellS (D := D) (M := pset M 60 16 0) (n := 0) hD (by decide) pset_eq (gM_row0 hM) ((pset M 60 16 0) 86 0)
    have F1 : Fr [(60, 16), (69, 999)] M M1 := Fr_tr (Fr_set Fr_rfl (by decide)) f1
    obtain ⟨z, M', e, g, f⟩ := m_ev89 (T := T) hD hk T 0 M1 (by omega) hT g1 (by rw [F1 60 3 (by decide)]; exact h3) k1
    rw [e1, pbN_rV, show (.inl 0 : pV) = .inl ((0 : Nat) : Int) from rfl, e]
    exact ⟨z, M', rfl, g, Fr_tr F1 f⟩
  have s0 := gm_i hM 60 12 (lo := 1) (hi := 999) (by decide +kernel) (by decide +kernel)
  intro m
  induction m with
  | zero =>
    intro k hk hk1
    have c0 := gm_r hM (o := 84) (lo := 0) (hi := 100000000) (by decide +kernel) (by decide +kernel) (k := k) (show k < 90601 by omega)
    have e : k = b := by omega
    subst e
    rw [L_M_evenings_44, if_pos (by omega), Int.toNat_natCast, if_neg (fun z => z (by rw [w1])), if_pos (by omega), if_neg (by rw [lt32_iff] <;> omega), if_pos (by omega), if_pos (by omega), if_pos (by rw [w3])]
    exact fin k hb
  | succ m ih =>
    intro k hk hk1
    have nx := ih (k + 1) (by omega) (by omega)
    rw [show ((k + 1 : Nat) : Int) = (k : Int) + 1 by omega] at nx
    rw [L_M_evenings_44, if_pos (by omega), Int.toNat_natCast]
    by_cases q1 : eq32 (M 85 k) (M 85 0 - 1)
    · rw [if_neg (fun z => z q1), if_pos (by omega)]
      by_cases q2 : lt32 (M 60 12) (M 84 k)
      · rw [if_pos q2]; exact nx
      · rw [if_neg q2, if_pos (by omega), if_pos (by omega)]
        by_cases q3 : eq32 (M 86 k + M 84 k) (M 86 0)
        · rw [if_pos q3]; exact fin k (by omega)
        · rw [if_neg q3]; exact nx
    · rw [if_pos q1]; exact nx
theorem r_evenings {d : Nat} (hd : 403 ≤ d) (hM : gM gAll M) (h1 : 1 ≤ M 60 0) (h38 : M 60 38 = 0) : okM d 263 [.inr 62] wWk M := by
  obtain ⟨D, rfl, hD⟩ := dsucc hd
  unfold okM
  rw [T_M_evenings]
  refine m_aimed hD hM h1 h38 (fun M5 => (pbN (xF D 262 [.inr 62, .inl (M5 60 12)] M5) fun M7 => if lt32 (M7 85 0) 1000000 then xE D 263 44 [.inr 62, .inl 1, .inr 0] [] M7 else some (some (.inl (-2)), M7))) (fun M5 g5 F5 r5 k5 => ?_)
  have s0 := gm_i g5 60 12 (lo := 1) (hi := 999) (by decide +kernel) (by decide +kernel)
  obtain ⟨M7, N, e7, g7, f7, w7, hN⟩ := m_findEv (d := D) (mo := M5 60 12) (by omega) g5 r5 k5 (by omega) (by omega)
  have F7 : Fr wWk M M7 := Fr_tr F5 (Fr_mono f7 (by decide))
  rw [e7, pbN_rV]
  by_cases q : lt32 (M7 85 0) 1000000
  · rw [if_pos q]
    rcases w7 with w7 | ⟨b, e, y1, y2, y3, y4, y5, y6⟩
    · rw [w7] at q
      exact absurd q (by decide)
    · have t0 := gm_i g7 60 3 (lo := 0) (hi := 10) (by decide +kernel) (by decide +kernel)
      obtain ⟨T, hT⟩ := natI t0.1
      obtain ⟨z, M', e', g, f⟩ := m_ev44 (D := D) (T := T) (M := M7) (by omega) (by omega) g7 hT (b := b) (by omega) (by omega) (by rw [f7 60 12 (by decide)]; exact y5) y6 (b - 1) 1 (by omega) (by omega)
      rw [show (.inl 1 : pV) = .inl ((1 : Nat) : Int) from rfl, e']
      exact ⟨z, M', rfl, g, Fr_tr F7 (Fr_mono f (by decide))⟩
  · rw [if_neg q]
    exact ⟨_, M7, rfl, g7, F7⟩
end WEAK
end
section
/-! calls of the reference that are shown by hand: way, hinge -/
/-- doors are the same from both sides -/
def SymD (M : pM) : Prop := ∀ a b, a < 6 → b < 6 → M 62 (6 * a + b) = M 62 (6 * b + a)
/-- after n rounds of findFar: who is come to, and from whom -/
def FFs (R : Nat) (w : Int) (n : Nat) (M : pM) : Prop := ∀ r, r < R → M 74 r = 1000000 ∨ ∃ e : Nat, M 74 r = (e : Int) ∧ e ≤ n ∧ (e = 0 ∨ ∃ o k : Nat, e = k + 1 ∧ o < R ∧ M 74 o = (k : Int) ∧ w ≤ M 62 (6 * o + r))
theorem SymD_Fr {M M' : pM} {w : List (Nat × Nat)} (a : Fr w M M') (h : ∀ k, wOK w 62 k = false) (s : SymD M) : SymD M' := fun x y hx hy => by
  rw [a 62 _ (h _), a 62 _ (h _)]
  exact s x y hx hy
section WAY
variable {D d R T : Nat} {w : Int} {M : pM}
theorem gM_74 (hM : gM gAll M) {i : Nat} {v : Int} (h1 : 0 ≤ v) (h2 : v ≤ 1000000) : gM gAll (pset M 74 i v) := gM_r hM (lo := 0) (hi := 1000000) (by decide +kernel) (by decide +kernel) h1 h2
theorem FFs_upd {n r o : Nat} (hn : n ≤ 6) (hR : R ≤ 6) (hr : r < R) (ho : o < R) (h1 : M 74 r = (n : Int)) (h2 : w ≤ M 62 (6 * r + o)) (h : FFs R w (n + 1) M) : FFs R w (n + 1) (pset M 74 o (jmin (M 74 o) ((n : Int) + 1))) := by
  rcases h o ho with y | ⟨e, y1, y2, y3⟩
  · have ej : jmin (M 74 o) ((n : Int) + 1) = ((n + 1 : Nat) : Int) := by
      rw [y, jmin_eq (by omega) (by omega) (by omega) (by omega)]
      omega
    rw [ej]
    have hor : r ≠ o := fun z => by rw [z, y] at h1; omega
    intro i hi
    by_cases q : i = o
    · subst q
      refine Or.inr ⟨n + 1, by rw [pset_eq], by omega, Or.inr ⟨r, n, rfl, hr, by rw [pset_ne2 hor]; exact h1, by rw [pset_ne (by decide)]; exact h2⟩⟩
    · rw [pset_ne2 q]
      rcases h i hi with z | ⟨e, z1, z2, z3⟩
      · exact Or.inl z
      · refine Or.inr ⟨e, z1, z2, ?_⟩
        rcases z3 with z3 | ⟨o', k, x1, x2, x3, x4⟩
        · exact Or.inl z3
        · have : o' ≠ o := fun z => by rw [z, y] at x3; omega
          exact Or.inr ⟨o', k, x1, x2, by rw [pset_ne2 this]; exact x3, by rw [pset_ne (by decide)]; exact x4⟩
  · have ej : jmin (M 74 o) ((n : Int) + 1) = M 74 o := by
      rw [y1, jmin_eq (by omega) (by omega) (by omega) (by omega)]
      omega
    rw [ej]
    have e2 : pset M 74 o (M 74 o) = M := by
      funext a b
      unfold pset
      split
      · rename_i z; rw [z.1, z.2]
      · rfl
    rw [e2]
    exact h
theorem m_ff32 (hD : 1 ≤ D) (hR : R ≤ 6) (hw1 : 0 ≤ w) (hw2 : w ≤ 9) {n r : Nat} (hn : n ≤ 6) (hr : r < R) (x1 : Int) : ∀ m o (M : pM), o + m = R → gM gAll M → M 60 0 = (R : Int) → FFs R w (n + 1) M → ∃ (y5 : pV) (M' : pM), xE D 207 32 [.inr 62, .inl x1, .inl w, .inl (n : Int), .inl (r : Int), .inl (o : Int)] [] M = xE D 207 26 [.inr 62, .inl x1, .inl w, .inl (n : Int), .inl ((r + 1 : Nat) : Int), y5] [] M' ∧ gM gAll M' ∧ Fr [(74, 999)] M M' ∧ FFs R w (n + 1) M' := by
  intro m
  induction m with
  | zero =>
    intro o M ho hM h0 h
    rw [L_M_findFar_32, h0, if_pos (by rw [le32_iff] <;> omega), show ((r : Int) + 1) = ((r + 1 : Nat) : Int) by omega]
    exact ⟨_, M, rfl, hM, Fr_rfl, h⟩
  | succ m ih =>
    intro o M ho hM h0 h
    have e1 : ((o : Int) + 1) = ((o + 1 : Nat) : Int) := by omega
    have e2 : (6 * (r : Int) + (o : Int)).toNat = 6 * r + o := by omega
    have d0 := gm_r hM (o := 62) (lo := 0) (hi := 9) (by decide +kernel) (by decide +kernel) (k := 6 * r + o) (show 6 * r + o < 36 by omega)
    have f0 := gm_r hM (o := 74) (lo := 0) (hi := 1000000) (by decide +kernel) (by decide +kernel) (k := r) (show r < 6 by omega)
    have f1 := gm_r hM (o := 74) (lo := 0) (hi := 1000000) (by decide +kernel) (by decide +kernel) (k := o) (show o < 6 by omega)
    rw [L_M_findFar_32, h0, if_neg (by rw [le32_iff] <;> omega), if_pos (by omega), Int.toNat_natCast, Int.toNat_natCast, e1, e2]
    by_cases q1 : eq32 (M 74 r) (n : Int)
    · rw [if_neg (fun z => z q1), if_pos (by omega)]
      rw [eq32_iff (by omega) (by omega) (by omega) (by omega)] at q1
      by_cases q2 : lt32 (M 62 (6 * r + o)) w
      · rw [if_pos q2]
        exact ih (o + 1) M (by omega) hM h0 h
      · rw [if_neg q2, if_pos (by omega), if_pos (by omega)]
        rw [lt32_iff (by omega) (by omega) (by omega) (by omega)] at q2
        have hj : 0 ≤ jmin (M 74 o) ((n : Int) + 1) ∧ jmin (M 74 o) ((n : Int) + 1) ≤ 1000000 := by
          rw [jmin_eq (by omega) (by omega) (by omega) (by omega)]
          omega
        obtain ⟨y5, M', e, g, f, s⟩ := ih (o + 1) (pset M 74 o (jmin (M 74 o) ((n : Int) + 1))) (by omega) (gM_74 hM hj.1 hj.2) (by rw [pset_ne (by decide)]; exact h0) (FFs_upd hn hR hr (by omega) q1 (by omega) h)
        exact ⟨y5, M', e, g, Fr_tr (Fr_set Fr_rfl (wOK_r (by decide) _)) f, s⟩
    · rw [if_pos q1]
      exact ih (o + 1) M (by omega) hM h0 h
theorem m_ff26 (hD : 1 ≤ D) (hR : R ≤ 6) (hw1 : 0 ≤ w) (hw2 : w ≤ 9) {n : Nat} (hn : n ≤ 6) (x1 : Int) : ∀ m r (y5 : pV) (M : pM), r + m = R → gM gAll M → M 60 0 = (R : Int) → FFs R w (n + 1) M → ∃ (y4 y5' : pV) (M' : pM), xE D 207 26 [.inr 62, .inl x1, .inl w, .inl (n : Int), .inl (r : Int), y5] [] M = xE D 207 20 [.inr 62, .inl x1, .inl w, .inl ((n + 1 : Nat) : Int), y4, y5'] [] M' ∧ gM gAll M' ∧ Fr [(74, 999)] M M' ∧ FFs R w (n + 1) M' := by
  intro m
  induction m with
  | zero =>
    intro r y5 M hr hM h0 h
    rw [L_M_findFar_26, h0, if_pos (by rw [le32_iff] <;> omega), show ((n : Int) + 1) = ((n + 1 : Nat) : Int) by omega]
    exact ⟨_, y5, M, rfl, hM, Fr_rfl, h⟩
  | succ m ih =>
    intro r y5 M hr hM h0 h
    rw [L_M_findFar_26, h0, if_neg (by rw [le32_iff] <;> omega)]
    obtain ⟨y, M1, e1, g1, f1, s1⟩ := m_ff32 (D := D) hD hR hw1 hw2 hn (show r < R by omega) x1 R 0 M (by omega) hM h0 h
    rw [show (.inl 0 : pV) = .inl ((0 : Nat) : Int) from rfl, e1]
    obtain ⟨y4, y5', M', e, g, f, s⟩ := ih (r + 1) y M1 (by omega) g1 (by rw [f1 60 0 (by decide)]; exact h0) s1
    exact ⟨y4, y5', M', e, g, Fr_tr f1 f, s⟩
theorem m_ff20 (hD : 1 ≤ D) (hR : R ≤ 6) (hw1 : 0 ≤ w) (hw2 : w ≤ 9) (x1 : Int) : ∀ m n (y4 y5 : pV) (M : pM), n + m = R → gM gAll M → M 60 0 = (R : Int) → FFs R w n M → ∃ M', xE D 207 20 [.inr 62, .inl x1, .inl w, .inl (n : Int), y4, y5] [] M = rV M' ∧ gM gAll M' ∧ Fr [(74, 999)] M M' ∧ FFs R w R M' := by
  intro m
  induction m with
  | zero =>
    intro n y4 y5 M hn hM h0 h
    have e : n = R := by omega
    rw [L_M_findFar_20, h0, if_pos (by rw [le32_iff] <;> omega)]
    rw [e] at h
    exact ⟨M, rfl, hM, Fr_rfl, h⟩
  | succ m ih =>
    intro n y4 y5 M hn hM h0 h
    rw [L_M_findFar_20, h0, if_neg (by rw [le32_iff] <;> omega)]
    obtain ⟨y4', y5', M1, e1, g1, f1, s1⟩ := m_ff26 (D := D) hD hR hw1 hw2 (show n ≤ 6 by omega) x1 R 0 y5 M (by omega) hM h0 (fun r hr => by
      rcases h r hr with z | ⟨e, z1, z2, z3⟩
      · exact Or.inl z
      · exact Or.inr ⟨e, z1, by omega, z3⟩)
    rw [show (.inl 0 : pV) = .inl ((0 : Nat) : Int) from rfl, e1]
    obtain ⟨M', e, g, f, s⟩ := ih (n + 1) y4' y5' M1 (by omega) g1 (by rw [f1 60 0 (by decide)]; exact h0) s1
    exact ⟨M', e, g, Fr_tr f1 f, s⟩
theorem m_ff2 (hD : 1 ≤ D) (hR : R ≤ 6) (hw1 : 0 ≤ w) (hw2 : w ≤ 9) {x1 : Int} (hx1 : -2147483648 ≤ x1) (hx2 : x1 < 2147483648) : ∀ m i (M : pM), i + m = R → gM gAll M → M 60 0 = (R : Int) → (∀ j, j < i → M 74 j = 1000000 ∨ M 74 j = 0) → ∃ M', xE D 207 2 [.inr 62, .inl x1, .inl w, .inl (i : Int), .inr 0, .inr 0] [] M = rV M' ∧ gM gAll M' ∧ Fr [(74, 999)] M M' ∧ FFs R w R M' := by
  intro m
  induction m with
  | zero =>
    intro i M hi hM h0 h
    rw [L_M_findFar_2, h0, if_pos (by rw [le32_iff] <;> omega), show (.inl 0 : pV) = .inl ((0 : Nat) : Int) from rfl]
    exact m_ff20 hD hR hw1 hw2 x1 R 0 _ _ M (by omega) hM h0 (fun r hr => by
      rcases h r (by omega) with z | z
      · exact Or.inl z
      · exact Or.inr ⟨0, z, by omega, Or.inl rfl⟩)
  | succ m ih =>
    intro i M hi hM h0 h
    have e1 : ((i : Int) + 1) = ((i + 1 : Nat) : Int) := by omega
    have go : ∀ v : Int, (v = 0 ∨ v = 1000000) → ∃ M', xE D 207 2 [.inr 62, .inl x1, .inl w, .inl ((i + 1 : Nat) : Int), .inr 0, .inr 0] [] (pset M 74 i v) = rV M' ∧ gM gAll M' ∧ Fr [(74, 999)] M M' ∧ FFs R w R M' := by
      intro v hv
      obtain ⟨M', e, g, f, s⟩ := ih (i + 1) (pset M 74 i v) (by omega) (gM_74 hM (by omega) (by omega)) (by rw [pset_ne (by decide)]; exact h0) (fun j hj => by
        by_cases q : j = i
        · rw [q, pset_eq]; exact hv.symm
        · rw [pset_ne2 q]; exact h j (by omega))
      exact ⟨M', e, g, Fr_tr (Fr_set Fr_rfl (wOK_r (by decide) _)) f, s⟩
    rw [L_M_findFar_2, h0, if_neg (by rw [le32_iff] <;> omega)]
    by_cases q : eq32 (i : Int) x1
    · rw [if_neg (fun z => z q), if_pos (by omega), Int.toNat_natCast, e1]
      exact go 0 (Or.inl rfl)
    · rw [if_pos q, if_pos (by omega), Int.toNat_natCast, e1]
      exact go 1000000 (Or.inr rfl)
theorem m_findFar (hd : 2 ≤ d) (hM : gM gAll M) (h0 : M 60 0 = (R : Int)) (hR : R ≤ 6) (hw1 : 0 ≤ w) (hw2 : w ≤ 9) {x1 : Int} (hx1 : -2147483648 ≤ x1) (hx2 : x1 < 2147483648) : ∃ M', xF d 207 [.inr 62, .inl x1, .inl w] M = rV M' ∧ gM gAll M' ∧ Fr [(74, 999)] M M' ∧ FFs R w R M' := by
  obtain ⟨D, rfl, hD⟩ := dsucc hd
  rw [T_M_findFar, show (.inl 0 : pV) = .inl ((0 : Nat) : Int) from rfl]
  exact m_ff2 hD hR hw1 hw2 hx1 hx2 R 0 M (by omega) hM h0 (fun j hj => absurd hj (Nat.not_lt_zero j))
theorem m_isRoom (hd : 2 ≤ d) (h0 : M 60 0 = (R : Int)) (hR : R ≤ 6) {b : Int} (h1 : -2147483648 ≤ b) (h2 : b < 2147483648) : xF d 173 [.inr 62, .inl b] M = rI (if 0 ≤ b ∧ b < (R : Int) then 1 else 0) M := by
  obtain ⟨D, rfl, hD⟩ := dsucc hd
  rw [T_M_isRoom, h0, m_in hD, pbI_rI]
  by_cases q : 0 ≤ b ∧ b < (R : Int)
  · have n : ¬ (lt32 b 0 ∨ lt32 ((R : Int) - 1) b) := by
      rw [lt32_iff (by omega) (by omega) (by omega) (by omega), lt32_iff (by omega) (by omega) (by omega) (by omega)]
      omega
    rw [if_neg n, if_pos (Or.inr rfl), if_pos q]
  · have n : lt32 b 0 ∨ lt32 ((R : Int) - 1) b := by
      rw [lt32_iff (by omega) (by omega) (by omega) (by omega), lt32_iff (by omega) (by omega) (by omega) (by omega)]
      omega
    rw [if_pos n, if_pos (Or.inl rfl), if_neg q]
theorem m_isThing (hd : 2 ≤ d) (h3 : M 60 3 = (T : Int)) (hT : T ≤ 10) {b : Int} (h1 : -2147483648 ≤ b) (h2 : b < 2147483648) : xF d 174 [.inr 62, .inl b] M = rI (if 0 ≤ b ∧ b < (T : Int) then 1 else 0) M := by
  obtain ⟨D, rfl, hD⟩ := dsucc hd
  rw [T_M_isThing, h3, m_in hD, pbI_rI]
  by_cases q : 0 ≤ b ∧ b < (T : Int)
  · have n : ¬ (lt32 b 0 ∨ lt32 ((T : Int) - 1) b) := by
      rw [lt32_iff (by omega) (by omega) (by omega) (by omega), lt32_iff (by omega) (by omega) (by omega) (by omega)]
      omega
    rw [if_neg n, if_pos (Or.inr rfl), if_pos q]
  · have n : lt32 b 0 ∨ lt32 ((T : Int) - 1) b := by
      rw [lt32_iff (by omega) (by omega) (by omega) (by omega), lt32_iff (by omega) (by omega) (by omega) (by omega)]
      omega
    rw [if_pos n, if_pos (Or.inl rfl), if_neg q]
theorem m_wy49 {t now k b : Nat} (ht : t < 10) (hnow : now < 6) (hb : b < 6) (hM : gM gAll M) (h1 : M 74 b = (k : Int)) (h2 : M 64 t ≤ M 62 (6 * now + b)) (hk : k ≤ 6) (x2 x3 : Int) : ∀ m o, o + m = b → ∃ o' : Nat, o' ≤ b ∧ M 74 o' = (k : Int) ∧ xE D 250 49 [.inr 62, .inl (t : Int), .inl x2, .inl x3, .inl (now : Int), .inl (k : Int), .inl (o : Int)] [] M = (pbN (xF D 172 [.inr 62, .inl (o' : Int)] M) fun M1 => xE D 250 45 [.inr 62, .inl (t : Int), .inl x2, .inl x3, .inl (o' : Int), .inl ((k : Int) + (-1)), .inl (o' : Int)] [] M1) := by
  have w0 := gm_r hM (o := 64) (lo := 0) (hi := 9) (by decide +kernel) (by decide +kernel) (k := t) (show t < 10 from ht)
  intro m
  induction m with
  | zero =>
    intro o ho
    have e : o = b := by omega
    subst e
    have d0 := gm_r hM (o := 62) (lo := 0) (hi := 9) (by decide +kernel) (by decide +kernel) (k := 6 * now + o) (show 6 * now + o < 36 by omega)
    refine ⟨o, Nat.le_refl o, h1, ?_⟩
    rw [L_M_way_49, if_pos (by omega), Int.toNat_natCast, if_neg (fun z => z (by rw [h1])), if_pos (by omega), if_pos (by omega), Int.toNat_natCast, show (6 * (now : Int) + (o : Int)).toNat = 6 * now + o by omega, if_pos (by rw [le32_iff] <;> omega)]
  | succ m ih =>
    intro o ho
    have d0 := gm_r hM (o := 62) (lo := 0) (hi := 9) (by decide +kernel) (by decide +kernel) (k := 6 * now + o) (show 6 * now + o < 36 by omega)
    have f0 := gm_r hM (o := 74) (lo := 0) (hi := 1000000) (by decide +kernel) (by decide +kernel) (k := o) (show o < 6 by omega)
    obtain ⟨o', y1, y2, y3⟩ := ih (o + 1) (by omega)
    rw [show ((o + 1 : Nat) : Int) = (o : Int) + 1 by omega] at y3
    rw [L_M_way_49, if_pos (by omega), Int.toNat_natCast]
    by_cases q1 : eq32 (M 74 o) (k : Int)
    · rw [if_neg (fun z => z q1), if_pos (by omega), if_pos (by omega), Int.toNat_natCast, show (6 * (now : Int) + (o : Int)).toNat = 6 * now + o by omega]
      by_cases q2 : le32 (M 64 t) (M 62 (6 * now + o))
      · rw [if_pos q2]
        exact ⟨o, by omega, (eq32_iff (by omega) (by omega) (by omega) (by omega)).mp q1, rfl⟩
      · rw [if_neg q2]
        exact ⟨o', y1, y2, y3⟩
    · rw [if_pos q1]
      exact ⟨o', y1, y2, y3⟩
theorem m_wy45 (hD : 1 ≤ D) (hR : R ≤ 6) {t : Nat} (ht : t < 10) (x2 x3 : Int) : ∀ (k now n : Nat) (y6 : pV) (M : pM), gM gAll M → SymD M → FFs R (M 64 t) R M → now < R → M 74 now = (k : Int) → k ≤ 6 → M 60 16 = (n : Int) → n + k ≤ 6 → ∃ z M', xE D 250 45 [.inr 62, .inl (t : Int), .inl x2, .inl x3, .inl (now : Int), .inl ((k : Int) - 1), y6] [] M = rI z M' ∧ gM gAll M' ∧ Fr [(60, 16), (69, 999)] M M' := by
  intro k
  induction k with
  | zero =>
    intro now n y6 M hM hs hf hnow h74 hk h16 hn
    rw [L_M_way_45, if_pos (by rw [lt32_iff] <;> omega)]
    exact ⟨_, M, rfl, hM, Fr_rfl⟩
  | succ k ih =>
    intro now n y6 M hM hs hf hnow h74 hk h16 hn
    rcases hf now hnow with z | ⟨e, z1, z2, z3⟩
    · omega
    · rcases z3 with z3 | ⟨o, k', x1, x2', x3', x4⟩
      · omega
      · have ek : k' = k := by omega
        subst ek
        rw [L_M_way_45, if_neg (by rw [lt32_iff] <;> omega), show (((k' + 1 : Nat) : Int) - 1) = (k' : Int) by omega, show (.inl 0 : pV) = .inl ((0 : Nat) : Int) from rfl]
        obtain ⟨o', u1, u2, u3⟩ := m_wy49 (D := D) (M := M) (t := t) (now := now) (k := k') (b := o) ht (by omega) (by omega) hM x3' (by rw [hs now o (by omega) (by omega)]; exact x4) (by omega) x2 x3 o 0 (by omega)
        rw [u3]
        obtain ⟨M1, e1, g1, f1, k1⟩ := m_tellS (D := D) (n := n) hD (by omega) h16 hM (o' : Int)
        rw [e1, pbN_rV, show (k' : Int) + (-1) = (k' : Int) - 1 by omega]
        have k64 : M1 64 t = M 64 t := f1 64 t (wOK_no (by decide) t)
        obtain ⟨z, M', e', g, f⟩ := ih o' (n + 1) (.inl (o' : Int)) M1 g1 (SymD_Fr f1 (wOK_no (by decide)) hs) (fun r hr => by
          have := hf r hr
          rw [k64, f1 74 r (wOK_no (by decide) r)]
          rcases this with y | ⟨e, y1, y2, y3⟩
          · exact Or.inl y
          · refine Or.inr ⟨e, y1, y2, ?_⟩
            rcases y3 with y3 | ⟨o2, k2, v1, v2, v3, v4⟩
            · exact Or.inl y3
            · exact Or.inr ⟨o2, k2, v1, v2, by rw [f1 74 o2 (wOK_no (by decide) o2)]; exact v3, by rw [f1 62 _ (wOK_no (by decide) _)]; exact v4⟩) (by omega) (by rw [f1 74 o' (wOK_no (by decide) o')]; exact u2) (by omega) k1 (by omega)
        exact ⟨z, M', e', g, Fr_tr f1 f⟩
def wWay : List (Nat × Nat) := [(60, 16), (60, 17), (69, 999), (74, 999)]
theorem r_way {d : Nat} (hd : 5 ≤ d) {b c : Int} (hb1 : -2147483648 ≤ b) (hb2 : b ≤ 2147483647) (hc1 : -2147483648 ≤ c) (hc2 : c ≤ 2147483647) (hM : gM gAll M) (hs : SymD M) (hi : ∀ t : Nat, (t : Int) < M 60 3 → M 66 t < M 60 0) : okM d 250 [.inr 62, .inl b, .inl c] wWay M := by
  obtain ⟨D, rfl, hD⟩ := dsucc hd
  have gt := gM_thr hM
  have ft : Fr wWay M (pset M 60 17 0) := Fr_set Fr_rfl (by decide)
  have r0 := gm_i gt 60 0 (lo := 0) (hi := 6) (by decide +kernel) (by decide +kernel)
  have t0 := gm_i gt 60 3 (lo := 0) (hi := 10) (by decide +kernel) (by decide +kernel)
  obtain ⟨R, hR⟩ := natI r0.1
  obtain ⟨T, hT⟩ := natI t0.1
  unfold okM
  rw [T_M_way, m_isThing (by omega) hT (by omega) hb1 (by omega), pbI_rI]
  by_cases q1 : 0 ≤ b ∧ b < (T : Int)
  · rw [if_pos q1, if_neg (by decide), m_isRoom (by omega) hR (by omega) hc1 (by omega), pbI_rI]
    by_cases q2 : 0 ≤ c ∧ c < (R : Int)
    · obtain ⟨t, rfl⟩ := natI q1.1
      have w0 := gm_r gt (o := 64) (lo := 0) (hi := 9) (by decide +kernel) (by decide +kernel) (k := t) (show t < 10 by omega)
      obtain ⟨M5, e5, g5, f5, s5⟩ := m_findFar (d := D) (R := R) (w := pset M 60 17 0 64 t) (x1 := c) (by omega) gt hR (by omega) w0.1 w0.2 hc1 (by omega)
      have F5 : Fr wWay M M5 := Fr_tr ft (Fr_mono f5 (by decide))
      have i5 := gm_r g5 (o := 66) (lo := 0) (hi := 5) (by decide +kernel) (by decide +kernel) (k := t) (show t < 10 by omega)
      obtain ⟨a, ha⟩ := natI i5.1
      have h74 := gm_r g5 (o := 74) (lo := 0) (hi := 1000000) (by decide +kernel) (by decide +kernel) (k := a) (show a < 6 by omega)
      rw [if_pos q2, if_pos (by decide), if_pos (by omega), Int.toNat_natCast, e5, pbN_rV, if_pos (by omega), ha, if_pos (by omega), Int.toNat_natCast]
      by_cases q3 : lt32 (M5 74 a) 1000000
      · rw [if_pos q3, if_pos (by omega), pset_ne (show 66 ≠ 60 by decide), ha]
        have q4 := (lt32_iff (by omega) (by omega) (by omega) (by omega)).mp q3
        by_cases q5 : a < R
        · have gx := gM_row0 g5
          have k64 : M5 64 t = pset M 60 17 0 64 t := f5 64 t (wOK_no (by decide) t)
          obtain ⟨k, hk⟩ := natI h74.1
          have hk6 : k ≤ 6 := by
            rcases s5 a q5 with z | ⟨e, z1, z2, z3⟩ <;> omega
          obtain ⟨z, M', e', g, f⟩ := m_wy45 (D := D) (R := R) (by omega) (by omega) (t := t) (by omega) c (M5 74 a) k a 0 (.inr 0) (pset M5 60 16 0) gx (SymD_Fr (Fr_set F5 (o := 60) (i := 16) (v := 0) (by decide)) (wOK_no (by decide)) hs) (fun r hr => by
            have := s5 r hr
            rw [pset_ne (show 64 ≠ 60 by decide), k64, pset_ne (show 74 ≠ 60 by decide)]
            rcases this with y | ⟨e, y1, y2, y3⟩
            · exact Or.inl y
            · refine Or.inr ⟨e, y1, y2, ?_⟩
              rcases y3 with y3 | ⟨o2, k2, v1, v2, v3, v4⟩
              · exact Or.inl y3
              · exact Or.inr ⟨o2, k2, v1, v2, by rw [pset_ne (show 74 ≠ 60 by decide)]; exact v3, by rw [pset_ne (show 62 ≠ 60 by decide)]; exact v4⟩) q5 (by rw [pset_ne (show 74 ≠ 60 by decide)]; exact hk) hk6 (by rw [pset_eq]; first | done | rfl) (by omega)
          rw [hk] at e' ⊢
          exact ⟨z, M', e', g, Fr_tr F5 (Fr_tr (Fr_set Fr_rfl (by decide)) (Fr_mono f (by decide)))⟩
        · have h1 := hi t (by rw [pset_ne2 (by decide)] at hT; omega)
          have h2 : M5 66 t = M 66 t := by rw [f5 66 t (wOK_no (by decide) t), pset_ne (by decide)]
          rw [pset_ne2 (by decide)] at hR
          omega
      · rw [if_neg q3]
        exact ⟨_, M5, rfl, g5, F5⟩
    · rw [if_neg q2, if_neg (fun z => z rfl)]
      exact ⟨_, _, rfl, gt, ft⟩
  · rw [if_neg q1, if_pos rfl]
    exact ⟨_, _, rfl, gt, ft⟩
end WAY
end
