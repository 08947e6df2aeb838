/-! the reference's house: its loop and its end -/
section RH2
variable {tx : Nat → Int} {L D : Nat} {h0 M0 : pM}
theorem m_m0B (hD : 2 ≤ D) {M : pM} {p : Nat} (h : RSt tx L 76 M (.inl p)) (x1 x2 x3 x4 x5 : Int) (y7 y8 : pV) : xE D 184 33 [.inr 62, .inl x1, .inl x2, .inl x3, .inl x4, .inl x5, .inl 0, y7, y8] [] M = rI (-1 - (p : Int)) M := by
  have hp := h.2.2.2.2.2.2.2.2.2.1
  rw [L_M_house_33, if_pos rfl]
  by_cases q : le32 (M 60 19) (M 60 21)
  · rw [if_pos q, m_fineB (by omega) h, pbI_rI, if_neg (fun z => z rfl), hp]
  · rw [if_neg q, m_faultB hD h, pbN_rV, m_fineB (by omega) h, pbI_rI, if_neg (fun z => z rfl), hp]
theorem m_m0G (hD : 2 ≤ D) {M : pM} {b : Nat} (h : RSt tx L 76 M (.inr b)) (x1 x2 x3 x4 x5 : Int) (y7 y8 : pV) : xE D 184 33 [.inr 62, .inl x1, .inl x2, .inl x3, .inl x4, .inl x5, .inl 0, y7, y8] [] M = if L ≤ b then xE D 184 199 [.inr 62, .inl x1, .inl x2, .inl x3, .inl x4, .inl x5, .inl 0, .inl (M 60 0), y8] [] M else rI (-1 - (b : Int)) (pset M 60 22 b) := by
  have hb := h.2.2.2.2.2.2.2.2.2.1
  have hL := h.2.1
  have hL8 := h.2.2.2.1
  have h11 := h.2.2.2.2.2.2.2.2.2.2.1
  rw [L_M_house_33, if_pos rfl, hL, hb]
  by_cases q : L ≤ b
  · rw [if_pos (by rw [le32_iff] <;> omega), m_fineG (by omega) h, pbI_rI, if_pos (by decide), if_pos q]
  · obtain ⟨e, r⟩ := m_faultG hD h (p := b) (by omega)
    rw [if_neg (by rw [le32_iff] <;> omega), e, pbN_rV, m_fineB (by omega) r, pbI_rI, if_neg (fun z => z rfl), if_neg q, pset_eq]
/-- how the loop ends -/
def HO (L : Nat) (D : Nat) (h0 M0 : pM) (P : rgs × pM × Nat) (o : Option pR) : Prop := match phE L P.1 with
  | .inl p => ∃ M', o = rI (-1 - (p : Int)) M' ∧ BF h0 M0 M' ∧ gM gAll M'
  | .inr _ => ∃ (M' : pM) (k' : Nat) (y8' : pV), o = xE D 184 199 [.inr 62, .inl (hR P.2.1 : Int), .inl (hT P.2.1 : Int), .inl (hS P.2.1 : Int), .inl (k' : Int), .inl (P.2.2 : Int), .inl 0, .inl (M' 60 0), y8'] [] M' ∧ LI h0 P.2.1 k' M' ∧ BF h0 M0 M' ∧ gM gAll M' ∧ k' ≤ 76 ∧ WF P.2.1 ∧ hR h0 ≤ hR P.2.1 ∧ hT h0 ≤ hT P.2.1 ∧ hS h0 ≤ hS P.2.1
theorem lnS_mono {st a b : Nat} {h : pM} (hl : (lnS tx st h a).1 = .inr b) : hR h ≤ hR (lnS tx st h a).2 ∧ hT h ≤ hT (lnS tx st h a).2 ∧ hS h ≤ hS (lnS tx st h a).2 := by
  unfold lnS
  by_cases c1 : hc tx st a = 114
  · rw [if_pos c1]
    by_cases c2 : hR h = 6
    · rw [if_pos c2]; exact ⟨Nat.le_refl _, Nat.le_refl _, Nat.le_refl _⟩
    · rw [if_neg c2]
      dsimp only
      rw [hR_addR, hT_addR, hS_addR]
      exact ⟨by omega, Nat.le_refl _, Nat.le_refl _⟩
  · rw [if_neg c1]
    by_cases c2 : hc tx st a = 100
    · rw [if_pos c2]
      dsimp only
      unfold hR hT hS
      rw [hx_addD, hx_addD, hx_addD]
      exact ⟨Nat.le_refl _, Nat.le_refl _, Nat.le_refl _⟩
    · rw [if_neg c2]
      by_cases c3 : hc tx st a = 115
      · rw [if_pos c3]
        by_cases c4 : hS h = 8
        · rw [if_pos c4]; exact ⟨Nat.le_refl _, Nat.le_refl _, Nat.le_refl _⟩
        · rw [if_neg c4]
          dsimp only
          rw [hR_addS, hT_addS, hS_addS]
          exact ⟨Nat.le_refl _, Nat.le_refl _, by omega⟩
      · rw [if_neg c3]
        by_cases c4 : hT h = 10
        · rw [if_pos c4]; exact ⟨Nat.le_refl _, Nat.le_refl _, Nat.le_refl _⟩
        · rw [if_neg c4]
          dsimp only
          rw [hR_addT, hT_addT, hS_addT]
          exact ⟨Nat.le_refl _, by omega, Nat.le_refl _⟩
theorem m_hl33 (hD : 6 ≤ D) : ∀ (f a n k : Nat) (h M : pM) (y7 y8 : pV), min L 76 < f + a → WF h → a ≤ min L 76 → hR h0 ≤ hR h → hT h0 ≤ hT h → hS h0 ≤ hS h → k ≤ a → gM gAll M → RSt tx L 76 M (.inr a) → LI h0 h k M → BF h0 M0 M → HO L D h0 M0 (phS tx (min L 76) f a h n) (xE D 184 33 [.inr 62, .inl (hR h : Int), .inl (hT h : Int), .inl (hS h : Int), .inl (k : Int), .inl (n : Int), .inl 1, y7, y8] [] M) := by
  intro f
  induction f with
  | zero => intro a n k h M y7 y8 hf; omega
  | succ f ih =>
    intro a n k h M y7 y8 hf W ha hr0 ht0 hs0 hk hM hs hl hb
    obtain ⟨M1, r1, t1, s1, k1, y7', y8', e, so, bo, go, lo⟩ := m_line hD W ha hr0 ht0 hs0 hk hM hs hl hb y7 y8 (n := n)
    rw [e]
    cases hq : (lnS tx (min L 76) h a).1 with
    | inl p =>
      rw [hq] at so
      have eP : phS tx (min L 76) (f + 1) a h n = (.inl p, (lnS tx (min L 76) h a).2, n + 1) := by
        show (match (lnS tx (min L 76) h a).1 with
          | .inl p => _
          | .inr b => _) = _
        rw [hq]
      rw [m_passesB (by omega) so, pbI_rI, m_m0B (by omega) so, eP]
      exact ⟨M1, rfl, bo, go⟩
    | inr b =>
      rw [hq] at so
      obtain ⟨x1, x2, x3, k', x4, x5, x6⟩ := lo b hq
      have W' := WF_ln W hq
      have mo := lnS_mono hq
      have hgt := lnS_gt W.2.1 hq
      have hb11 := so.2.2.2.2.2.2.2.2.2.2.1
      rw [m_passesG (by omega) so (by decide) (by decide), x1, x2, x3, x4]
      by_cases q : hc tx (min L 76) b = 59
      · have hlt : b < min L 76 := hc_lt (tx := tx) (st := min L 76) (by omega)
        have eP : phS tx (min L 76) (f + 1) a h n = phS tx (min L 76) f (b + 1) (lnS tx (min L 76) h a).2 (n + 1) := by
          show (match (lnS tx (min L 76) h a).1 with
            | .inl p => _
            | .inr b => _) = _
          rw [hq]
          exact if_pos q
        rw [if_pos q, pbI_rI, eP, show (n : Int) + 1 = ((n + 1 : Nat) : Int) by omega]
        have r1 := RSt_next so hlt
        exact ih (b + 1) (n + 1) k' (lnS tx (min L 76) h a).2 _ y7' y8' (by omega) W' (by omega) (by omega) (by omega) (by omega) (by omega) (gM_RSt go (AGr_at AGr_rfl) r1) r1 (LI_r x6 (AGr_at AGr_rfl)) (BF_r bo (AGr_at AGr_rfl))
      · have eP : phS tx (min L 76) (f + 1) a h n = (.inr b, (lnS tx (min L 76) h a).2, n + 1) := by
          show (match (lnS tx (min L 76) h a).1 with
            | .inl p => _
            | .inr b => _) = _
          rw [hq]
          exact if_neg q
        rw [if_neg q, pbI_rI, m_m0G (by omega) so, eP]
        unfold HO phE
        dsimp only
        by_cases q2 : L ≤ b
        · rw [if_pos q2, if_neg (by omega)]
          exact ⟨M1, k', y8', by rw [show (n : Int) + 1 = ((n + 1 : Nat) : Int) by omega], x6, bo, go, by omega, W', by omega, by omega, by omega⟩
        · obtain ⟨e2, r2⟩ := m_faultG (d := D) (by omega) so (p := b) (by omega)
          rw [if_neg q2, if_pos (by omega)]
          exact ⟨_, rfl, BF_r bo (AGr_bad AGr_rfl), gM_RSt go (AGr_bad AGr_rfl) r2⟩
theorem pset_same {M : pM} {o i : Nat} {v : Int} (h : M o i = v) : pset M o i v = M := by
  funext a b
  unfold pset
  split
  · rename_i z; rw [z.1, z.2, h]
  · rfl
theorem m_h204 {M : pM} (W : WF h0) (h62 : ∀ p, p < 36 → M 62 p = h0 2 p) {k : Nat} (hk : hR h0 ≤ k) (hk6 : k < 6) (x1 x2 x3 x4 x5 x6 : Int) : ∀ (m o : Nat), o + m = 6 → xE D 184 204 [.inr 62, .inl x1, .inl x2, .inl x3, .inl x4, .inl x5, .inl x6, .inl (k : Int), .inl (o : Int)] [] M = xE D 184 199 [.inr 62, .inl x1, .inl x2, .inl x3, .inl x4, .inl x5, .inl x6, .inl ((k + 1 : Nat) : Int), .inl 6] [] M := by
  intro m
  induction m with
  | zero =>
    intro o ho
    rw [L_M_house_204, if_pos (by rw [le32_iff] <;> omega), show ((k : Int) + 1) = ((k + 1 : Nat) : Int) by omega, show (o : Int) = 6 by omega]
  | succ m ih =>
    intro o ho
    have z1 : M 62 (6 * k + o) = 0 := by rw [h62 _ (by omega)]; exact W.2.2.2.2.2.2.1 k o hk6 (by omega) (Or.inl hk)
    have z2 : M 62 (6 * o + k) = 0 := by rw [h62 _ (by omega)]; exact W.2.2.2.2.2.2.1 o k (by omega) hk6 (Or.inr (Or.inl hk))
    rw [L_M_house_204, if_neg (by rw [le32_iff] <;> omega), if_pos (by omega), if_pos (by omega), show (6 * (k : Int) + (o : Int)).toNat = 6 * k + o by omega, show (6 * (o : Int) + (k : Int)).toNat = 6 * o + k by omega, pset_same z1, pset_same z2, show ((o : Int) + 1) = ((o + 1 : Nat) : Int) by omega]
    exact ih (o + 1) (by omega)
theorem m_h199 {M : pM} (W : WF h0) (h62 : ∀ p, p < 36 → M 62 p = h0 2 p) {r : Nat} (hr6 : r ≤ 6) (x2 x3 x4 x5 x6 : Int) : ∀ m k (y8 : pV), k + m = r → hR h0 ≤ k → ∃ y8', xE D 184 199 [.inr 62, .inl (r : Int), .inl x2, .inl x3, .inl x4, .inl x5, .inl x6, .inl (k : Int), y8] [] M = xE D 184 231 [.inr 62, .inl (r : Int), .inl x2, .inl x3, .inl x4, .inl x5, .inl x6, .inl 0, y8'] [] M := by
  intro m
  induction m with
  | zero =>
    intro k y8 hk hk0
    rw [L_M_house_199, if_pos (by rw [le32_iff] <;> omega)]
    exact ⟨y8, rfl⟩
  | succ m ih =>
    intro k y8 hk hk0
    have e := m_h204 (D := D) W h62 hk0 (by omega) (r : Int) x2 x3 x4 x5 x6 6 0 (by omega)
    obtain ⟨y8', e2⟩ := ih (k + 1) (.inl 6) (by omega) (by omega)
    rw [L_M_house_199, if_neg (by rw [le32_iff] <;> omega)]
    exact ⟨y8', e.trans e2⟩
/-- what the end of house leaves -/
def HEnd (h0 h M M' : pM) : Prop := M' 60 0 = hR h ∧ M' 60 3 = hT h ∧ M' 60 8 = hS h ∧ M' 60 33 = 0 ∧ M' 60 52 = (if hR h0 < hR h ∨ hT h0 < hT h then M 60 52 + 1 else M 60 52) ∧ (∀ p, p < 36 → M' 62 p = h 2 p) ∧ ∀ o i, o ≠ 62 → ¬ (o = 60 ∧ (i = 0 ∨ i = 3 ∨ i = 8 ∨ i = 33 ∨ i = 52)) → M' o i = M o i
theorem m_h231 (hD : 1 ≤ D) {h M : pM} {k n : Nat} (x6 : Int) (hk : k ≤ 76) (hR6 : hR h ≤ 6) (hT10 : hT h ≤ 10) (hS8 : hS h ≤ 8) (hr0 : hR h0 ≤ hR h) (ht0 : hT h0 ≤ hT h) (k0 : M 60 0 = hR h0) (k3 : M 60 3 = hT h0) (hl : LI h0 h k M) (hM : gM gAll M) : ∀ m i (y8 : pV) (M1 : pM), i + m = k → gM gAll M1 → (∀ p, p < 36 → M1 62 p = dAp (M 70) (h0 2) i p) → (∀ o i, o ≠ 62 → M1 o i = M o i) → ∃ M', xE D 184 231 [.inr 62, .inl (hR h : Int), .inl (hT h : Int), .inl (hS h : Int), .inl (k : Int), .inl (n : Int), .inl x6, .inl (i : Int), y8] [] M1 = rI n M' ∧ gM gAll M' ∧ HEnd h0 h M M' := by
  have t0 := gm_i hM 60 3 (lo := 0) (hi := 10) (by decide +kernel) (by decide +kernel)
  intro m
  induction m with
  | zero =>
    intro i y8 M1 hi g1 h62 ho
    have e : i = k := by omega
    subst e
    have fin : ∀ M2, gM gAll M2 → M2 60 52 = (if hR h0 < hR h ∨ hT h0 < hT h then M 60 52 + 1 else M 60 52) → (∀ p, p < 36 → M2 62 p = h 2 p) → (∀ o i, o ≠ 62 → ¬ (o = 60 ∧ i = 52) → M2 o i = M o i) → gM gAll (pset (pset (pset (pset M2 60 0 (hR h : Int)) 60 3 (hT h : Int)) 60 8 (hS h : Int)) 60 33 0) ∧ HEnd h0 h M (pset (pset (pset (pset M2 60 0 (hR h : Int)) 60 3 (hT h : Int)) 60 8 (hS h : Int)) 60 33 0) := by
      intro M2 g2 c1 c2 c3
      refine ⟨gM_f (gM_f (gM_f (gM_f g2 (lo := 0) (hi := 6) (by decide +kernel) (by omega) (by omega)) (lo := 0) (hi := 10) (by decide +kernel) (by omega) (by omega)) (lo := 0) (hi := 8) (by decide +kernel) (by omega) (by omega)) (lo := 0) (hi := 20) (by decide +kernel) (by omega) (by omega), ?_, ?_, ?_, pset_eq, ?_, fun p hp => ?_, fun o i q1 q2 => ?_⟩
      · rw [pset_ne2 (by decide), pset_ne2 (by decide), pset_ne2 (by decide), pset_eq]
      · rw [pset_ne2 (by decide), pset_ne2 (by decide), pset_eq]
      · rw [pset_ne2 (by decide), pset_eq]
      · rw [pset_ne2 (by decide), pset_ne2 (by decide), pset_ne2 (by decide), pset_ne2 (by decide)]; exact c1
      · rw [pset_ne (by decide), pset_ne (by decide), pset_ne (by decide), pset_ne (by decide)]; exact c2 p hp
      · unfold pset
        rw [if_neg (fun z => q2 ⟨z.1, by omega⟩), if_neg (fun z => q2 ⟨z.1, by omega⟩), if_neg (fun z => q2 ⟨z.1, by omega⟩), if_neg (fun z => q2 ⟨z.1, by omega⟩)]
        exact c3 o i q1 (fun z => q2 ⟨z.1, by omega⟩)
    have c2 : ∀ p, p < 36 → M1 62 p = h 2 p := fun p hp => by rw [h62 p hp]; exact (hl.2.2.2.1 p hp).symm
    have g5 : ∀ v, gM gAll (pset M1 60 52 v) := fun v => gMs_set g1 (by rw [show gAll 60 52 = (1, 0, 0, 0, 0, 0) by decide +kernel]; exact Or.inr (Or.inl rfl))
    have c5 : ∀ o i, o ≠ 62 → ¬ (o = 60 ∧ i = 52) → pset M1 60 52 (M1 60 52 + 1) o i = M o i := fun o i q1 q2 => (if_neg q2).trans (ho o i q1)
    rw [L_M_house_231, if_pos (by rw [le32_iff] <;> omega), ho 60 0 (by decide), ho 60 3 (by decide), k0, k3]
    by_cases q1 : hR h0 < hR h
    · rw [if_pos (by rw [lt32_iff] <;> omega)]
      obtain ⟨a1, a2⟩ := fin (pset M1 60 52 (M1 60 52 + 1)) (g5 _) (by rw [pset_eq, if_pos (Or.inl q1), ho 60 52 (by decide)]) (fun p hp => by rw [pset_ne (by decide)]; exact c2 p hp) c5
      exact ⟨_, rfl, a1, a2⟩
    · rw [if_neg (by rw [lt32_iff] <;> omega)]
      by_cases q2 : hT h0 < hT h
      · rw [if_neg (by rw [le32_iff] <;> omega)]
        obtain ⟨a1, a2⟩ := fin (pset M1 60 52 (M1 60 52 + 1)) (g5 _) (by rw [pset_eq, if_pos (Or.inr q2), ho 60 52 (by decide)]) (fun p hp => by rw [pset_ne (by decide)]; exact c2 p hp) c5
        exact ⟨_, rfl, a1, a2⟩
      · rw [if_pos (by rw [le32_iff] <;> omega)]
        obtain ⟨a1, a2⟩ := fin M1 g1 (by rw [if_neg (fun z => z.elim q1 q2), ho 60 52 (by decide)]) c2 (fun o i z1 z2 => ho o i z1)
        exact ⟨_, rfl, a1, a2⟩
  | succ m ih =>
    intro i y8 M1 hi g1 h62 ho
    obtain ⟨x, y, v1, v2, v3, v4, v5, v6⟩ := hl.2.2.2.2 i (by omega)
    obtain ⟨D', rfl, -⟩ := dsucc hD
    have i0 : (3 * (i : Int)).toNat = 3 * i := by omega
    have i1 : (3 * (i : Int) + 1).toNat = 3 * i + 1 := by omega
    have i2 : (3 * (i : Int) + 2).toNat = 3 * i + 2 := by omega
    rw [L_M_house_231, if_neg (by rw [le32_iff] <;> omega), if_pos (by omega), if_pos (by omega), if_pos (by omega), i0, i1, i2, ho 70 _ (by decide), ho 70 _ (by decide), ho 70 _ (by decide), v1, v2, T_M_put, if_pos (by omega), if_pos (by omega), pbN_rV, show (6 * (x : Int) + (y : Int)).toNat = 6 * x + y by omega, show (6 * (y : Int) + (x : Int)).toNat = 6 * y + x by omega, show ((i : Int) + 1) = ((i + 1 : Nat) : Int) by omega]
    refine ih (i + 1) y8 _ (by omega) (gM_r (gM_r g1 (lo := 0) (hi := 9) (by decide +kernel) (by decide +kernel) v5 v6) (lo := 0) (hi := 9) (by decide +kernel) (by decide +kernel) v5 v6) (fun p hp => ?_) (fun o j q => by rw [pset_ne q, pset_ne q]; exact ho o j q)
    show _ = (if _ ∨ _ then _ else dAp (M 70) (h0 2) i p)
    rw [v1, v2, Int.toNat_natCast, Int.toNat_natCast]
    by_cases q : p = 6 * y + x
    · rw [q, pset_eq, if_pos (Or.inl rfl)]
    · rw [pset_ne2 q]
      by_cases q2 : p = 6 * x + y
      · rw [q2, pset_eq, if_pos (Or.inr rfl)]
      · rw [pset_ne2 q2, if_neg (fun z => z.elim q q2)]; exact h62 p hp
/-- what house does: the answer, the house -/
noncomputable def hsA (tx : Nat → Int) (L : Nat) (h : pM) : Int := if L = 0 then 0 else match phE L (phS tx (min L 76) 78 0 h 0).1 with
  | .inl p => -1 - (p : Int)
  | .inr _ => ((phS tx (min L 76) 78 0 h 0).2.2 : Int)
noncomputable def hsH (tx : Nat → Int) (L : Nat) (h : pM) : pM := if L = 0 then h else match phE L (phS tx (min L 76) 78 0 h 0).1 with
  | .inl _ => h
  | .inr _ => (phS tx (min L 76) 78 0 h 0).2.1
/-- a new house comes -/
def hsN (tx : Nat → Int) (L : Nat) (h : pM) : Prop := L ≠ 0 ∧ ∃ b, phE L (phS tx (min L 76) 78 0 h 0).1 = .inr b
def wHouse : List (Nat × Nat) := [(60, 0), (60, 3), (60, 8), (60, 14), (60, 17), (60, 18), (60, 19), (60, 20), (60, 21), (60, 22), (60, 33), (60, 52), (61, 999), (62, 999), (63, 999), (64, 999), (65, 999), (66, 999), (67, 999), (70, 999)]
theorem m_house {d : Nat} (hd : 8 ≤ d) {M h : pM} (W : WF h) (X : MH M h) (hM : gM gAll M) (hL : M 60 14 = (L : Int)) (ht : ∀ i, i < 80 → M 68 i = tx i) : ∃ M', xF d 184 [.inr 62] M = rI (hsA tx L h) M' ∧ gM gAll M' ∧ Fr wHouse M M' ∧ WF (hsH tx L h) ∧ MH M' (hsH tx L h) ∧ M' 60 14 = 0 ∧ (hsN tx L h → M' 60 33 = 0) ∧ (¬ hsN tx L h → M' 60 33 = M 60 33) ∧ M' 60 52 = (if hR h < hR (hsH tx L h) ∨ hT h < hT (hsH tx L h) then M 60 52 + 1 else M 60 52) ∧ hR h ≤ hR (hsH tx L h) ∧ hT h ≤ hT (hsH tx L h) := by
  obtain ⟨D, rfl, hD⟩ := dsucc hd
  obtain ⟨D', rfl, -⟩ := dsucc (show 1 ≤ D by omega)
  obtain ⟨x1, x2, x3, x4, x5, x6, x7⟩ := X
  have b0 := gm_i hM 60 14 (lo := 0) (hi := 80) (by decide +kernel) (by decide +kernel)
  have htx : ∀ i, i < 80 → -128 ≤ tx i ∧ tx i ≤ 127 := fun i hi => by
    rw [← ht i hi]
    exact gm_r hM (o := 68) (lo := -128) (hi := 127) (by decide +kernel) (by decide +kernel) (show i < 80 from hi)
  rw [T_M_house, T_M_begin_68, pbN_rV]
  generalize hB : pset (pset (pset (pset (pset (pset (pset M 60 17 0) 60 18 70) 60 19 (pset M 60 17 0 60 14)) 60 20 76) 60 21 0) 60 22 (-1)) 60 14 0 = MB
  have hBo : ∀ o i, ¬ (o = 60 ∧ (i = 14 ∨ i = 17 ∨ i = 18 ∨ i = 19 ∨ i = 20 ∨ i = 21 ∨ i = 22)) → MB o i = M o i := fun o i q => by
    rw [← hB]
    unfold pset
    rw [if_neg (fun z => q ⟨z.1, by omega⟩), if_neg (fun z => q ⟨z.1, by omega⟩), if_neg (fun z => q ⟨z.1, by omega⟩), if_neg (fun z => q ⟨z.1, by omega⟩), if_neg (fun z => q ⟨z.1, by omega⟩), if_neg (fun z => q ⟨z.1, by omega⟩), if_neg (fun z => q ⟨z.1, by omega⟩)]
  have e14 : MB 60 14 = 0 := by rw [← hB, pset_eq]
  have e19 : MB 60 19 = (L : Int) := by
    rw [← hB, pset_ne2 (by decide), pset_ne2 (by decide), pset_ne2 (by decide), pset_ne2 (by decide), pset_eq, pset_ne2 (by decide)]; exact hL
  have gB : gM gAll MB := by
    rw [← hB]
    refine gM_f (gM_f (gM_f (gM_f (gM_f (gM_f (gM_thr hM) (lo := 0) (hi := 200) (by decide +kernel) (by omega) (by omega)) (lo := 0) (hi := 80) (by decide +kernel) ?_ ?_) (lo := 0) (hi := 80) (by decide +kernel) (by omega) (by omega)) (lo := 0) (hi := 80) (by decide +kernel) (by omega) (by omega)) (lo := -1) (hi := 80) (by decide +kernel) (by omega) (by omega)) (lo := 0) (hi := 80) (by decide +kernel) (by omega) (by omega)
    · rw [pset_ne2 (by decide)]; omega
    · rw [pset_ne2 (by decide)]; omega
  have fB : Fr wHouse M MB := fun o i q => hBo o i (fun z => by
    obtain ⟨rfl, z⟩ := z
    rcases z with rfl | rfl | rfl | rfl | rfl | rfl | rfl <;> exact absurd q (by decide))
  have XB : MH MB h := ⟨by rw [hBo 60 0 (by decide)]; exact x1, by rw [hBo 60 3 (by decide)]; exact x2, by rw [hBo 60 8 (by decide)]; exact x3, fun r hr => by rw [hBo 61 r (by omega)]; exact x4 r hr, fun p hp => by rw [hBo 62 p (by omega)]; exact x5 p hp, fun t ht2 => by rw [hBo 63 t (by omega), hBo 64 t (by omega), hBo 65 t (by omega), hBo 66 t (by omega)]; exact x6 t ht2, fun s hs => by rw [hBo 67 s (by omega)]; exact x7 s hs⟩
  by_cases q0 : L = 0
  · have eA : hsA tx L h = 0 := if_pos q0
    have eH : hsH tx L h = h := if_pos q0
    rw [e19, if_neg (fun z => z (by rw [q0]; rfl)), eA, eH, if_neg (by omega)]
    exact ⟨MB, rfl, gB, fB, W, XB, e14, fun z => absurd q0 z.1, fun _ => hBo 60 33 (by decide), hBo 60 52 (by decide), Nat.le_refl _, Nat.le_refl _⟩
  · have sB : RSt tx L 76 MB (.inr 0) := by
      refine ⟨by rw [← hB, pset_ne2 (by decide), pset_ne2 (by decide), pset_ne2 (by decide), pset_ne2 (by decide), pset_ne2 (by decide), pset_eq], e19, by rw [← hB, pset_ne2 (by decide), pset_ne2 (by decide), pset_ne2 (by decide), pset_eq]; rfl, by omega, by omega, fun i hi => by rw [hBo 68 i (by omega)]; exact ht i hi, htx, ?_, ?_, ?_, by omega, ?_⟩
      · rw [← hB, pset_ne2 (by decide), pset_ne2 (by decide), pset_eq]; omega
      · rw [← hB, pset_ne2 (by decide), pset_ne2 (by decide), pset_eq]; omega
      · rw [← hB, pset_ne2 (by decide), pset_ne2 (by decide), pset_eq]; rfl
      · rw [← hB, pset_ne2 (by decide), pset_eq]
    obtain ⟨y1, y2, y3, y4, y5, y6, y7⟩ := XB
    have lo := m_hl33 (D := D' + 1) (h0 := h) (M0 := MB) (by omega) 78 0 0 0 h MB (.inr 0) (.inr 0) (by omega) W (by omega) (Nat.le_refl _) (Nat.le_refl _) (Nat.le_refl _) (Nat.le_refl _) gB sB ⟨y4, y6, y7, fun p _ => rfl, fun i hi => absurd hi (Nat.not_lt_zero i)⟩ (fun _ _ _ _ _ _ _ => rfl)
    rw [e19, if_pos (by rw [eq32_iff] <;> omega), y1, y2, y3]
    have bfr : ∀ M', BF h MB M' → Fr wHouse MB M' := fun M' b o i q => by
      refine b o i (fun z => ?_) (fun z => ?_) (fun z => ?_) (fun z => ?_) (fun z => ?_)
      · rw [z, wOK_r (by decide)] at q; cases q
      · obtain ⟨rfl, z⟩ := z
        rcases z with rfl | rfl <;> exact absurd q (by decide)
      · rw [z.1, wOK_r (by decide)] at q; cases q
      · obtain ⟨z1, z2, -⟩ := z
        rcases (show o = 63 ∨ o = 64 ∨ o = 65 ∨ o = 66 by omega) with rfl | rfl | rfl | rfl <;> (rw [wOK_r (by decide)] at q; cases q)
      · rw [z.1, wOK_r (by decide)] at q; cases q
    cases hq : phE L (phS tx (min L 76) 78 0 h 0).1 with
    | inl p =>
      have eA : hsA tx L h = -1 - (p : Int) := by unfold hsA; rw [if_neg q0, hq]
      have eH : hsH tx L h = h := by unfold hsH; rw [if_neg q0, hq]
      unfold HO at lo
      rw [hq] at lo
      obtain ⟨M', e, b, g⟩ := lo
      rw [eA, eH, if_neg (by omega)]
      refine ⟨M', e, g, Fr_tr fB (bfr M' b), W, ⟨?_, ?_, ?_, fun r hr => ?_, fun p hp => ?_, fun t ht2 => ?_, fun s hs => ?_⟩, ?_, (fun z => by obtain ⟨-, b, z⟩ := z; rw [hq] at z; cases z), fun _ => ?_, ?_, Nat.le_refl _, Nat.le_refl _⟩
      · rw [b 60 0 (by decide) (by decide) (by omega) (by omega) (by omega)]; exact y1
      · rw [b 60 3 (by decide) (by decide) (by omega) (by omega) (by omega)]; exact y2
      · rw [b 60 8 (by decide) (by decide) (by omega) (by omega) (by omega)]; exact y3
      · rw [b 61 r (by decide) (by omega) (by omega) (by omega) (by omega)]; exact y4 r hr
      · rw [b 62 p (by decide) (by omega) (by omega) (by omega) (by omega)]; exact y5 p hp
      · rw [b 63 t (by decide) (by omega) (by omega) (by omega) (by omega), b 64 t (by decide) (by omega) (by omega) (by omega) (by omega), b 65 t (by decide) (by omega) (by omega) (by omega) (by omega), b 66 t (by decide) (by omega) (by omega) (by omega) (by omega)]; exact y6 t ht2
      · rw [b 67 s (by decide) (by omega) (by omega) (by omega) (by omega)]; exact y7 s hs
      · rw [b 60 14 (by decide) (by decide) (by omega) (by omega) (by omega)]; exact e14
      · rw [b 60 33 (by decide) (by decide) (by omega) (by omega) (by omega)]; exact hBo 60 33 (by decide)
      · rw [b 60 52 (by decide) (by decide) (by omega) (by omega) (by omega)]; exact hBo 60 52 (by decide)
    | inr bb =>
      have eA : hsA tx L h = ((phS tx (min L 76) 78 0 h 0).2.2 : Int) := by unfold hsA; rw [if_neg q0, hq]
      have eH : hsH tx L h = (phS tx (min L 76) 78 0 h 0).2.1 := by unfold hsH; rw [if_neg q0, hq]
      unfold HO at lo
      rw [hq] at lo
      rw [eA, eH]
      generalize (phS tx (min L 76) 78 0 h 0).2.1 = h' at lo
      generalize (phS tx (min L 76) 78 0 h 0).2.2 = n' at lo
      obtain ⟨M1, k', y8', e, l, b, g, hk, W', m1, m2, m3⟩ := lo
      have z0 : M1 60 0 = hR h := by rw [b 60 0 (by decide) (by decide) (by omega) (by omega) (by omega)]; exact y1
      have z3 : M1 60 3 = hT h := by rw [b 60 3 (by decide) (by decide) (by omega) (by omega) (by omega)]; exact y2
      have z62 : ∀ p, p < 36 → M1 62 p = h 2 p := fun p hp => by rw [b 62 p (by decide) (by omega) (by omega) (by omega) (by omega)]; exact y5 p hp
      obtain ⟨y8'', e2⟩ := m_h199 (D := D' + 1) W z62 (r := hR h') W'.1 (hT h' : Int) (hS h' : Int) (k' : Int) (n' : Int) 0 (hR h' - hR h) (hR h) y8' (by omega) (Nat.le_refl _)
      obtain ⟨M', e3, g3, E⟩ := m_h231 (D := D' + 1) (h0 := h) (h := h') (M := M1) (k := k') (n := n') (by omega) 0 hk W'.1 W'.2.1 W'.2.2.1 m1 m2 z0 z3 l g k' 0 y8'' M1 (by omega) g (fun p hp => z62 p hp) (fun _ _ _ => rfl)
      obtain ⟨E1, E2, E3, E4, E5, E6, E7⟩ := E
      refine ⟨M', ?_, g3, Fr_tr (Fr_tr fB (bfr M1 b)) (fun o i q => E7 o i (fun z => ?_) (fun z => ?_)), W', ⟨E1, E2, E3, fun r hr => ?_, E6, fun t ht2 => ?_, fun s hs => ?_⟩, ?_, fun _ => E4, fun z => absurd ⟨q0, bb, hq⟩ z, ?_, m1, m2⟩
      · refine e.trans ?_
        rw [z0, e2]; exact e3
      · rw [z, wOK_r (by decide)] at q; cases q
      · obtain ⟨rfl, z⟩ := z
        rcases z with rfl | rfl | rfl | rfl | rfl <;> exact absurd q (by decide)
      · rw [E7 61 r (by decide) (by omega)]; exact l.1 r hr
      · rw [E7 63 t (by decide) (by omega), E7 64 t (by decide) (by omega), E7 65 t (by decide) (by omega), E7 66 t (by decide) (by omega)]; exact l.2.1 t ht2
      · rw [E7 67 s (by decide) (by omega)]; exact l.2.2.1 s hs
      · rw [E7 60 14 (by decide) (by decide), b 60 14 (by decide) (by decide) (by omega) (by omega) (by omega)]; exact e14
      · rw [E5, b 60 52 (by decide) (by decide) (by omega) (by omega) (by omega), hBo 60 52 (by decide)]
end RH2
