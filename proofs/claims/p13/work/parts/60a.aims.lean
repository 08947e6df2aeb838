/-! calls of the reference that are shown by hand: the list of arrangements for aims -/
def wAims : List (Nat × Nat) := [(60, 30), (60, 39), (60, 40), (60, 48), (60, 49), (72, 999), (73, 999), (74, 999), (78, 999), (79, 999), (83, 999), (84, 999)]
section AIMS
variable {D d S T R : Nat} {sv : Nat → Nat} {M : pM}
theorem gM_83 (hM : gM gAll M) {i : Nat} {v : Int} (h1 : 0 ≤ v) (h2 : v ≤ 5) : gM gAll (pset M 83 i v) := gM_r hM (lo := 0) (hi := 5) (by decide +kernel) (by decide +kernel) h1 h2
theorem m_fa7 (hD : 1 ≤ D) : ∀ m t (M : pM), t + m = T → T ≤ 10 → gM gAll M → M 60 3 = (T : Int) → ∃ M2, xE D 260 7 [.inr 62, .inl (t : Int), .inr 0] [] M = xE D 260 29 [.inr 62, .inl (T : Int), .inr 0] [] (pset (pset (pset M2 60 48 1) 60 49 (-1)) 60 40 (-1)) ∧ gM gAll M2 ∧ Fr [(83, 999)] M M2 := by
  intro m
  induction m with
  | zero =>
    intro t M ht hT hM h3
    rw [L_M_findAims_7, h3, if_pos (by rw [le32_iff] <;> omega), m_begin hD, pbN_rV, show t = T by omega]
    exact ⟨M, rfl, hM, Fr_rfl⟩
  | succ m ih =>
    intro t M ht hT hM h3
    have h6 := gm_r hM (o := 66) (lo := 0) (hi := 5) (by decide +kernel) (by decide +kernel) (k := t) (show t < 10 by omega)
    rw [L_M_findAims_7, h3, if_neg (by rw [le32_iff] <;> omega), if_pos (by omega), if_pos (by omega), Int.toNat_natCast, show ((t : Int) + 1) = ((t + 1 : Nat) : Int) by omega]
    obtain ⟨M2, e, g, f⟩ := ih (t + 1) (pset M 83 t (M 66 t)) (by omega) hT (gM_83 hM h6.1 h6.2) (by rw [pset_ne (by decide)]; exact h3)
    exact ⟨M2, e, g, Fr_tr (Fr_set Fr_rfl (wOK_r (by decide) _)) f⟩
theorem m_fa42 {n : Nat} (hn : n ≤ 300) : ∀ m t (x1 : Int) (M : pM), t + m = T → T ≤ 10 → gM gAll M → M 60 3 = (T : Int) → M 60 48 = (n : Int) → (∀ t, t < T → 0 ≤ M 78 t ∧ M 78 t ≤ 5) → ∃ (z v : Int) (M2 : pM), xE D 260 42 [.inr 62, .inl x1, .inl (t : Int)] [] M = xE D 260 29 [.inr 62, .inl z, .inl (T : Int)] [] (pset (pset M2 60 49 v) 60 48 ((n : Int) + 1)) ∧ gM gAll M2 ∧ Fr [(83, 999)] M M2 ∧ (v = M 60 49 ∨ v = (n : Int)) := by
  intro m
  induction m with
  | zero =>
    intro t x1 M ht hT hM h3 h48 h78
    rw [L_M_findAims_42, h3, if_pos (by rw [le32_iff] <;> omega), show t = T by omega]
    by_cases q : eq32 x1 0
    · rw [if_pos q, pset_ne2 (by decide), h48]
      exact ⟨x1, M 60 49, M, rfl, hM, Fr_rfl, Or.inl rfl⟩
    · rw [if_neg q, pset_ne2 (by decide), h48]
      exact ⟨x1, n, M, rfl, hM, Fr_rfl, Or.inr rfl⟩
  | succ m ih =>
    intro t x1 M ht hT hM h3 h48 h78
    have h6 := h78 t (by omega)
    have e1 : ((t : Int) + 1) = ((t + 1 : Nat) : Int) := by omega
    have e2 : ((10 * (n : Int) + (t : Int)).toNat) = 10 * n + t := by omega
    have go : ∀ z1 : Int, ∃ (z v : Int) (M2 : pM), xE D 260 42 [.inr 62, .inl z1, .inl ((t + 1 : Nat) : Int)] [] (pset M 83 (10 * n + t) (M 78 t)) = xE D 260 29 [.inr 62, .inl z, .inl (T : Int)] [] (pset (pset M2 60 49 v) 60 48 ((n : Int) + 1)) ∧ gM gAll M2 ∧ Fr [(83, 999)] M M2 ∧ (v = M 60 49 ∨ v = (n : Int)) := by
      intro z1
      obtain ⟨z, v, M2, e, g, f, hv⟩ := ih (t + 1) z1 (pset M 83 (10 * n + t) (M 78 t)) (by omega) hT (gM_83 hM h6.1 h6.2) (by rw [pset_ne (by decide)]; exact h3) (by rw [pset_ne (by decide)]; exact h48) (fun t ht => by rw [pset_ne (by decide)]; exact h78 t ht)
      rw [pset_ne (by decide)] at hv
      exact ⟨z, v, M2, e, g, Fr_tr (Fr_set Fr_rfl (wOK_r (by decide) _)) f, hv⟩
    rw [L_M_findAims_42, h3, if_neg (by rw [le32_iff] <;> omega), if_pos (by omega), h48, if_pos (by omega), Int.toNat_natCast, e2, e1]
    by_cases q : eq32 x1 0
    · rw [if_pos q]
      exact go 0
    · rw [if_neg q, if_pos (by omega), if_pos (by omega)]
      by_cases q2 : eq32 ((pset M 83 (10 * n + t) (M 78 t)) 78 t) ((pset M 83 (10 * n + t) (M 78 t)) 81 t)
      · rw [if_neg (fun z => z q2)]
        exact go 1
      · rw [if_pos q2]
        exact go 0
theorem m_fa100 (hD : 100 ≤ D) {n a : Nat} (hn : n ≤ 301) (ha : a < n) : ∀ m b (M : pM), b + m = n → gM gAll M → M 60 48 = (n : Int) → ∃ M2, xE D 260 100 [.inr 62, .inl (a : Int), .inl (b : Int)] [] M = xE D 260 94 [.inr 62, .inl ((a + 1 : Nat) : Int), .inl (n : Int)] [] M2 ∧ gM gAll M2 ∧ Fr [(74, 999), (84, 999)] M M2 := by
  intro m
  induction m with
  | zero =>
    intro b M hb hM h48
    rw [L_M_findAims_100, h48, if_pos (by rw [le32_iff] <;> omega), show ((a : Int) + 1) = ((a + 1 : Nat) : Int) by omega, show b = n by omega]
    exact ⟨M, rfl, hM, Fr_rfl⟩
  | succ m ih =>
    intro b M hb hM h48
    obtain ⟨z, M1, e1, g1, f1, hz⟩ := u_costR (d := D) (by omega) (a2 := 10 * (a : Int)) (a4 := 10 * (b : Int)) hM ⟨by omega, by omega⟩ ⟨by omega, by omega⟩
    rw [L_M_findAims_100, h48, if_neg (by rw [le32_iff] <;> omega), e1, pbI_rI, if_pos (by omega), show ((b : Int) + 1) = ((b + 1 : Nat) : Int) by omega]
    have f2 : Fr [(74, 999), (84, 999)] M (pset M1 84 ((301 * (a : Int) + (b : Int)).toNat) z) := Fr_set (Fr_mono f1 (by decide)) (wOK_r (by decide) _)
    obtain ⟨M2, e, g, f⟩ := ih (b + 1) (pset M1 84 ((301 * (a : Int) + (b : Int)).toNat) z) (by omega) (gM_r g1 (lo := 0) (hi := 100000000) (by decide +kernel) (by decide +kernel) (by omega) (by omega)) (by rw [f2 60 48 (by decide)]; exact h48)
    exact ⟨M2, e, g, Fr_tr f2 f⟩
theorem m_fa94 (hD : 100 ≤ D) {n : Nat} (hn : n ≤ 301) (hn1 : 1 ≤ n) : ∀ m a (y : pV) (M : pM), a + m = n → gM gAll M → M 60 48 = (n : Int) → ∃ M2, xE D 260 94 [.inr 62, .inl (a : Int), y] [] M = rI 1 M2 ∧ gM gAll M2 ∧ Fr [(74, 999), (84, 999)] M M2 := by
  intro m
  induction m with
  | zero =>
    intro a y M ha hM h48
    rw [L_M_findAims_94, h48, if_pos (by rw [le32_iff] <;> omega)]
    exact ⟨M, rfl, hM, Fr_rfl⟩
  | succ m ih =>
    intro a y M ha hM h48
    obtain ⟨M1, e1, g1, f1⟩ := m_fa100 hD (a := a) hn (by omega) (n - 1) 1 M (by omega) hM h48
    rw [L_M_findAims_94, h48, if_neg (by rw [le32_iff] <;> omega), show (.inl 1 : pV) = .inl ((1 : Nat) : Int) from rfl, e1]
    obtain ⟨M2, e, g, f⟩ := ih (a + 1) (.inl (n : Int)) M1 (by omega) g1 (by rw [f1 60 48 (by decide)]; exact h48)
    exact ⟨M2, e, g, Fr_tr f1 f⟩
/-- what is known of the list -/
def FAr (M : pM) : Prop := ∃ n : Nat, M 60 48 = (n : Int) ∧ 1 ≤ n ∧ n ≤ 301 ∧ (M 60 49 = -1 ∨ (1 ≤ M 60 49 ∧ M 60 49 < (n : Int)))
theorem m_fa29 (hD : 400 ≤ D) {C W : Nat} (hW : W ≤ 20000) : ∀ (m code n : Nat) (x1 : Int) (y2 : pV) (M : pM), W ≤ code + m → code ≤ 20000 → RWx M R T C → gM gAll M → M 60 39 = (W : Int) → M 60 40 = (code : Int) - 1 → M 60 48 = (n : Int) → 1 ≤ n → n ≤ 301 → (M 60 49 = -1 ∨ (1 ≤ M 60 49 ∧ M 60 49 < (n : Int))) → ∃ z M', xE D 260 29 [.inr 62, .inl x1, y2] [] M = rI z M' ∧ gM gAll M' ∧ Fr wAims M M' ∧ (z = 0 ∨ (z = 1 ∧ FAr M')) := by
  have fin : ∀ (n : Nat) (y2 : pV) (M0 M1 : pM), gM gAll M1 → Fr wAims M0 M1 → M1 60 48 = (n : Int) → 1 ≤ n → n ≤ 301 → (M1 60 49 = -1 ∨ (1 ≤ M1 60 49 ∧ M1 60 49 < (n : Int))) → ∃ z M', xE D 260 94 [.inr 62, .inl 0, y2] [] M1 = rI z M' ∧ gM gAll M' ∧ Fr wAims M0 M' ∧ (z = 0 ∨ (z = 1 ∧ FAr M')) := by
    intro n y2 M0 M1 g1 f1 h48 hn1 hn h49
    obtain ⟨M2, e, g, f⟩ := m_fa94 (D := D) (by omega) hn hn1 n 0 y2 M1 (by omega) g1 h48
    rw [show (.inl 0 : pV) = .inl ((0 : Nat) : Int) from rfl, e]
    exact ⟨1, M2, rfl, g, Fr_tr f1 (Fr_mono f (by decide)), Or.inr ⟨rfl, n, by rw [f 60 48 (by decide)]; exact h48, hn1, hn, by rw [f 60 49 (by decide)]; exact h49⟩⟩
  intro m
  induction m with
  | zero =>
    intro code n x1 y2 M hm hc h hM h39 h40 h48 hn1 hn h49
    obtain ⟨M1, g1, n1, r⟩ := m_nextRow (d := D) (by omega) (W := W) (by omega) (code := code) (by omega) h hM h39 h40
    rcases r with ⟨r1, -, -⟩ | ⟨-, c1, r2, r3, -⟩
    · rw [L_M_findAims_29, r1, pbI_rI, if_pos rfl]
      exact fin n y2 M M1 g1 (Fr_mono (Fr_RWn n1) (by decide)) (by rw [n1 60 48 (by decide) (by decide) (by decide)]; exact h48) hn1 hn (by rw [n1 60 49 (by decide) (by decide) (by decide)]; exact h49)
    · omega
  | succ m ih =>
    intro code n x1 y2 M hm hc h hM h39 h40 h48 hn1 hn h49
    obtain ⟨M1, g1, n1, r⟩ := m_nextRow (d := D) (by omega) (W := W) (by omega) (code := code) (by omega) h hM h39 h40
    have h1 := RWx_of n1 h
    have f1 : Fr wAims M M1 := Fr_mono (Fr_RWn n1) (by decide)
    have k48 : M1 60 48 = (n : Int) := by rw [n1 60 48 (by decide) (by decide) (by decide)]; exact h48
    have k49 : M1 60 49 = M 60 49 := n1 60 49 (by decide) (by decide) (by decide)
    rcases r with ⟨r1, -, -⟩ | ⟨r1, c1, r2, r3, -, -, r6, r7⟩
    · rw [L_M_findAims_29, r1, pbI_rI, if_pos rfl]
      exact fin n y2 M M1 g1 f1 k48 hn1 hn (by rw [k49]; exact h49)
    · rw [L_M_findAims_29, r1, pbI_rI, if_neg (by decide), k48]
      by_cases q : n ≤ 300
      · rw [if_pos (by rw [le32_iff] <;> omega)]
        obtain ⟨z, v, M2, e2, g2, f2, hv⟩ := m_fa42 (D := D) q T 0 1 M1 (by omega) h1.2.2.2.2.1 g1 h1.2.2.2.1 k48 (fun t ht => by
          rw [r7 t ht]
          have := dg_lt (C := C) (code := c1) h.2.1 (M 72 t).toNat
          have h6 := h.2.2.1
          show (0 : Int) ≤ (dg R C c1 _ : Nat) ∧ ((dg R C c1 _ : Nat) : Int) ≤ 5
          omega)
        rw [show (.inl 0 : pV) = .inl ((0 : Nat) : Int) from rfl, e2]
        have f3 : Fr wAims M1 (pset (pset M2 60 49 v) 60 48 ((n : Int) + 1)) := Fr_set (Fr_set (Fr_mono f2 (by decide)) (by decide)) (by decide)
        have f4 : Fr [(83, 999), (60, 49), (60, 48)] M1 (pset (pset M2 60 49 v) 60 48 ((n : Int) + 1)) := Fr_set (Fr_set (Fr_mono f2 (by decide)) (by decide)) (by decide)
        have hv2 : v = -1 ∨ (1 ≤ v ∧ v < ((n + 1 : Nat) : Int)) := by
          rcases hv with hv | hv
          · rw [hv, k49]
            rcases h49 with y | y
            · exact Or.inl y
            · exact Or.inr ⟨y.1, by omega⟩
          · rw [hv]; exact Or.inr ⟨by omega, by omega⟩
        have g3 : gM gAll (pset (pset M2 60 49 v) 60 48 ((n : Int) + 1)) := gM_f (gM_f g2 (lo := -1) (hi := 300) (by decide +kernel) (by omega) (by omega)) (lo := 0) (hi := 301) (by decide +kernel) (by omega) (by omega)
        obtain ⟨z', M', e, g, f, r⟩ := ih (c1 + 1) (n + 1) z (.inl (T : Int)) _ (by omega) (by omega) (RWx_Fr f4 (by decide) (by decide) (by decide) (by decide) (wOK_no (by decide)) h1) g3 (by rw [f4 60 39 (by decide), n1 60 39 (by decide) (by decide) (by decide)]; exact h39) (by rw [f4 60 40 (by decide), r6]; omega) (by rw [pset_eq]; omega) (by omega) (by omega) (by rw [pset_ne2 (by decide), pset_eq]; exact hv2)
        exact ⟨z', M', e, g, Fr_tr f1 (Fr_tr f3 f), r⟩
      · rw [if_neg (by rw [le32_iff] <;> omega)]
        exact ⟨0, M1, rfl, g1, f1, Or.inl rfl⟩
theorem m_findAims (hd : 401 ≤ d) (hM : gM gAll M) (h1 : 1 ≤ M 60 0) (h38 : M 60 38 = 0) : ∃ z M', xF d 260 [.inr 62] M = rI z M' ∧ gM gAll M' ∧ Fr wAims M M' ∧ (z = 0 ∨ (z = 1 ∧ FAr M')) := by
  obtain ⟨D, rfl, hD⟩ := dsucc hd
  have hbd := gm_i hM 60 0 (lo := 0) (hi := 6) (by decide +kernel) (by decide +kernel)
  obtain ⟨R, hR⟩ := natI hbd.1
  have hx := fcx_of hM
  generalize hS : (M 60 8).toNat = S at hx
  generalize hT : (M 60 3).toNat = T at hx
  generalize hv : (fun k => (M 67 k).toNat) = sv at hx
  obtain ⟨M1, e1, r1⟩ := m_tooMuch (d := D) (by omega) hM hx hR (by omega)
  have f1 : Fr wAims M M1 := Fr_mono r1.2.1 (by decide)
  rw [T_M_findAims, e1, pbI_rI]
  by_cases q : wyW R (fcA sv 0 0 S T).1 ≤ 20000
  · rw [if_pos q, if_pos rfl]
    have h2 := RWx_tm hx hR (by omega) (by omega) h38 r1
    obtain ⟨M2, e2, g2, f2⟩ := m_fa7 (D := D) (by omega) T 0 M1 (by omega) hx.2.2.2.1 r1.1 h2.2.2.2.1
    rw [show (.inl 0 : pV) = .inl ((0 : Nat) : Int) from rfl, e2]
    have f4 : Fr [(83, 999), (60, 48), (60, 49), (60, 40)] M1 (pset (pset (pset M2 60 48 1) 60 49 (-1)) 60 40 (-1)) := Fr_set (Fr_set (Fr_set (Fr_mono f2 (by decide)) (by decide)) (by decide)) (by decide)
    have g3 : gM gAll (pset (pset (pset M2 60 48 1) 60 49 (-1)) 60 40 (-1)) := gM_f (gM_f (gM_f g2 (lo := 0) (hi := 301) (by decide +kernel) (by omega) (by omega)) (lo := -1) (hi := 300) (by decide +kernel) (by omega) (by omega)) (lo := -1) (hi := 1000000) (by decide +kernel) (by omega) (by omega)
    obtain ⟨z, M', e, g, f, r⟩ := m_fa29 (D := D) (by omega) q 20000 0 1 (T : Int) (.inr 0) _ (by omega) (by omega) (RWx_Fr f4 (by decide) (by decide) (by decide) (by decide) (wOK_no (by decide)) h2) g3 (by rw [f4 60 39 (by decide)]; exact r1.2.2.1) (by rw [pset_eq]; omega) (by rw [pset_ne2 (by decide), pset_ne2 (by decide), pset_eq]; first | done | rfl) (by omega) (by omega) (Or.inl (by rw [pset_ne2 (by decide), pset_eq]))
    exact ⟨z, M', e, g, Fr_tr f1 (Fr_tr (Fr_mono f4 (by decide)) f), r⟩
  · rw [if_neg q, if_neg (by decide)]
    exact ⟨0, M1, rfl, r1.1, f1, Or.inl rfl⟩
end AIMS
