/-! calls of the reference that are shown by hand: may -/
def wMay : List (Nat × Nat) := [(60, 16), (60, 17), (60, 30), (60, 39), (60, 40), (69, 999), (72, 999), (73, 999), (78, 999), (79, 999)]
section MAY
variable {D d S T R : Nat} {sv : Nat → Nat} {M : pM}
theorem m_in {z lo hi : Int} (hd : 1 ≤ d) : xF d 169 [.inl z, .inl lo, .inl hi] M = rI (if lt32 z lo ∨ lt32 hi z then 0 else 1) M := by
  obtain ⟨D, rfl, -⟩ := dsucc hd
  rw [T_M_in]
  by_cases q : lt32 z lo
  · rw [if_pos q, if_pos (Or.inl q)]
  · rw [if_neg q]
    by_cases q2 : lt32 hi z
    · rw [if_pos q2, if_pos (Or.inr q2)]
    · rw [if_neg q2, if_neg (fun h => h.elim q q2)]
theorem m_begin (hd : 1 ≤ d) : xF d 229 [.inr 62] M = rV (pset M 60 40 (-1)) := by
  obtain ⟨D, rfl, -⟩ := dsucc hd
  rw [T_M_beginRows]
theorem m_my34 (hD : 100 ≤ D) {C W : Nat} (hW : W ≤ 20000) {l : Nat} (hl : l < 10) (x1 : Int) : ∀ m code (x3 x4 : Int) (M : pM), W ≤ code + m → code ≤ 20000 → RWx M R T C → gM gAll M → M 60 39 = (W : Int) → M 60 40 = (code : Int) - 1 → ∃ z M', xE D 242 34 [.inr 62, .inl x1, .inl (l : Int), .inl x3, .inl x4] [] M = rI z M' ∧ gM gAll M' ∧ Fr wMay M M' := by
  intro m
  induction m with
  | zero =>
    intro code x3 x4 M hm hc h hM h39 h40
    obtain ⟨M1, g1, n1, r⟩ := m_nextRow (d := D) (by omega) (W := W) (by omega) (code := code) (by omega) h hM h39 h40
    rcases r with ⟨r1, -, -⟩ | ⟨-, c1, r2, r3, -⟩
    · obtain ⟨M3, e3, g3, f3⟩ := m_tell1 hD g1 x4
      rw [L_M_may_34, r1, pbI_rI, if_pos rfl, e3, pbN_rV]
      exact ⟨_, M3, rfl, g3, Fr_tr (Fr_mono (Fr_RWn n1) (by decide)) (Fr_mono f3 (by decide))⟩
    · omega
  | succ m ih =>
    intro code x3 x4 M hm hc h hM h39 h40
    obtain ⟨M1, g1, n1, r⟩ := m_nextRow (d := D) (by omega) (W := W) (by omega) (code := code) (by omega) h hM h39 h40
    have f1 : Fr wMay M M1 := Fr_mono (Fr_RWn n1) (by decide)
    rcases r with ⟨r1, -, -⟩ | ⟨r1, c1, r2, r3, -, -, r6, r7⟩
    · obtain ⟨M3, e3, g3, f3⟩ := m_tell1 hD g1 x4
      rw [L_M_may_34, r1, pbI_rI, if_pos rfl, e3, pbN_rV]
      exact ⟨_, M3, rfl, g3, Fr_tr f1 (Fr_mono f3 (by decide))⟩
    · rw [L_M_may_34, r1, pbI_rI, if_neg (by decide), if_pos (by omega), if_pos (by omega), if_pos (by omega)]
      have h1 := RWx_of n1 h
      have k39 : M1 60 39 = (W : Int) := by rw [n1 60 39 (by decide) (by decide) (by decide)]; exact h39
      have go : ∀ (x3 x4 : Int), ∃ z M', xE D 242 34 [.inr 62, .inl x1, .inl (l : Int), .inl x3, .inl x4] [] M1 = rI z M' ∧ gM gAll M' ∧ Fr wMay M M' := by
        intro x3 x4
        obtain ⟨z, M', e, g, f⟩ := ih (c1 + 1) x3 x4 M1 (by omega) (by omega) h1 g1 k39 (by rw [r6]; omega)
        exact ⟨z, M', e, g, Fr_tr f1 f⟩
      by_cases q : eq32 (M1 78 (l : Int).toNat) (M1 66 (l : Int).toNat)
      · rw [if_neg (fun z => z q)]
        exact go _ _
      · rw [if_pos q]
        exact go _ _
theorem r_may {d : Nat} (hd : 401 ≤ d) {b : Int} (hb1 : -2147483648 ≤ b) (hb2 : b ≤ 2147483647) (hM : gM gAll M) (h1 : 1 ≤ M 60 0) (h38 : M 60 38 = 0) : okM d 242 [.inr 62, .inl b] wMay M := by
  obtain ⟨D, rfl, hD⟩ := dsucc hd
  have hbd := gm_i hM 60 0 (lo := 0) (hi := 6) (by decide +kernel) (by decide +kernel)
  obtain ⟨R, hR⟩ := natI hbd.1
  have gt := gM_thr hM
  have ft : Fr wMay M (pset M 60 17 0) := Fr_set Fr_rfl (by decide)
  have hx := fcx_of gt
  generalize hS : (pset M 60 17 0 60 8).toNat = S at hx
  generalize hT : (pset M 60 17 0 60 3).toNat = T at hx
  generalize hv : (fun k => (pset M 60 17 0 67 k).toNat) = sv at hx
  obtain ⟨M1, e1, g1, f1, k30, -, -⟩ := m_findClumps (ns := 0) (g := 0) (d := D) (by omega) gt hx (by decide) (by decide)
  have hc := fcA_le (sv := sv) (ns := 0) (g := 0) (S := S) T
  have hT10 := hx.2.2.2.1
  have F1 : Fr wMay M M1 := Fr_tr ft (Fr_mono f1 (by decide))
  unfold okM
  rw [T_M_may, show (.inl 0 : pV) = .inl ((0 : Nat) : Int) from rfl, e1, pbN_rV, k30, m_in (by omega), pbI_rI]
  by_cases q : lt32 b ((0 : Nat) : Int) ∨ lt32 (((fcA sv 0 0 S T).1 : Int) - 1) b
  · rw [if_pos q, if_neg (fun z => z rfl)]
    exact ⟨_, M1, rfl, g1, F1⟩
  · rw [if_neg q, if_pos (by decide)]
    have q1 : 0 ≤ b ∧ b < (fcA sv 0 0 S T).1 := by
      have n1 : ¬ lt32 b ((0 : Nat) : Int) := fun z => q (Or.inl z)
      have n2 : ¬ lt32 (((fcA sv 0 0 S T).1 : Int) - 1) b := fun z => q (Or.inr z)
      rw [lt32_iff (by omega) (by omega) (by omega) (by omega)] at n1 n2
      omega
    obtain ⟨n, rfl⟩ := natI q1.1
    have hx1 := FCx_Fr f1 (by decide) (by decide) FCw_67 hx
    have h0 : M1 60 0 = (R : Int) := by rw [f1 60 0 (by decide), pset_ne2 (by decide)]; exact hR
    obtain ⟨M4, e4, r4⟩ := m_tooMuch (d := D) (by omega) g1 hx1 h0 (by omega)
    have F4 : Fr wMay M M4 := Fr_tr F1 (Fr_mono r4.2.1 (by decide))
    rw [e4, pbI_rI]
    by_cases q2 : wyW R (fcA sv 0 0 S T).1 ≤ 20000
    · obtain ⟨a, j, m1, m2, m3, m4⟩ := fcM_pos (sv := sv) (ns := 0) (g := 0) (S := S) (f := M1 73) T n (by omega)
      have ha : a < 1024 := by
        rw [m4]
        exact fcX_lt hx.2.2.2.2.2 (show 2 ^ j < 2 ^ 10 from Nat.pow_lt_pow_right (by decide) (by omega))
      have ha0 : a ≠ 0 := fun z => by rw [z, Nat.zero_testBit] at m3; cases m3
      have hz := ntz_lt ha ha0
      obtain ⟨l, hl⟩ := natI hz.1
      rw [if_pos q2, if_pos rfl, if_pos (by omega), Int.toNat_natCast, r4.2.2.2.2.2 n, m1, j_ntz (by omega) ha, pbI_rI, hl, m_begin (by omega), pbN_rV]
      have h2 := RWx_tm hx1 h0 (by omega) (by omega) (by rw [f1 60 38 (by decide), pset_ne2 (by decide)]; exact h38) r4
      have n2 : RWn M4 (pset M4 60 40 (-1)) := fun o i a b c => by
        unfold pset
        rw [if_neg c]
      obtain ⟨z, M', e, g, f⟩ := m_my34 (D := D) (by omega) q2 (l := l) (by omega) (n : Int) 20000 0 ((0 : Nat) : Int) ((0 : Nat) : Int) (pset M4 60 40 (-1)) (by omega) (by omega) (RWx_of n2 h2) (gM_f r4.1 (lo := -1) (hi := 1000000) (by decide +kernel) (by omega) (by omega)) (by rw [pset_ne2 (by decide)]; exact r4.2.2.1) (by rw [pset_eq]; omega)
      exact ⟨z, M', e, g, Fr_tr F4 (Fr_tr (Fr_set Fr_rfl (by decide)) f)⟩
    · rw [if_neg q2, if_neg (by decide)]
      exact ⟨_, M4, rfl, r4.1, F4⟩
end MAY
