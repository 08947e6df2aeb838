/-! the reference reads a house -/
/-- the reference's house is h -/
def MH (M h : pM) : Prop := M 60 0 = hR h ∧ M 60 3 = hT h ∧ M 60 8 = hS h ∧ (∀ r, r < hR h → M 61 r = h 1 r) ∧ (∀ p, p < 36 → M 62 p = h 2 p) ∧ (∀ t, t < hT h → M 63 t = h 3 t ∧ M 64 t = h 4 t ∧ M 65 t = h 5 t ∧ M 66 t = h 6 t) ∧ (∀ s, s < hS h → M 67 s = me h s)
/-- doors told so far, one behind the other -/
def dAp (nd f : Nat → Int) : Nat → Nat → Int
  | 0 => f
  | i + 1 => fun p => if p = 6 * (nd (3 * i + 1)).toNat + (nd (3 * i)).toNat ∨ p = 6 * (nd (3 * i)).toNat + (nd (3 * i + 1)).toNat then nd (3 * i + 2) else dAp nd f i p
theorem dAp_cg {nd nd' f : Nat → Int} : ∀ k p, (∀ i, i < 3 * k → nd' i = nd i) → dAp nd' f k p = dAp nd f k p
  | 0, _, _ => rfl
  | k + 1, p, h => by
    show (if _ ∨ _ then nd' (3 * k + 2) else dAp nd' f k p) = (if _ ∨ _ then nd (3 * k + 2) else dAp nd f k p)
    rw [h (3 * k) (by omega), h (3 * k + 1) (by omega), h (3 * k + 2) (by omega), dAp_cg k p (fun i hi => h i (by omega))]
/-- the draft h, read from h0 on, with k doors told -/
def LI (h0 h : pM) (k : Nat) (M : pM) : Prop := (∀ r, r < hR h → M 61 r = h 1 r) ∧ (∀ t, t < hT h → M 63 t = h 3 t ∧ M 64 t = h 4 t ∧ M 65 t = h 5 t ∧ M 66 t = h 6 t) ∧ (∀ s, s < hS h → M 67 s = me h s) ∧ (∀ p, p < 36 → h 2 p = dAp (M 70) (h0 2) k p) ∧ ∀ i, i < k → ∃ x y : Nat, M 70 (3 * i) = (x : Int) ∧ M 70 (3 * i + 1) = (y : Int) ∧ x < 6 ∧ y < 6 ∧ 0 ≤ M 70 (3 * i + 2) ∧ M 70 (3 * i + 2) ≤ 9
/-- what reading may change -/
def BF (h0 M0 M : pM) : Prop := ∀ o i, o ≠ 70 → ¬ (o = 60 ∧ (i = 21 ∨ i = 22)) → ¬ (o = 61 ∧ hR h0 ≤ i) → ¬ (63 ≤ o ∧ o ≤ 66 ∧ hT h0 ≤ i) → ¬ (o = 67 ∧ hS h0 ≤ i) → M o i = M0 o i
theorem gM_70 {M : pM} (hM : gM gAll M) {i : Nat} {v : Int} (h0 : 0 ≤ v) (h1 : v ≤ 9) (h2 : i % 3 ≠ 2 → v ≤ 5) : gM gAll (pset M 70 i v) := by
  intro o k hk
  unfold pset
  split
  · rename_i q
    obtain ⟨rfl, rfl⟩ := q
    have hk2 : k < 100000 := Nat.lt_of_lt_of_le hk (pL_le _)
    have n1 : Nat.beq k 100000 = false := by
      cases q : Nat.beq k 100000
      · rfl
      · have := Nat.eq_of_beq_eq_true q; omega
    have n2 : Nat.beq k 100001 = false := by
      cases q : Nat.beq k 100001
      · rfl
      · have := Nat.eq_of_beq_eq_true q; omega
    have e : gAll 70 k = ([(0, 0, 5, 0, 0, 0), (0, 0, 5, 0, 0, 0), (0, 0, 9, 0, 0, 0)] : List aV).getD (k % 3) eT := by
      have e0 : gTab.getD 70 [] = [(0, 0, 5, 0, 0, 0), (0, 0, 5, 0, 0, 0), (0, 0, 9, 0, 0, 0)] := by decide +kernel
      unfold gAll
      rw [show Nat.ble 100 (pK 70) = true by decide +kernel, n1, n2]
      show (gTab.getD 70 []).getD (k % (gTab.getD 70 []).length) eT = _
      rw [e0]; rfl
    rw [e]
    have h3 : k % 3 < 3 := Nat.mod_lt _ (by decide)
    rcases (show k % 3 = 0 ∨ k % 3 = 1 ∨ k % 3 = 2 by omega) with z | z | z
    · rw [z]; exact gR_i h0 (h2 (by omega))
    · rw [z]; exact gR_i h0 (h2 (by omega))
    · rw [z]; exact gR_i h0 h1
  · exact hM o k hk
section RH
variable {tx : Nat → Int} {L D : Nat} {h0 M0 : pM}
theorem BF_r {M M1 : pM} (b : BF h0 M0 M) (a : AGr M M1) : BF h0 M0 M1 := fun o i q1 q2 q3 q4 q5 => (a o i q2).trans (b o i q1 q2 q3 q4 q5)
theorem BF_t {M M1 : pM} {t : Nat} (b : BF h0 M0 M) (ht : hT h0 ≤ t) (a : AGt t M M1) : BF h0 M0 M1 := fun o i q1 q2 q3 q4 q5 => (a o i q2 (fun z => q4 ⟨z.1, z.2.1, by omega⟩)).trans (b o i q1 q2 q3 q4 q5)
theorem BF_s {M M1 : pM} {s : Nat} (b : BF h0 M0 M) (hs : hS h0 ≤ s) (a : AGs s M M1) : BF h0 M0 M1 := fun o i q1 q2 q3 q4 q5 => (a o i q2 (fun z => q5 ⟨z.1, by omega⟩)).trans (b o i q1 q2 q3 q4 q5)
theorem BF_61 {M : pM} {r : Nat} {v : Int} (b : BF h0 M0 M) (hr : hR h0 ≤ r) : BF h0 M0 (pset M 61 r v) := fun o i q1 q2 q3 q4 q5 => (if_neg (fun z => q3 ⟨z.1, by omega⟩)).trans (b o i q1 q2 q3 q4 q5)
theorem BF_70 {M : pM} {r : Nat} {v : Int} (b : BF h0 M0 M) : BF h0 M0 (pset M 70 r v) := fun o i q1 q2 q3 q4 q5 => (if_neg (fun z => q1 z.1)).trans (b o i q1 q2 q3 q4 q5)
theorem LI_r {h : pM} {k : Nat} {M M1 : pM} (l : LI h0 h k M) (a : AGr M M1) : LI h0 h k M1 := by
  obtain ⟨l1, l2, l3, l4, l5⟩ := l
  have e70 : M1 70 = M 70 := funext fun i => a 70 i (by omega)
  refine ⟨fun r hr => by rw [a 61 r (by omega)]; exact l1 r hr, fun t ht => by rw [a 63 t (by omega), a 64 t (by omega), a 65 t (by omega), a 66 t (by omega)]; exact l2 t ht, fun s hs => by rw [a 67 s (by omega)]; exact l3 s hs, fun p hp => by rw [e70]; exact l4 p hp, fun i hi => by rw [e70]; exact l5 i hi⟩
/-- the state behind a line, ahead of its ; -/
def LNo (tx : Nat → Int) (L : Nat) (h0 M0 h : pM) (a : Nat) (M1 : pM) (r1 t1 s1 k1 : Int) : Prop := RSt tx L 76 M1 (lnS tx (min L 76) h a).1 ∧ BF h0 M0 M1 ∧ gM gAll M1 ∧ ∀ b, (lnS tx (min L 76) h a).1 = .inr b → r1 = hR (lnS tx (min L 76) h a).2 ∧ t1 = hT (lnS tx (min L 76) h a).2 ∧ s1 = hS (lnS tx (min L 76) h a).2 ∧ ∃ k : Nat, k1 = (k : Int) ∧ k ≤ b ∧ LI h0 (lnS tx (min L 76) h a).2 k M1
theorem m_line (hD : 6 ≤ D) {h M : pM} {a k n : Nat} (W : WF h) (ha : a ≤ min L 76) (hr0 : hR h0 ≤ hR h) (ht0 : hT h0 ≤ hT h) (hs0 : hS h0 ≤ hS h) (hk : k ≤ a) (hM : gM gAll M) (hs : RSt tx L 76 M (.inr a)) (hl : LI h0 h k M) (hb : BF h0 M0 M) (y7 y8 : pV) : ∃ (M1 : pM) (r1 t1 s1 k1 : Int) (y7' y8' : pV), xE D 184 33 [.inr 62, .inl (hR h : Int), .inl (hT h : Int), .inl (hS h : Int), .inl (k : Int), .inl (n : Int), .inl 1, y7, y8] [] M = (pbI (xF D 181 [.inr 62, .inl 59] M1) fun v M2 => xE D 184 33 [.inr 62, .inl r1, .inl t1, .inl s1, .inl k1, .inl ((n : Int) + 1), .inl v, y7', y8'] [] M2) ∧ LNo tx L h0 M0 h a M1 r1 t1 s1 k1 := by
  have w1 := W.1
  have w2 := W.2.1
  have w3 := W.2.2.1
  have hr := hc_range hs a
  have hat := hs.2.2.2.2.2.2.2.2.2.1
  obtain ⟨l1, l2, l3, l4, l5⟩ := hl
  rw [L_M_house_33, if_neg (by decide), m_fineG (by omega) hs, pbI_rI, if_neg (by decide), m_here (by omega) hs, pbI_rI]
  by_cases c1 : hc tx (min L 76) a = 114
  · have hlt : a < min L 76 := hc_lt (tx := tx) (st := min L 76) (by omega)
    rw [if_neg (fun z => z (by rw [c1]))]
    by_cases c2 : hR h = 6
    · have eL : lnS tx (min L 76) h a = (.inl a, h) := by unfold lnS; rw [if_pos c1, if_pos c2]
      obtain ⟨e, r⟩ := m_faultG (d := D) (by omega) hs (p := a) (by omega)
      rw [if_neg (fun z => z (by rw [c2]; rfl)), hat, e, pbN_rV]
      refine ⟨_, _, _, _, _, _, _, rfl, ?_, BF_r hb (AGr_bad AGr_rfl), gM_RSt hM (AGr_bad AGr_rfl) r, fun b hb2 => ?_⟩
      · rw [eL]; exact r
      · rw [eL] at hb2; cases hb2
    · have eL : lnS tx (min L 76) h a = (sgI tx (min L 76) (.inr (a + 1)), addR h (sgIv tx (min L 76) (.inr (a + 1)))) := by unfold lnS; rw [if_pos c1, if_neg c2]
      have r1 := RSt_next hs hlt
      obtain ⟨M1, v1, e1, k1, k2, s1, a1⟩ := m_num2 (d := D) (by omega) r1
      have A1 : AGr M M1 := AGr_tr (AGr_at AGr_rfl) a1
      have g1 := gM_RSt hM A1 s1
      rw [if_pos (by rw [eq32_iff] <;> omega), hat, e1, pbI_rI, if_pos (by omega), Int.toNat_natCast]
      have hG : AGr M M1 := A1
      refine ⟨_, _, _, _, _, _, _, rfl, ?_, BF_61 (BF_r hb A1) hr0, gM_r1 g1 (by decide +kernel) (by decide +kernel), fun b hb2 => ?_⟩
      · rw [eL]; exact RSt_ne s1 (by decide) (by decide)
      · rw [eL] at hb2 ⊢
        dsimp only at hb2 ⊢
        have hv := k2 b hb2
        obtain ⟨a2, x1, x2, -⟩ := sgI_inr hb2
        cases x1
        refine ⟨by rw [hR_addR]; omega, by rw [hT_addR], by rw [hS_addR], k, rfl, by omega, fun r hr1 => ?_, fun t ht => ?_, fun s hs1 => ?_, fun p hp => ?_, fun i hi => ?_⟩
        · rw [hR_addR] at hr1
          unfold addR
          rw [pset_ne (show (1 : Nat) ≠ 0 by decide)]
          by_cases q : r = hR h
          · rw [q, pset_eq, pset_eq]; exact hv
          · rw [pset_ne2 q, pset_ne2 q, A1 61 r (by omega)]; exact l1 r (by omega)
        · rw [hT_addR] at ht
          unfold addR
          simp only [pset_ne (show (3 : Nat) ≠ 0 by decide), pset_ne (show (3 : Nat) ≠ 1 by decide), pset_ne (show (4 : Nat) ≠ 0 by decide), pset_ne (show (4 : Nat) ≠ 1 by decide), pset_ne (show (5 : Nat) ≠ 0 by decide), pset_ne (show (5 : Nat) ≠ 1 by decide), pset_ne (show (6 : Nat) ≠ 0 by decide), pset_ne (show (6 : Nat) ≠ 1 by decide), pset_ne (show (63 : Nat) ≠ 61 by decide), pset_ne (show (64 : Nat) ≠ 61 by decide), pset_ne (show (65 : Nat) ≠ 61 by decide), pset_ne (show (66 : Nat) ≠ 61 by decide)]
          rw [A1 63 t (by omega), A1 64 t (by omega), A1 65 t (by omega), A1 66 t (by omega)]
          exact l2 t ht
        · rw [hS_addR] at hs1
          have e : me (addR h (sgIv tx (min L 76) (.inr (a + 1)))) s = me h s := by
            unfold me addR
            rw [pset_ne (by decide), pset_ne (by decide)]
          rw [e, pset_ne (by decide), A1 67 s (by omega)]; exact l3 s hs1
        · have e70 : pset M1 61 (hR h) v1 70 = M 70 := funext fun i => by rw [pset_ne (by decide), A1 70 i (by omega)]
          rw [e70]
          unfold addR
          rw [pset_ne (by decide), pset_ne (by decide)]; exact l4 p hp
        · have e70 : pset M1 61 (hR h) v1 70 = M 70 := funext fun i => by rw [pset_ne (by decide), A1 70 i (by omega)]
          rw [e70]; exact l5 i hi
  · rw [if_pos (by rw [eq32_iff] <;> omega), m_here (by omega) hs, pbI_rI]
    by_cases c2 : hc tx (min L 76) a = 100
    · have hlt : a < min L 76 := hc_lt (tx := tx) (st := min L 76) (by omega)
      have eL : lnS tx (min L 76) h a = (sgD tx (min L 76) 1 9 (d3S tx (min L 76) (hR h) a), addD h (d1V tx (min L 76) (hR h) a).toNat (d2V tx (min L 76) (hR h) a).toNat (d3V tx (min L 76) (hR h) a)) := by unfold lnS; rw [if_neg c1, if_pos c2]
      have r1 := RSt_next hs hlt
      obtain ⟨M31, e31, s31, a31⟩ := m_num1 (d := D) (by omega) r1 (lo := 0) (hi := (hR h : Int) - 1) (by decide) (by decide) (by omega) (by omega)
      obtain ⟨M33, e33, s33, a33⟩ := m_need (d := D) (by omega) s31 (c := 45) (by decide) (by decide)
      obtain ⟨M34, e34, s34, a34⟩ := m_num1 (d := D) (by omega) s33 (lo := 0) (hi := (hR h : Int) - 1) (by decide) (by decide) (by omega) (by omega)
      have A34 : AGr M M34 := AGr_tr (AGr_tr (AGr_tr (AGr_at AGr_rfl) a31) a33) a34
      have g34 := gM_RSt hM A34 s34
      have v1 := sgV_range (tx := tx) (st := min L 76) (lo := 0) (hi := (hR h : Int) - 1) (by decide) (Or.inr (Or.inr trivial)) (.inr (a + 1))
      have v2 := sgV_range (tx := tx) (st := min L 76) (lo := 0) (hi := (hR h : Int) - 1) (by decide) (Or.inr (Or.inr trivial)) (sgN tx (min L 76) 45 (sgD tx (min L 76) 0 ((hR h : Int) - 1) (.inr (a + 1))))
      rw [if_neg (fun z => z (by rw [c2])), hat, e31, pbI_rI, e33, pbN_rV, e34, pbI_rI]
      -- behind the two rooms: from a memory M36 that is good or bad as sgE says
      have rest : ∀ M36, AGr M34 M36 → RSt tx L 76 M36 (sgE (d1V tx (min L 76) (hR h) a) (d2V tx (min L 76) (hR h) a) (sgD tx (min L 76) 0 ((hR h : Int) - 1) (d2S tx (min L 76) (hR h) a))) → ∃ (M1 : pM) (r1 t1 s1 k1 : Int) (y7' y8' : pV), (pbN (xF D 182 [.inr 62, .inl 61] M36) fun M43 => if 0 ≤ 3 * (k : Int) ∧ 3 * (k : Int) < 240 then (if 0 ≤ (3 * (k : Int)) + 1 ∧ (3 * (k : Int)) + 1 < 240 then (pbI (xF D 183 [.inr 62, .inl 1, .inl 1, .inl 9] (pset (pset M43 70 ((3 * (k : Int)).toNat) (sgV tx (min L 76) 0 ((hR h : Int) - 1) (.inr (a + 1)))) 70 (((3 * (k : Int)) + 1).toNat) (sgV tx (min L 76) 0 ((hR h : Int) - 1) (sgN tx (min L 76) 45 (sgD tx (min L 76) 0 ((hR h : Int) - 1) (.inr (a + 1))))))) fun v45 M44 => if 0 ≤ (3 * (k : Int)) + 2 ∧ (3 * (k : Int)) + 2 < 240 then (pbI (xF D 181 [.inr 62, .inl 59] (pset M44 70 (((3 * (k : Int)) + 2).toNat) v45)) fun v47 M46 => xE D 184 33 [.inr 62, .inl (hR h : Int), .inl (hT h : Int), .inl (hS h : Int), .inl ((k : Int) + 1), .inl ((n : Int) + 1), .inl v47, .inl (sgV tx (min L 76) 0 ((hR h : Int) - 1) (.inr (a + 1))), .inl (sgV tx (min L 76) 0 ((hR h : Int) - 1) (sgN tx (min L 76) 45 (sgD tx (min L 76) 0 ((hR h : Int) - 1) (.inr (a + 1)))))] [] M46) else none) else none) else none) = (pbI (xF D 181 [.inr 62, .inl 59] M1) fun v M2 => xE D 184 33 [.inr 62, .inl r1, .inl t1, .inl s1, .inl k1, .inl ((n : Int) + 1), .inl v, y7', y8'] [] M2) ∧ LNo tx L h0 M0 h a M1 r1 t1 s1 k1 := by
        intro M36 a36 s36
        obtain ⟨M43, e43, s43, a43⟩ := m_need (d := D) (by omega) s36 (c := 61) (by decide) (by decide)
        have A43 : AGr M M43 := AGr_tr (AGr_tr A34 a36) a43
        have g43 := gM_RSt hM A43 s43
        have i0 : (3 * (k : Int)).toNat = 3 * k := by omega
        have i1 : (3 * (k : Int) + 1).toNat = 3 * k + 1 := by omega
        have i2 : (3 * (k : Int) + 2).toNat = 3 * k + 2 := by omega
        rw [e43, pbN_rV, if_pos (by omega), if_pos (by omega), i0, i1]
        have sX := RSt_ne (RSt_ne s43 (o := 70) (i := 3 * k) (v := sgV tx (min L 76) 0 ((hR h : Int) - 1) (.inr (a + 1))) (by decide) (by decide)) (o := 70) (i := 3 * k + 1) (v := sgV tx (min L 76) 0 ((hR h : Int) - 1) (sgN tx (min L 76) 45 (sgD tx (min L 76) 0 ((hR h : Int) - 1) (.inr (a + 1))))) (by decide) (by decide)
        have gX : gM gAll (pset (pset M43 70 (3 * k) (sgV tx (min L 76) 0 ((hR h : Int) - 1) (.inr (a + 1)))) 70 (3 * k + 1) (sgV tx (min L 76) 0 ((hR h : Int) - 1) (sgN tx (min L 76) 45 (sgD tx (min L 76) 0 ((hR h : Int) - 1) (.inr (a + 1)))))) := gM_70 (gM_70 g43 v1.1 (by omega) (fun _ => by omega)) v2.1 (by omega) (fun _ => by omega)
        obtain ⟨M44, e44, s44, a44⟩ := m_num1 (d := D) (by omega) sX (lo := 1) (hi := 9) (by decide) (by decide) (by decide) (by decide)
        have g44 := gM_RSt gX a44 s44
        have v3 := sgV_range (tx := tx) (st := min L 76) (lo := 1) (hi := 9) (by decide) (Or.inr (Or.inr trivial)) (d3S tx (min L 76) (hR h) a)
        rw [e44, pbI_rI, if_pos (by omega), i2]
        refine ⟨_, _, _, _, _, _, _, rfl, ?_, BF_70 (BF_r (BF_70 (BF_70 (BF_r hb A43))) a44), gM_70 g44 v3.1 (by show d3V tx (min L 76) (hR h) a ≤ 9; unfold d3V; omega) (fun z => absurd (by omega) z), fun b hb2 => ?_⟩
        · rw [eL]; exact RSt_ne s44 (by decide) (by decide)
        · rw [eL] at hb2 ⊢
          dsimp only at hb2 ⊢
          obtain ⟨b1, x1, x2, y3a, y3b, -⟩ := sgD_inr hb2
          obtain ⟨b2, x3, x4, -⟩ := sgN_inr x1
          obtain ⟨x5, hne⟩ := sgE_inr x3
          obtain ⟨b4, x6, x7, y2a, y2b, -⟩ := sgD_inr x5
          obtain ⟨b5, x8, x9, -⟩ := sgN_inr x6
          obtain ⟨b6, x10, x11, y1a, y1b, -⟩ := sgD_inr x8
          cases x10
          have eR : hR (addD h (d1V tx (min L 76) (hR h) a).toNat (d2V tx (min L 76) (hR h) a).toNat (d3V tx (min L 76) (hR h) a)) = hR h := by unfold hR; rw [hx_addD]
          have eT : hT (addD h (d1V tx (min L 76) (hR h) a).toNat (d2V tx (min L 76) (hR h) a).toNat (d3V tx (min L 76) (hR h) a)) = hT h := by unfold hT; rw [hx_addD]
          have eS : hS (addD h (d1V tx (min L 76) (hR h) a).toNat (d2V tx (min L 76) (hR h) a).toNat (d3V tx (min L 76) (hR h) a)) = hS h := by unfold hS; rw [hx_addD]
          have eo : ∀ o i, o ≠ 2 → addD h (d1V tx (min L 76) (hR h) a).toNat (d2V tx (min L 76) (hR h) a).toNat (d3V tx (min L 76) (hR h) a) o i = h o i := fun o i ho => by
            unfold addD
            rw [pset_ne ho, pset_ne ho]
          have kx : 0 ≤ d1V tx (min L 76) (hR h) a ∧ d1V tx (min L 76) (hR h) a ≤ 5 := by unfold d1V; omega
          have ky : 0 ≤ d2V tx (min L 76) (hR h) a ∧ d2V tx (min L 76) (hR h) a ≤ 5 := by unfold d2V d2S; omega
          have kw : 0 ≤ d3V tx (min L 76) (hR h) a ∧ d3V tx (min L 76) (hR h) a ≤ 9 := by unfold d3V; omega
          -- the places of the doors
          have u0 : (pset M44 70 (3 * k + 2) (sgV tx (min L 76) 1 9 (sgN tx (min L 76) 61 (sgE (d1V tx (min L 76) (hR h) a) (d2V tx (min L 76) (hR h) a) (sgD tx (min L 76) 0 ((hR h : Int) - 1) (d2S tx (min L 76) (hR h) a)))))) 70 (3 * k) = d1V tx (min L 76) (hR h) a := by
            rw [pset_ne2 (by omega), a44 70 _ (by omega), pset_ne2 (by omega), pset_eq]; rfl
          have u1 : (pset M44 70 (3 * k + 2) (sgV tx (min L 76) 1 9 (sgN tx (min L 76) 61 (sgE (d1V tx (min L 76) (hR h) a) (d2V tx (min L 76) (hR h) a) (sgD tx (min L 76) 0 ((hR h : Int) - 1) (d2S tx (min L 76) (hR h) a)))))) 70 (3 * k + 1) = d2V tx (min L 76) (hR h) a := by
            rw [pset_ne2 (by omega), a44 70 _ (by omega), pset_eq]; rfl
          have u2 : (pset M44 70 (3 * k + 2) (sgV tx (min L 76) 1 9 (sgN tx (min L 76) 61 (sgE (d1V tx (min L 76) (hR h) a) (d2V tx (min L 76) (hR h) a) (sgD tx (min L 76) 0 ((hR h : Int) - 1) (d2S tx (min L 76) (hR h) a)))))) 70 (3 * k + 2) = d3V tx (min L 76) (hR h) a := by
            rw [pset_eq]; rfl
          have u3 : ∀ i, i < 3 * k → (pset M44 70 (3 * k + 2) (sgV tx (min L 76) 1 9 (sgN tx (min L 76) 61 (sgE (d1V tx (min L 76) (hR h) a) (d2V tx (min L 76) (hR h) a) (sgD tx (min L 76) 0 ((hR h : Int) - 1) (d2S tx (min L 76) (hR h) a)))))) 70 i = M 70 i := fun i hi => by
            rw [pset_ne2 (by omega), a44 70 _ (by omega), pset_ne2 (by omega), pset_ne2 (by omega), A43 70 _ (by omega)]
          have uo : ∀ o i, 61 ≤ o → o ≤ 67 → (pset M44 70 (3 * k + 2) (sgV tx (min L 76) 1 9 (sgN tx (min L 76) 61 (sgE (d1V tx (min L 76) (hR h) a) (d2V tx (min L 76) (hR h) a) (sgD tx (min L 76) 0 ((hR h : Int) - 1) (d2S tx (min L 76) (hR h) a)))))) o i = M o i := fun o i q1 q2 => by
            rw [pset_ne (by omega), a44 o i (by omega), pset_ne (by omega), pset_ne (by omega), A43 o i (by omega)]
          generalize d3V tx (min L 76) (hR h) a = w at *
          generalize d1V tx (min L 76) (hR h) a = vx at *
          generalize d2V tx (min L 76) (hR h) a = vy at *
          refine ⟨by rw [eR], by rw [eT], by rw [eS], k + 1, by omega, by omega, fun r hr1 => ?_, fun t ht => ?_, fun s hs1 => ?_, fun p hp => ?_, fun i hi => ?_⟩
          · rw [eR] at hr1; rw [uo 61 r (by decide) (by decide), eo 1 r (by decide)]; exact l1 r hr1
          · rw [eT] at ht
            rw [uo 63 t (by decide) (by decide), uo 64 t (by decide) (by decide), uo 65 t (by decide) (by decide), uo 66 t (by decide) (by decide), eo 3 t (by decide), eo 4 t (by decide), eo 5 t (by decide), eo 6 t (by decide)]
            exact l2 t ht
          · rw [eS] at hs1
            have e : me (addD h vx.toNat vy.toNat w) s = me h s := by unfold me; rw [eo 7 s (by decide)]
            rw [e, uo 67 s (by decide) (by decide)]; exact l3 s hs1
          · show addD h vx.toNat vy.toNat w 2 p = (if p = 6 * _ + _ ∨ p = 6 * _ + _ then _ else dAp _ (h0 2) k p)
            rw [u0, u1, u2, dAp_cg k p u3, ← l4 p hp]
            unfold addD
            by_cases q : p = 6 * vy.toNat + vx.toNat
            · rw [q, pset_eq, if_pos (Or.inl rfl)]
            · rw [pset_ne2 q]
              by_cases q2 : p = 6 * vx.toNat + vy.toNat
              · rw [q2, pset_eq, if_pos (Or.inr rfl)]
              · rw [pset_ne2 q2, if_neg (fun z => z.elim q q2)]
          · rcases Nat.lt_or_ge i k with q | q
            · rw [u3 _ (by omega), u3 _ (by omega), u3 _ (by omega)]
              exact l5 i q
            · have : i = k := by omega
              subst this
              rw [u0, u1, u2]
              exact ⟨vx.toNat, vy.toNat, by omega, by omega, by omega, by omega, kw.1, kw.2⟩
      have sE := s34
      cases hq : sgD tx (min L 76) 0 ((hR h : Int) - 1) (d2S tx (min L 76) (hR h) a) with
      | inl p =>
        have sB : RSt tx L 76 M34 (.inl p) := by rw [← hq]; exact s34
        rw [m_fineB (by omega) sB, pbI_rI, if_pos rfl]
        refine rest M34 AGr_rfl ?_
        rw [hq]; exact sB
      | inr b =>
        have sG : RSt tx L 76 M34 (.inr b) := by rw [← hq]; exact s34
        rw [m_fineG (by omega) sG, pbI_rI, if_neg (by decide)]
        by_cases q : d1V tx (min L 76) (hR h) a = d2V tx (min L 76) (hR h) a
        · have hb11 := sG.2.2.2.2.2.2.2.2.2.2.1
          obtain ⟨b', x1, x2, -⟩ := sgD_inr hq
          obtain ⟨e, r⟩ := m_faultG (d := D) (by omega) sG (p := b - 1) (by omega)
          rw [if_neg (fun z => z (by show eq32 (d1V tx (min L 76) (hR h) a) (d2V tx (min L 76) (hR h) a); rw [q])), sG.2.2.2.2.2.2.2.2.2.1, show (b : Int) - 1 = ((b - 1 : Nat) : Int) by omega, e, pbN_rV]
          refine rest _ (AGr_bad AGr_rfl) ?_
          rw [hq]
          show RSt tx L 76 _ (if _ = _ then _ else _)
          rw [if_pos q]; exact r
        · rw [if_pos (by
            show ¬ eq32 (d1V tx (min L 76) (hR h) a) (d2V tx (min L 76) (hR h) a)
            have k1 : 0 ≤ d1V tx (min L 76) (hR h) a ∧ d1V tx (min L 76) (hR h) a ≤ 9 := by unfold d1V; omega
            have k2 : 0 ≤ d2V tx (min L 76) (hR h) a ∧ d2V tx (min L 76) (hR h) a ≤ 9 := by unfold d2V d2S; omega
            rw [eq32_iff (by omega) (by omega) (by omega) (by omega)]; exact q)]
          refine rest M34 AGr_rfl ?_
          rw [hq]
          show RSt tx L 76 _ (if _ = _ then _ else _)
          rw [if_neg q]; exact sG
    · rw [if_pos (by rw [eq32_iff] <;> omega), m_here (by omega) hs, pbI_rI]
      by_cases c3 : hc tx (min L 76) a = 115
      · have hlt : a < min L 76 := hc_lt (tx := tx) (st := min L 76) (by omega)
        rw [if_neg (fun z => z (by rw [c3]))]
        by_cases c4 : hS h = 8
        · have eL : lnS tx (min L 76) h a = (.inl a, h) := by unfold lnS; rw [if_neg c1, if_neg c2, if_pos c3, if_pos c4]
          obtain ⟨e, r⟩ := m_faultG (d := D) (by omega) hs (p := a) (by omega)
          rw [if_neg (fun z => z (by rw [c4]; rfl)), hat, e, pbN_rV]
          refine ⟨_, _, _, _, _, _, _, rfl, ?_, BF_r hb (AGr_bad AGr_rfl), gM_RSt hM (AGr_bad AGr_rfl) r, fun b hb2 => ?_⟩
          · rw [eL]; exact r
          · rw [eL] at hb2; cases hb2
        · have eL : lnS tx (min L 76) h a = ((sgL tx (min L 76) (hT h) 11 (a + 1) 0 (-1)).1, addS h (sgL tx (min L 76) (hT h) 11 (a + 1) 0 (-1)).2) := by unfold lnS; rw [if_neg c1, if_neg c2, if_pos c3, if_neg c4]
          obtain ⟨M1, e1, s1, a1, g1, b1, v1⟩ := m_readSet (d := D) (T := hT h) (sn := hS h) (by omega) (by omega) w2 hlt hM hs
          rw [if_pos (by rw [eq32_iff] <;> omega), e1, pbN_rV]
          refine ⟨_, _, _, _, _, _, _, rfl, ?_, BF_s hb hs0 a1, g1, fun b hb2 => ?_⟩
          · rw [eL]; exact s1
          · rw [eL] at hb2 ⊢
            dsimp only at hb2 ⊢
            have hv := v1 b hb2
            have kk := sgL_inr 11 (a + 1) 0 (-1) b w2 (Nat.two_pow_pos _) (Or.inr trivial) hb2
            generalize (sgL tx (min L 76) (hT h) 11 (a + 1) 0 (-1)).2 = bits at hv
            have eo : ∀ o i, o ≠ 0 → o ≠ 7 → addS h bits o i = h o i := fun o i h0 h7 => by
              unfold addS
              rw [pset_ne h0, pset_ne h7]
            have e70 : M1 70 = M 70 := funext fun i => a1 70 i (by omega) (by omega)
            refine ⟨by rw [hR_addS], by rw [hT_addS], by rw [hS_addS]; omega, k, rfl, by omega, fun r hr1 => ?_, fun t ht => ?_, fun s hs1 => ?_, fun p hp => ?_, fun i hi => ?_⟩
            · rw [hR_addS] at hr1; rw [eo 1 r (by decide) (by decide), a1 61 r (by omega) (by omega)]; exact l1 r hr1
            · rw [hT_addS] at ht
              rw [eo 3 t (by decide) (by decide), eo 4 t (by decide) (by decide), eo 5 t (by decide) (by decide), eo 6 t (by decide) (by decide), a1 63 t (by omega) (by omega), a1 64 t (by omega) (by omega), a1 65 t (by omega) (by omega), a1 66 t (by omega) (by omega)]
              exact l2 t ht
            · rw [hS_addS] at hs1
              unfold me addS
              rw [pset_ne (show (7 : Nat) ≠ 0 by decide)]
              by_cases q : s = hS h
              · rw [q, pset_eq, Int.toNat_natCast]; exact hv
              · rw [pset_ne2 q, a1 67 s (by omega) (by omega)]; exact l3 s (by omega)
            · rw [eo 2 p (by decide) (by decide), e70]; exact l4 p hp
            · rw [e70]; exact l5 i hi
      · rw [if_pos (by rw [eq32_iff] <;> omega)]
        by_cases c4 : hT h = 10
        · have eL : lnS tx (min L 76) h a = (.inl a, h) := by unfold lnS; rw [if_neg c1, if_neg c2, if_neg c3, if_pos c4]
          obtain ⟨e, r⟩ := m_faultG (d := D) (by omega) hs (p := a) (by omega)
          rw [if_neg (fun z => z (by rw [c4]; rfl)), hat, e, pbN_rV]
          refine ⟨_, _, _, _, _, _, _, rfl, ?_, BF_r hb (AGr_bad AGr_rfl), gM_RSt hM (AGr_bad AGr_rfl) r, fun b hb2 => ?_⟩
          · rw [eL]; exact r
          · rw [eL] at hb2; cases hb2
        · have eL : lnS tx (min L 76) h a = (sgT tx (min L 76) (hR h) (.inr a), addT h (sgIv tx (min L 76) (.inr a)) (tvW tx (min L 76) (.inr a)) (tvG tx (min L 76) (.inr a)) (tvR tx (min L 76) (hR h) (.inr a))) := by unfold lnS; rw [if_neg c1, if_neg c2, if_neg c3, if_neg c4]
          obtain ⟨M1, e1, s1, a1, g1, v1⟩ := m_readThing (d := D) (R := hR h) (t := hT h) (by omega) (by omega) w1 hM hs
          rw [if_pos (by rw [eq32_iff] <;> omega), e1, pbN_rV]
          refine ⟨_, _, _, _, _, _, _, rfl, ?_, BF_t hb ht0 a1, g1, fun b hb2 => ?_⟩
          · rw [eL]; exact s1
          · have hgt : a < b := lnS_gt (h := h) w2 hb2
            rw [eL] at hb2 ⊢
            dsimp only at hb2 ⊢
            have hv := v1 b hb2
            generalize tvR tx (min L 76) (hR h) (.inr a) = r at hv
            generalize tvG tx (min L 76) (.inr a) = g at hv
            generalize tvW tx (min L 76) (.inr a) = w at hv
            generalize sgIv tx (min L 76) (.inr a) = bu at hv
            have eo : ∀ o i, o ≠ 0 → (o < 3 ∨ 6 < o) → addT h bu w g r o i = h o i := fun o i h0 h7 => by
              unfold addT
              rw [pset_ne h0, pset_ne (by omega), pset_ne (by omega), pset_ne (by omega), pset_ne (by omega)]
            have e70 : M1 70 = M 70 := funext fun i => a1 70 i (by omega) (by omega)
            refine ⟨by rw [hR_addT], by rw [hT_addT]; omega, by rw [hS_addT], k, rfl, by omega, fun r hr1 => ?_, fun t ht => ?_, fun s hs1 => ?_, fun p hp => ?_, fun i hi => ?_⟩
            · rw [hR_addT] at hr1; rw [eo 1 r (by decide) (by decide), a1 61 r (by omega) (by omega)]; exact l1 r hr1
            · rw [hT_addT] at ht
              by_cases q : t = hT h
              · have v3 : addT h bu w g r 3 t = bu := by unfold addT; rw [q, pset_ne (by decide), pset_ne (by decide), pset_ne (by decide), pset_ne (by decide), pset_eq]
                have v4 : addT h bu w g r 4 t = w := by unfold addT; rw [q, pset_ne (by decide), pset_ne (by decide), pset_ne (by decide), pset_eq]
                have v5 : addT h bu w g r 5 t = g := by unfold addT; rw [q, pset_ne (by decide), pset_ne (by decide), pset_eq]
                have v6 : addT h bu w g r 6 t = r := by unfold addT; rw [q, pset_ne (by decide), pset_eq]
                rw [v3, v4, v5, v6, q]; exact hv
              · have v3 : addT h bu w g r 3 t = h 3 t := by unfold addT; rw [pset_ne (by decide), pset_ne (by decide), pset_ne (by decide), pset_ne (by decide), pset_ne2 q]
                have v4 : addT h bu w g r 4 t = h 4 t := by unfold addT; rw [pset_ne (by decide), pset_ne (by decide), pset_ne (by decide), pset_ne2 q, pset_ne (by decide)]
                have v5 : addT h bu w g r 5 t = h 5 t := by unfold addT; rw [pset_ne (by decide), pset_ne (by decide), pset_ne2 q, pset_ne (by decide), pset_ne (by decide)]
                have v6 : addT h bu w g r 6 t = h 6 t := by unfold addT; rw [pset_ne (by decide), pset_ne2 q, pset_ne (by decide), pset_ne (by decide), pset_ne (by decide)]
                rw [v3, v4, v5, v6, a1 63 t (by omega) (by omega), a1 64 t (by omega) (by omega), a1 65 t (by omega) (by omega), a1 66 t (by omega) (by omega)]
                exact l2 t (by omega)
            · rw [hS_addT] at hs1
              have e : me (addT h bu w g r) s = me h s := by unfold me; rw [eo 7 s (by decide) (by decide)]
              rw [e, a1 67 s (by omega) (by omega)]; exact l3 s hs1
            · rw [eo 2 p (by decide) (by decide), e70]; exact l4 p hp
            · rw [e70]; exact l5 i hi
end RH
