/-! the reference's lines: things and sets -/
noncomputable def sgT (tx : Nat → Int) (st R : Nat) (s : rgs) : rgs := sgD tx st 0 ((R : Int) - 1) (sgN tx st 64 (sgD tx st 1 9 (sgN tx st 44 (sgD tx st 1 9 (sgN tx st 44 (sgI tx st s))))))
noncomputable def tvW (tx : Nat → Int) (st : Nat) (s : rgs) : Int := sgV tx st 1 9 (sgN tx st 44 (sgI tx st s))
noncomputable def tvG (tx : Nat → Int) (st : Nat) (s : rgs) : Int := sgV tx st 1 9 (sgN tx st 44 (sgD tx st 1 9 (sgN tx st 44 (sgI tx st s))))
noncomputable def tvR (tx : Nat → Int) (st R : Nat) (s : rgs) : Int := sgV tx st 0 ((R : Int) - 1) (sgN tx st 64 (sgD tx st 1 9 (sgN tx st 44 (sgD tx st 1 9 (sgN tx st 44 (sgI tx st s))))))
theorem sgV_range {tx : Nat → Int} {st : Nat} {lo hi : Int} (h : 0 ≤ lo) (h2 : 0 ≤ hi ∨ lo ≤ hi ∨ True) (s : rgs) : 0 ≤ sgV tx st lo hi s ∧ sgV tx st lo hi s ≤ max hi 0 := by
  cases s with
  | inl p => exact ⟨Int.le_refl _, by show (0 : Int) ≤ max hi 0; omega⟩
  | inr a =>
    show 0 ≤ (if _ ∧ _ ∧ _ ∧ _ then hc tx st a - 48 else 0) ∧ (if _ ∧ _ ∧ _ ∧ _ then hc tx st a - 48 else 0) ≤ max hi 0
    split <;> omega
theorem sgN_inr {tx : Nat → Int} {st b : Nat} {c : Int} {s : rgs} (h : sgN tx st c s = .inr b) : ∃ a, s = .inr a ∧ b = a + 1 ∧ hc tx st a = c := by
  cases s with
  | inl p => cases h
  | inr a =>
    have h : (if hc tx st a = c then .inr (a + 1) else .inl a : rgs) = .inr b := h
    by_cases q : hc tx st a = c
    · rw [if_pos q] at h; cases h; exact ⟨a, rfl, rfl, q⟩
    · rw [if_neg q] at h; cases h
theorem sgD_inr {tx : Nat → Int} {st b : Nat} {lo hi : Int} {s : rgs} (h : sgD tx st lo hi s = .inr b) : ∃ a, s = .inr a ∧ b = a + 1 ∧ lo ≤ sgV tx st lo hi s ∧ sgV tx st lo hi s ≤ hi ∧ sgV tx st lo hi s = hc tx st a - 48 ∧ a < st := by
  cases s with
  | inl p => cases h
  | inr a =>
    by_cases q : 48 ≤ hc tx st a ∧ hc tx st a ≤ 57 ∧ lo ≤ hc tx st a - 48 ∧ hc tx st a - 48 ≤ hi
    · have h : (if _ ∧ _ ∧ _ ∧ _ then .inr (a + 1) else .inl a : rgs) = .inr b := h
      rw [if_pos q] at h
      cases h
      have e : sgV tx st lo hi (.inr a) = hc tx st a - 48 := if_pos q
      rw [e]
      exact ⟨a, rfl, rfl, q.2.2.1, q.2.2.2, rfl, hc_lt (tx := tx) (st := st) (by omega)⟩
    · have h : (if _ ∧ _ ∧ _ ∧ _ then .inr (a + 1) else .inl a : rgs) = .inr b := h
      rw [if_neg q] at h
      cases h
theorem sgI_inr {tx : Nat → Int} {st b : Nat} {s : rgs} (h : sgI tx st s = .inr b) : ∃ a, s = .inr a ∧ (b = a + 1 ∨ b = a + 2) ∧ 1 ≤ sgIv tx st s ∧ sgIv tx st s ≤ 99 := by
  cases s with
  | inl p => cases h
  | inr a =>
    simp only [sgI, sgIv] at h ⊢
    by_cases q : 48 ≤ hc tx st a ∧ hc tx st a ≤ 57
    · rw [if_pos q] at h ⊢
      by_cases q2 : 48 ≤ hc tx st (a + 1) ∧ hc tx st (a + 1) ≤ 57
      · rw [if_pos q2] at h ⊢
        by_cases z : 10 * (hc tx st a - 48) + (hc tx st (a + 1) - 48) = 0
        · rw [if_pos z] at h; cases h
        · rw [if_neg z] at h; cases h
          exact ⟨a, rfl, Or.inr rfl, by omega, by omega⟩
      · rw [if_neg q2] at h ⊢
        by_cases z : hc tx st a - 48 = 0
        · rw [if_pos z] at h; cases h
        · rw [if_neg z] at h; cases h
          exact ⟨a, rfl, Or.inl rfl, by omega, by omega⟩
    · rw [if_neg q] at h; cases h
/-- letters from a on: the sign that can't stand, or where they end; the set -/
noncomputable def sgL (tx : Nat → Int) (st T : Nat) : Nat → Nat → Nat → Int → rgs × Nat
  | 0, a, bits, _ => (.inl a, bits)
  | f + 1, a, bits, last => if 97 ≤ hc tx st a ∧ hc tx st a ≤ 106 then (if hc tx st a - 97 ≤ last ∨ (T : Int) ≤ hc tx st a - 97 then (.inl a, bits) else sgL tx st T f (a + 1) (bits ||| 2 ^ (hc tx st a - 97).toNat) (hc tx st a - 97)) else (if bits = 0 then .inl a else .inr a, bits)
section LN
variable {tx : Nat → Int} {L top d T R : Nat} {M : pM}
theorem RSt_ne {s : rgs} (h : RSt tx L top M s) {o i : Nat} {v : Int} (h1 : o ≠ 60) (h2 : o ≠ 68) : RSt tx L top (pset M o i v) s := by
  obtain ⟨a1, a2, a3, a4, a5, a6, a7, a8, a9, a10⟩ := h
  refine ⟨by rw [pset_ne h1.symm]; exact a1, by rw [pset_ne h1.symm]; exact a2, by rw [pset_ne h1.symm]; exact a3, a4, a5, fun i hi => by rw [pset_ne h2.symm]; exact a6 i hi, a7, by rw [pset_ne h1.symm]; exact a8, by rw [pset_ne h1.symm]; exact a9, ?_⟩
  cases s with
  | inl p => exact ⟨by rw [pset_ne h1.symm]; exact a10.1, a10.2⟩
  | inr a => exact ⟨by rw [pset_ne h1.symm]; exact a10.1, a10.2.1, by rw [pset_ne h1.symm]; exact a10.2.2⟩
theorem gM_RSt {M' : pM} {s : rgs} (hM : gM gAll M) (a : AGr M M') (h : RSt tx L top M' s) : gM gAll M' := by
  intro o k hk
  by_cases q : o = 60 ∧ (k = 21 ∨ k = 22)
  · obtain ⟨rfl, q⟩ := q
    rcases q with rfl | rfl
    · rw [show gAll 60 21 = (0, 0, 80, 0, 0, 0) by decide +kernel]
      exact gR_i h.2.2.2.2.2.2.2.1 h.2.2.2.2.2.2.2.2.1
    · rw [show gAll 60 22 = (0, -1, 80, 0, 0, 0) by decide +kernel]
      have := h.2.2.2.2.2.2.2.2.2
      cases s with
      | inl p => exact gR_i (by have := this.1; omega) (by have := this; omega)
      | inr a => exact gR_i (by have := this.2.2; omega) (by have := this.2.2; omega)
  · rw [a o k q]; exact hM o k hk
/-- all but where it stands and what is told of thing t is the same -/
def AGt (t : Nat) (M M' : pM) : Prop := ∀ o i, ¬ (o = 60 ∧ (i = 21 ∨ i = 22)) → ¬ (63 ≤ o ∧ o ≤ 66 ∧ i = t) → M' o i = M o i
theorem AGt_r {t : Nat} {M1 M2 : pM} (h : AGt t M M1) (a : AGr M1 M2) : AGt t M M2 := fun o i q1 q2 => (a o i q1).trans (h o i q1 q2)
theorem AGt_s {t o' : Nat} {M1 : pM} {v : Int} (h : AGt t M M1) (h1 : 63 ≤ o') (h2 : o' ≤ 66) : AGt t M (pset M1 o' t v) := fun o i q1 q2 => by
  unfold pset
  rw [if_neg (fun z => q2 ⟨by omega, by omega, z.2⟩)]
  exact h o i q1 q2
theorem m_readThing (hd : 4 ≤ d) {t : Nat} (ht : t < 10) (hR : R ≤ 6) {s : rgs} (hM : gM gAll M) (h : RSt tx L top M s) : ∃ M', xF d 186 [.inr 62, .inl (t : Int), .inl (R : Int)] M = rV M' ∧ RSt tx L top M' (sgT tx (min L top) R s) ∧ AGt t M M' ∧ gM gAll M' ∧ ∀ b, sgT tx (min L top) R s = .inr b → M' 63 t = sgIv tx (min L top) s ∧ M' 64 t = tvW tx (min L top) s ∧ M' 65 t = tvG tx (min L top) s ∧ M' 66 t = tvR tx (min L top) R s := by
  obtain ⟨D, rfl, hD⟩ := dsucc hd
  obtain ⟨M1, v1, e1, r1, k1, s1, a1⟩ := m_num2 (d := D) (by omega) h
  have g1 := gM_RSt hM a1 s1
  have s1' := RSt_ne s1 (o := 63) (i := t) (v := v1) (by decide) (by decide)
  have g1' : gM gAll (pset M1 63 t v1) := gM_r g1 (lo := 0) (hi := 99) (by decide +kernel) (by decide +kernel) r1.1 r1.2
  obtain ⟨M3, e3, s3, a3⟩ := m_need (d := D) (by omega) s1' (c := 44) (by decide) (by decide)
  have g3 := gM_RSt g1' a3 s3
  obtain ⟨M4, e4, s4, a4⟩ := m_num1 (d := D) (by omega) s3 (lo := 1) (hi := 9) (by decide) (by decide) (by decide) (by decide)
  have g4 := gM_RSt g3 a4 s4
  have v4 := sgV_range (tx := tx) (st := min L top) (lo := 1) (hi := 9) (by decide) (Or.inr (Or.inr trivial)) (sgN tx (min L top) 44 (sgI tx (min L top) s))
  have s4' := RSt_ne s4 (o := 64) (i := t) (v := sgV tx (min L top) 1 9 (sgN tx (min L top) 44 (sgI tx (min L top) s))) (by decide) (by decide)
  have g4' : gM gAll (pset M4 64 t (sgV tx (min L top) 1 9 (sgN tx (min L top) 44 (sgI tx (min L top) s)))) := gM_r g4 (lo := 0) (hi := 9) (by decide +kernel) (by decide +kernel) v4.1 (by omega)
  obtain ⟨M6, e6, s6, a6⟩ := m_need (d := D) (by omega) s4' (c := 44) (by decide) (by decide)
  have g6 := gM_RSt g4' a6 s6
  obtain ⟨M7, e7, s7, a7⟩ := m_num1 (d := D) (by omega) s6 (lo := 1) (hi := 9) (by decide) (by decide) (by decide) (by decide)
  have g7 := gM_RSt g6 a7 s7
  have v7 := sgV_range (tx := tx) (st := min L top) (lo := 1) (hi := 9) (by decide) (Or.inr (Or.inr trivial)) (sgN tx (min L top) 44 (sgD tx (min L top) 1 9 (sgN tx (min L top) 44 (sgI tx (min L top) s))))
  have s7' := RSt_ne s7 (o := 65) (i := t) (v := sgV tx (min L top) 1 9 (sgN tx (min L top) 44 (sgD tx (min L top) 1 9 (sgN tx (min L top) 44 (sgI tx (min L top) s))))) (by decide) (by decide)
  have g7' : gM gAll (pset M7 65 t (sgV tx (min L top) 1 9 (sgN tx (min L top) 44 (sgD tx (min L top) 1 9 (sgN tx (min L top) 44 (sgI tx (min L top) s)))))) := gM_r g7 (lo := 0) (hi := 9) (by decide +kernel) (by decide +kernel) v7.1 (by omega)
  obtain ⟨M9, e9, s9, a9⟩ := m_need (d := D) (by omega) s7' (c := 64) (by decide) (by decide)
  have g9 := gM_RSt g7' a9 s9
  obtain ⟨M10, e10, s10, a10⟩ := m_num1 (d := D) (by omega) s9 (lo := 0) (hi := (R : Int) - 1) (by decide) (by decide) (by omega) (by omega)
  have g10 := gM_RSt g9 a10 s10
  have v10 := sgV_range (tx := tx) (st := min L top) (lo := 0) (hi := (R : Int) - 1) (by decide) (Or.inr (Or.inr trivial)) (sgN tx (min L top) 64 (sgD tx (min L top) 1 9 (sgN tx (min L top) 44 (sgD tx (min L top) 1 9 (sgN tx (min L top) 44 (sgI tx (min L top) s))))))
  have ht2 : (0 : Int) ≤ (t : Int) ∧ (t : Int) < 10 := by omega
  rw [T_M_readThing, e1, pbI_rI, if_pos ht2, Int.toNat_natCast, e3, pbN_rV, e4, pbI_rI, if_pos ht2, e6, pbN_rV, e7, pbI_rI, if_pos ht2, e9, pbN_rV, e10, pbI_rI, if_pos ht2]
  refine ⟨_, rfl, RSt_ne s10 (by decide) (by decide), ?_, gM_r g10 (lo := 0) (hi := 5) (by decide +kernel) (by decide +kernel) v10.1 (by omega), fun b hb => ?_⟩
  · exact AGt_s (AGt_r (AGt_r (AGt_s (AGt_r (AGt_r (AGt_s (AGt_r (AGt_r (AGt_s (AGt_r (fun _ _ _ _ => rfl) a1) (by decide) (by decide)) a3) a4) (by decide) (by decide)) a6) a7) (by decide) (by decide)) a9) a10) (by decide) (by decide)
  · obtain ⟨b6, x6, -⟩ := sgD_inr (show sgD tx (min L top) 0 ((R : Int) - 1) _ = .inr b from hb)
    obtain ⟨b5, x5, -⟩ := sgN_inr x6
    obtain ⟨b4, x4, -⟩ := sgD_inr x5
    obtain ⟨b3, x3, -⟩ := sgN_inr x4
    obtain ⟨b2, x2, -⟩ := sgD_inr x3
    obtain ⟨b1, x1, -⟩ := sgN_inr x2
    refine ⟨?_, ?_, ?_, pset_eq⟩
    · rw [pset_ne (by decide), a10 63 t (by omega), a9 63 t (by omega), pset_ne (by decide), a7 63 t (by omega), a6 63 t (by omega), pset_ne (by decide), a4 63 t (by omega), a3 63 t (by omega), pset_eq]
      exact k1 b1 x1
    · rw [pset_ne (by decide), a10 64 t (by omega), a9 64 t (by omega), pset_ne (by decide), a7 64 t (by omega), a6 64 t (by omega), pset_eq]
      rfl
    · rw [pset_ne (by decide), a10 65 t (by omega), a9 65 t (by omega), pset_eq]
      rfl
/-- all but where it stands and set s is the same -/
def AGs (s : Nat) (M M' : pM) : Prop := ∀ o i, ¬ (o = 60 ∧ (i = 21 ∨ i = 22)) → ¬ (o = 67 ∧ i = s) → M' o i = M o i
theorem m_rs10 (hD : 3 ≤ d) {sn : Nat} (hsn : sn < 8) (hT : T ≤ 10) : ∀ (f a bits : Nat) (last : Int) (y5 : pV) (M : pM), 10 ≤ (f : Int) + last → -1 ≤ last → last ≤ 9 → bits < 1024 → gM gAll M → RSt tx L top M (.inr a) → ∃ M', xE d 187 10 [.inr 62, .inl (sn : Int), .inl (T : Int), .inl (bits : Int), .inl last, y5] [] M = rV M' ∧ RSt tx L top M' (sgL tx (min L top) T f a bits last).1 ∧ AGs sn M M' ∧ gM gAll M' ∧ (sgL tx (min L top) T f a bits last).2 < 1024 ∧ ∀ b, (sgL tx (min L top) T f a bits last).1 = .inr b → M' 67 sn = ((sgL tx (min L top) T f a bits last).2 : Int) := by
  have fin : ∀ (a bits : Nat) (M : pM), bits < 1024 → gM gAll M → RSt tx L top M (.inr a) → ∃ M', (if ¬ eq32 (bits : Int) 0 then (if 0 ≤ (sn : Int) ∧ (sn : Int) < 8 then some (none, pset M 67 (sn : Int).toNat (bits : Int)) else none) else (pbN (xF d 180 [.inr 62, .inl (M 60 21)] M) fun M8 => if 0 ≤ (sn : Int) ∧ (sn : Int) < 8 then some (none, pset M8 67 (sn : Int).toNat (bits : Int)) else none)) = rV M' ∧ RSt tx L top M' (if bits = 0 then .inl a else .inr a) ∧ AGs sn M M' ∧ gM gAll M' ∧ M' 67 sn = (bits : Int) := by
    intro a bits M hb hM h
    have h11 := h.2.2.2.2.2.2.2.2.2.2.1
    have h5' := h.2.2.2.2.1
    by_cases q : bits = 0
    · obtain ⟨e, r⟩ := m_faultG (d := d) (by omega) h (p := a) (by omega)
      have g := gM_RSt hM (AGr_bad (v := (a : Int)) AGr_rfl) r
      rw [if_neg (fun z => z (by rw [q]; rfl)), h.2.2.2.2.2.2.2.2.2.1, e, pbN_rV, if_pos (by omega), Int.toNat_natCast, if_pos q]
      exact ⟨_, rfl, RSt_ne r (by decide) (by decide), fun o i q1 q2 => by
        rw [show pset (pset M 60 22 (a : Int)) 67 sn (bits : Int) o i = pset M 60 22 (a : Int) o i from if_neg q2]
        exact if_neg (fun z => q1 ⟨z.1, Or.inr z.2⟩), gM_r g (lo := 0) (hi := 1023) (by decide +kernel) (by decide +kernel) (by omega) (by omega), pset_eq⟩
    · rw [if_pos (by rw [eq32_iff] <;> omega), if_pos (by omega), Int.toNat_natCast, if_neg q]
      exact ⟨_, rfl, RSt_ne h (by decide) (by decide), fun o i q1 q2 => if_neg q2, gM_r hM (lo := 0) (hi := 1023) (by decide +kernel) (by decide +kernel) (by omega) (by omega), pset_eq⟩
  intro f
  induction f with
  | zero =>
    intro a bits last y5 M hf hl hl2 hb hM h
    omega
  | succ f ih =>
    intro a bits last y5 M hf hl hl2 hb hM h
    have h11 := h.2.2.2.2.2.2.2.2.2.2.1
    have h5' := h.2.2.2.2.1
    have hat := h.2.2.2.2.2.2.2.2.2.1
    have hr := hc_range h a
    rw [L_M_readSet_10, m_fineG (by omega) h, pbI_rI, if_neg (by decide), m_here (by omega) h, pbI_rI, m_inD (by omega) (by omega) (by omega) (by omega) (by omega) (by omega) (by omega), pbI_rI]
    by_cases q : 97 ≤ hc tx (min L top) a ∧ hc tx (min L top) a ≤ 106
    · rw [if_pos q, if_neg (by decide), m_here (by omega) h, pbI_rI]
      by_cases q1 : hc tx (min L top) a - 97 ≤ last ∨ (T : Int) ≤ hc tx (min L top) a - 97
      · have eL : sgL tx (min L top) T (f + 1) a bits last = (.inl a, bits) := by
          show (if _ ∧ _ then (if _ ∨ _ then _ else _) else _) = _
          rw [if_pos q, if_pos q1]
        obtain ⟨e, r⟩ := m_faultG (d := d) (by omega) h (p := a) (by omega)
        rw [eL]
        by_cases q2 : hc tx (min L top) a - 97 ≤ last
        · rw [if_pos (by rw [le32_iff] <;> omega), hat, e, pbN_rV]
          exact ⟨_, rfl, r, fun o i q1 q2 => if_neg (fun z => q1 ⟨z.1, Or.inr z.2⟩), gM_RSt hM (AGr_bad AGr_rfl) r, hb, fun b hb => by cases hb⟩
        · rw [if_neg (by rw [le32_iff] <;> omega), if_neg (by rw [lt32_iff] <;> omega), hat, e, pbN_rV]
          exact ⟨_, rfl, r, fun o i q1 q2 => if_neg (fun z => q1 ⟨z.1, Or.inr z.2⟩), gM_RSt hM (AGr_bad AGr_rfl) r, hb, fun b hb => by cases hb⟩
      · have ha : a < min L top := hc_lt (tx := tx) (st := min L top) (by omega)
        have r1 := RSt_next h ha
        have eL : sgL tx (min L top) T (f + 1) a bits last = sgL tx (min L top) T f (a + 1) (bits ||| 2 ^ (hc tx (min L top) a - 97).toNat) (hc tx (min L top) a - 97) := by
          show (if _ ∧ _ then (if _ ∨ _ then _ else _) else _) = _
          rw [if_pos q, if_neg q1]
        obtain ⟨k, hk⟩ := natI (show 0 ≤ hc tx (min L top) a - 97 by omega)
        rw [eL, hk, Int.toNat_natCast]
        have hb2 : bits ||| 2 ^ k < 1024 := Nat.or_lt_two_pow (n := 10) hb (Nat.pow_lt_pow_right (by decide) (by omega))
        have hp : 2 ^ k < 1024 := show 2 ^ k < 2 ^ 10 from Nat.pow_lt_pow_right (by decide) (by omega)
        rw [if_neg (by rw [le32_iff] <;> omega), if_pos (by rw [lt32_iff] <;> omega), jshl_one k (by omega), jor_nat (by omega) (by omega), hat]
        obtain ⟨M', e, r, g, gm, hb3, hv⟩ := ih (a + 1) (bits ||| 2 ^ k) (k : Int) (.inl (k : Int)) _ (by omega) (by omega) (by omega) hb2 (gM_RSt hM (AGr_at AGr_rfl) r1) r1
        exact ⟨M', e, r, fun o i q1 q2 => by
          rw [g o i q1 q2]
          exact if_neg (fun z => q1 ⟨z.1, Or.inl z.2⟩), gm, hb3, hv⟩
    · have eL : sgL tx (min L top) T (f + 1) a bits last = (if bits = 0 then .inl a else .inr a, bits) := by
        show (if _ ∧ _ then _ else _) = _
        rw [if_neg q]
      rw [if_neg q, if_pos rfl, eL]
      obtain ⟨M', e, r, g, gm, hv⟩ := fin a bits M hb hM h
      exact ⟨M', e, r, g, gm, hb, fun b _ => hv⟩
theorem m_readSet (hd : 4 ≤ d) {sn : Nat} (hsn : sn < 8) (hT : T ≤ 10) {a : Nat} (ha : a < min L top) (hM : gM gAll M) (h : RSt tx L top M (.inr a)) : ∃ M', xF d 187 [.inr 62, .inl (sn : Int), .inl (T : Int)] M = rV M' ∧ RSt tx L top M' (sgL tx (min L top) T 11 (a + 1) 0 (-1)).1 ∧ AGs sn M M' ∧ gM gAll M' ∧ (sgL tx (min L top) T 11 (a + 1) 0 (-1)).2 < 1024 ∧ ∀ b, (sgL tx (min L top) T 11 (a + 1) 0 (-1)).1 = .inr b → M' 67 sn = ((sgL tx (min L top) T 11 (a + 1) 0 (-1)).2 : Int) := by
  obtain ⟨D, rfl, hD⟩ := dsucc hd
  have r1 := RSt_next h ha
  rw [T_M_readSet, h.2.2.2.2.2.2.2.2.2.1, show (.inl 0 : pV) = .inl ((0 : Nat) : Int) from rfl]
  obtain ⟨M', e, r, g, gm, hb, hv⟩ := m_rs10 (d := D) (T := T) hD hsn hT 11 (a + 1) 0 (-1) (.inr 0) _ (by decide) (by decide) (by decide) (by decide) (gM_RSt hM (AGr_at AGr_rfl) r1) r1
  exact ⟨M', e, r, fun o i q1 q2 => by
    rw [g o i q1 q2]
    exact if_neg (fun z => q1 ⟨z.1, Or.inl z.2⟩), gm, hb, hv⟩
end LN
