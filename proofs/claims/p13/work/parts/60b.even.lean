/-! calls of the reference that are shown by hand: the evenings -/
def cntF (p : Nat → Int) : Nat → Nat
  | 0 => 0
  | a + 1 => cntF p a + if p a = 1000000 then 1 else 0
theorem cntF_cg {p q : Nat → Int} : ∀ n, (∀ i, i < n → (q i = 1000000 ↔ p i = 1000000)) → cntF q n = cntF p n
  | 0, _ => rfl
  | n + 1, h => by
    unfold cntF
    rw [cntF_cg n (fun i hi => h i (by omega))]
    have := h n (by omega)
    by_cases e : p n = 1000000
    · rw [if_pos e, if_pos (this.mpr e)]
    · rw [if_neg e, if_neg (fun z => e (this.mp z))]
theorem cntF_set {p q : Nat → Int} {a : Nat} (h : ∀ i, i ≠ a → q i = p i) (h1 : p a = 1000000) (h2 : q a ≠ 1000000) : ∀ n, a < n → cntF q n + 1 = cntF p n
  | 0, ha => absurd ha (Nat.not_lt_zero a)
  | n + 1, ha => by
    unfold cntF
    by_cases e : a = n
    · subst e
      rw [if_pos h1, if_neg h2, cntF_cg a (fun i hi => by rw [h i (by omega)])]
    · have := cntF_set h h1 h2 n (by omega)
      rw [h n (fun z => e z.symm)]
      omega
theorem cntF_le (p : Nat → Int) : ∀ n, cntF p n ≤ n
  | 0 => Nat.le_refl 0
  | n + 1 => by
    unfold cntF
    have := cntF_le p n
    split <;> omega
theorem cntF_lt {p : Nat → Int} {a : Nat} (h : p a ≠ 1000000) : ∀ n, a < n → cntF p n + 1 ≤ n
  | 0, ha => absurd ha (Nat.not_lt_zero a)
  | n + 1, ha => by
    unfold cntF
    by_cases e : a = n
    · subst e
      rw [if_neg h]
      have := cntF_le p a
      omega
    · have := cntF_lt h n (by omega)
      split <;> omega
def rowE (M : pM) (n a : Nat) : Prop := (M 85 a = 1000000 ∧ M 86 a = 1000000) ∨ ∃ e c : Nat, M 85 a = (e : Int) ∧ M 86 a = (c : Int) ∧ e < n ∧ c ≤ 999 * e
def witE (M : pM) (mo : Int) (N : Nat) : Prop := M 85 0 = 1000000 ∨ ∃ b e : Nat, 1 ≤ b ∧ b < N ∧ M 85 0 = ((e + 1 : Nat) : Int) ∧ M 85 b = (e : Int) ∧ M 84 b ≤ mo ∧ M 86 0 = M 86 b + M 84 b
def wE : List (Nat × Nat) := [(85, 999), (86, 999)]
def SP (n cnt0 N : Nat) (mo more : Int) (M : pM) : Prop := gM gAll M ∧ M 60 48 = (N : Int) ∧ (∀ i, i < N → rowE M (n + 1) i) ∧ witE M mo N ∧ ((more = 0 ∧ cntF (M 85) N = cnt0 ∧ ∀ i, i < N → rowE M n i) ∨ (more = 1 ∧ cntF (M 85) N + 1 ≤ cnt0))
theorem rowE_cg {M M' : pM} {n a : Nat} (h1 : M' 85 a = M 85 a) (h2 : M' 86 a = M 86 a) (h : rowE M n a) : rowE M' n a := by
  unfold rowE
  rw [h1, h2]
  exact h
theorem rowE_mono {M : pM} {n n' a : Nat} (hn : n ≤ n') (h : rowE M n a) : rowE M n' a := by
  rcases h with h | ⟨e, c, h1, h2, h3, h4⟩
  · exact Or.inl h
  · exact Or.inr ⟨e, c, h1, h2, by omega, h4⟩
def updE (M : pM) (a : Nat) (n w : Int) : pM := pset (pset M 85 a n) 86 a w
section EVEN
variable {D d N : Nat} {mo : Int} {M : pM}
theorem upd85 {a : Nat} {n w : Int} (i : Nat) : updE M a n w 85 i = if i = a then n else M 85 i := by
  unfold updE
  rw [pset_ne (by decide)]
  by_cases h : i = a
  · rw [if_pos h, h, pset_eq]
  · rw [if_neg h, pset_ne2 h]
theorem upd86 {a : Nat} {n w : Int} (i : Nat) : updE M a n w 86 i = if i = a then w else M 86 i := by
  unfold updE
  by_cases h : i = a
  · rw [if_pos h, h, pset_eq]
  · rw [if_neg h, pset_ne2 h, pset_ne (by decide)]
theorem upd84 {a : Nat} {n w : Int} (i : Nat) : updE M a n w 84 i = M 84 i := by
  unfold updE
  rw [pset_ne (by decide), pset_ne (by decide)]
theorem SP_upd {n cnt0 a b : Nat} {more : Int} (hn1 : 1 ≤ n) (hn : n ≤ 302) (hN : N ≤ 301) (hm : mo ≤ 999) (ha : a < N) (hb1 : 1 ≤ b) (hb : b < N) (h : SP n cnt0 N mo more M) (hna : (n : Int) ≤ M 85 a) (h85 : M 85 b = (n : Int) - 1) (hc : M 84 (301 * a + b) ≤ mo) : SP n cnt0 N mo 1 (updE M a n (jmin (M 86 a) (M 86 b + M 84 (301 * a + b)))) := by
  obtain ⟨g, h48, hr, hw, hk⟩ := h
  have c0 := gm_r g (o := 84) (lo := 0) (hi := 100000000) (by decide +kernel) (by decide +kernel) (k := 301 * a + b) (show 301 * a + b < 90601 by omega)
  have hne : b ≠ a := fun z => by rw [z] at h85; omega
  obtain ⟨e, c, e1, e2, e3, e4⟩ : ∃ e c : Nat, M 85 b = (e : Int) ∧ M 86 b = (c : Int) ∧ e + 1 = n ∧ c ≤ 999 * e := by
    rcases hr b hb with y | ⟨e, c, y1, y2, y3, y4⟩
    · omega
    · exact ⟨e, c, y1, y2, by omega, y4⟩
  have hA : 0 ≤ M 86 a ∧ M 86 a ≤ 1000000 := gm_r g (o := 86) (lo := 0) (hi := 1000000) (by decide +kernel) (by decide +kernel) (k := a) (show a < 301 by omega)
  have ej : jmin (M 86 a) (M 86 b + M 84 (301 * a + b)) = min (M 86 a) (M 86 b + M 84 (301 * a + b)) := jmin_eq (by omega) (by omega) (by omega) (by omega)
  rw [ej]
  have hw1 : 0 ≤ min (M 86 a) (M 86 b + M 84 (301 * a + b)) := by omega
  obtain ⟨w, ew⟩ := natI hw1
  rw [ew]
  have hw2 : w ≤ 999 * n := by omega
  have hfar : (n : Int) ≠ 1000000 := by omega
  refine ⟨gM_r (gM_r g (lo := 0) (hi := 1000000) (by decide +kernel) (by decide +kernel) (by omega) (by omega)) (lo := 0) (hi := 1000000) (by decide +kernel) (by decide +kernel) (by omega) (by omega), ?_, fun i hi => ?_, ?_, Or.inr ⟨rfl, ?_⟩⟩
  · unfold updE
    rw [pset_ne (by decide), pset_ne (by decide)]; exact h48
  · by_cases q : i = a
    · refine Or.inr ⟨n, w, by rw [upd85, if_pos q], by rw [upd86, if_pos q], by omega, hw2⟩
    · exact rowE_cg (by rw [upd85, if_neg q]) (by rw [upd86, if_neg q]) (hr i hi)
  · -- the witness
    by_cases q : a = 0
    · subst q
      rw [show 301 * 0 + b = b by omega] at *
      by_cases p : M 86 b + M 84 b ≤ M 86 0
      · refine Or.inr ⟨b, e, hb1, hb, by rw [upd85, if_pos rfl]; omega, by rw [upd85, if_neg hne]; exact e1, by rw [upd84]; exact hc, ?_⟩
        rw [upd86, if_pos rfl, upd86, if_neg hne, upd84]
        omega
      · rcases hw with y | ⟨b0, e0, y1, y2, y3, y4, y5, y6⟩
        · rcases hr 0 ha with z | ⟨e', c', z1, -, z3, -⟩
          · omega
          · omega
        · have hb0 : b0 ≠ 0 := by omega
          have z : e0 + 1 = n := by
            rcases hr 0 ha with z | ⟨e', c', z1, -, z3, -⟩
            · omega
            · omega
          refine Or.inr ⟨b0, e0, y1, y2, by rw [upd85, if_pos rfl]; omega, by rw [upd85, if_neg hb0]; exact y4, by rw [upd84]; exact y5, ?_⟩
          rw [upd86, if_pos rfl, upd86, if_neg hb0, upd84]
          omega
    · rcases hw with y | ⟨b0, e0, y1, y2, y3, y4, y5, y6⟩
      · exact Or.inl (by rw [upd85, if_neg (fun z => q z.symm)]; exact y)
      · have hb0 : b0 ≠ a := fun z => by
          rw [z] at y4
          rcases hr 0 (by omega) with x | ⟨e', c', x1, -, x3, -⟩
          · rcases hr a ha with x2 | ⟨e2', c2', x4, -, x5, -⟩ <;> omega
          · omega
        refine Or.inr ⟨b0, e0, y1, y2, by rw [upd85, if_neg (fun z => q z.symm)]; exact y3, by rw [upd85, if_neg hb0]; exact y4, by rw [upd84]; exact y5, ?_⟩
        rw [upd86, if_neg (fun z => q z.symm), upd86, if_neg hb0, upd84]
        exact y6
  · by_cases q : M 85 a = 1000000
    · have := cntF_set (p := M 85) (q := updE M a n w 85) (a := a) (fun i hi => by rw [upd85, if_neg hi]) q (by rw [upd85, if_pos rfl]; exact hfar) N ha
      rcases hk with ⟨-, k2, -⟩ | ⟨-, k2⟩ <;> omega
    · have := cntF_cg (p := M 85) (q := updE M a n w 85) N (fun i hi => by
        rw [upd85]
        by_cases r : i = a
        · rw [if_pos r, r]
          exact ⟨fun z => absurd z hfar, fun z => absurd z q⟩
        · rw [if_neg r])
      rcases hk with ⟨-, -, k3⟩ | ⟨-, k2⟩
      · rcases k3 a ha with z | ⟨e', c', z1, -, z3, -⟩ <;> omega
      · omega
theorem m_fe53 {n cnt0 a : Nat} (hn1 : 1 ≤ n) (hn : n ≤ 302) (hN : N ≤ 301) (hm : mo ≤ 999) (hm0 : 0 ≤ mo) (ha : a < N) : ∀ m b (more : Int) (y6 : pV) (M : pM), b + m = N → 1 ≤ b → SP n cnt0 N mo more M → (n : Int) ≤ M 85 a → ∃ (more' : Int) (y5 y6' : pV) (M' : pM), xE D 262 53 [.inr 62, .inl mo, .inl more, .inl (n : Int), .inl (a : Int), .inl (b : Int), y6] [] M = xE D 262 40 [.inr 62, .inl mo, .inl more', .inl (n : Int), .inl ((a + 1 : Nat) : Int), y5, y6'] [] M' ∧ SP n cnt0 N mo more' M' ∧ Fr wE M M' := by
  intro m
  induction m with
  | zero =>
    intro b more y6 M hb hb1 h hna
    rw [L_M_findEvenings_53, h.2.1, if_pos (by rw [le32_iff] <;> omega), show ((a : Int) + 1) = ((a + 1 : Nat) : Int) by omega]
    exact ⟨more, _, y6, M, rfl, h, Fr_rfl⟩
  | succ m ih =>
    intro b more y6 M hb hb1 h hna
    have e1 : ((b : Int) + 1) = ((b + 1 : Nat) : Int) := by omega
    have e2 : (301 * (a : Int) + (b : Int)).toNat = 301 * a + b := by omega
    have c0 := gm_r h.1 (o := 84) (lo := 0) (hi := 100000000) (by decide +kernel) (by decide +kernel) (k := 301 * a + b) (show 301 * a + b < 90601 by omega)
    have b0 := gm_r h.1 (o := 85) (lo := 0) (hi := 1000000) (by decide +kernel) (by decide +kernel) (k := b) (show b < 301 by omega)
    rw [L_M_findEvenings_53, h.2.1, if_neg (by rw [le32_iff] <;> omega), if_pos (by omega), if_pos (by omega), Int.toNat_natCast, Int.toNat_natCast, e2, e1]
    by_cases q1 : eq32 (M 85 b) ((n : Int) - 1)
    · rw [if_neg (fun z => z q1)]
      rw [eq32_iff (by omega) (by omega) (by omega) (by omega)] at q1
      by_cases q2 : lt32 mo (M 84 (301 * a + b))
      · rw [if_pos q2]
        exact ih (b + 1) more _ M (by omega) (by omega) h hna
      · rw [if_neg q2]
        rw [lt32_iff (by omega) (by omega) (by omega) (by omega)] at q2
        rw [if_pos (by rw [lt32_iff] <;> omega), if_pos (by omega), if_pos (by omega), if_pos (by omega), if_pos (by omega), pset_ne (show 86 ≠ 85 by decide), pset_ne (show 86 ≠ 85 by decide)]
        have s := SP_upd hn1 hn hN hm ha hb1 (by omega) h hna q1 (by omega)
        obtain ⟨more', y5, y6', M', e, s2, f⟩ := ih (b + 1) 1 (.inl (M 84 (301 * a + b))) _ (by omega) (by omega) s (by rw [upd85, if_pos rfl]; omega)
        exact ⟨more', y5, y6', M', e, s2, Fr_tr (Fr_set (Fr_set Fr_rfl (wOK_r (by decide) _)) (wOK_r (by decide) _)) f⟩
    · rw [if_pos q1]
      exact ih (b + 1) more _ M (by omega) (by omega) h hna
theorem m_fe40 {n cnt0 : Nat} (hn1 : 1 ≤ n) (hn : n ≤ 302) (hN : N ≤ 301) (hN1 : 1 ≤ N) (hm : mo ≤ 999) (hm0 : 0 ≤ mo) : ∀ m a (more : Int) (y5 y6 : pV) (M : pM), a + m = N → SP n cnt0 N mo more M → ∃ (more' : Int) (y4 y5' y6' : pV) (M' : pM), xE D 262 40 [.inr 62, .inl mo, .inl more, .inl (n : Int), .inl (a : Int), y5, y6] [] M = xE D 262 34 [.inr 62, .inl mo, .inl more', .inl ((n + 1 : Nat) : Int), y4, y5', y6'] [] M' ∧ SP n cnt0 N mo more' M' ∧ Fr wE M M' := by
  intro m
  induction m with
  | zero =>
    intro a more y5 y6 M ha h
    rw [L_M_findEvenings_40, h.2.1, if_pos (by rw [le32_iff] <;> omega), show ((n : Int) + 1) = ((n + 1 : Nat) : Int) by omega]
    exact ⟨more, _, y5, y6, M, rfl, h, Fr_rfl⟩
  | succ m ih =>
    intro a more y5 y6 M ha h
    have b0 := gm_r h.1 (o := 85) (lo := 0) (hi := 1000000) (by decide +kernel) (by decide +kernel) (k := a) (show a < 301 by omega)
    rw [L_M_findEvenings_40, h.2.1, if_neg (by rw [le32_iff] <;> omega), if_pos (by omega), Int.toNat_natCast]
    by_cases q : le32 (n : Int) (M 85 a)
    · rw [if_pos q]
      rw [le32_iff (by omega) (by omega) (by omega) (by omega)] at q
      obtain ⟨more1, y5', y6', M1, e1, s1, f1⟩ := m_fe53 (D := D) hn1 hn hN hm hm0 (show a < N by omega) (N - 1) 1 more y6 M (by omega) (by omega) h q
      rw [show (.inl 1 : pV) = .inl ((1 : Nat) : Int) from rfl, e1]
      obtain ⟨more', y4, y5'', y6'', M', e, s, f⟩ := ih (a + 1) more1 y5' y6' M1 (by omega) s1
      exact ⟨more', y4, y5'', y6'', M', e, s, Fr_tr f1 f⟩
    · rw [if_neg q, show ((a : Int) + 1) = ((a + 1 : Nat) : Int) by omega]
      exact ih (a + 1) more y5 y6 M (by omega) h
theorem m_fe34 (hN : N ≤ 301) (hN1 : 1 ≤ N) (hm : mo ≤ 999) (hm0 : 0 ≤ mo) : ∀ cnt n (y4 y5 y6 : pV) (M : pM), 1 ≤ n → n + cnt ≤ N → cntF (M 85) N = cnt → gM gAll M → M 60 48 = (N : Int) → (∀ i, i < N → rowE M n i) → witE M mo N → ∃ M', xE D 262 34 [.inr 62, .inl mo, .inl 1, .inl (n : Int), y4, y5, y6] [] M = rV M' ∧ gM gAll M' ∧ Fr wE M M' ∧ witE M' mo N := by
  intro cnt
  induction cnt using Nat.strongRecOn with
  | ind cnt ih =>
    intro n y4 y5 y6 M hn1 hn hc hM h48 hr hw
    obtain ⟨more, y4', y5', y6', M1, e1, s1, f1⟩ := m_fe40 (D := D) (n := n) (cnt0 := cnt) (N := N) (mo := mo) hn1 (by omega) hN hN1 hm hm0 N 0 0 y5 y6 M (by omega) ⟨hM, h48, fun i hi => rowE_mono (by omega) (hr i hi), hw, Or.inl ⟨rfl, hc, hr⟩⟩
    rw [L_M_findEvenings_34, if_neg (by decide), show (.inl 0 : pV) = .inl ((0 : Nat) : Int) from rfl]
    rw [show (.inl 0 : pV) = .inl ((0 : Nat) : Int) from rfl] at e1
    rw [e1]
    obtain ⟨s2, s3, s4, s5, s6⟩ := s1
    rcases s6 with ⟨k1, -, -⟩ | ⟨k1, k2⟩
    · rw [k1, L_M_findEvenings_34, if_pos rfl]
      exact ⟨M1, rfl, s2, f1, s5⟩
    · rw [k1]
      obtain ⟨M', e, g, f, w⟩ := ih (cntF (M1 85) N) (by omega) (n + 1) y4' y5' y6' M1 (by omega) (by omega) rfl s2 s3 s4 s5
      exact ⟨M', e, g, Fr_tr f1 f, w⟩
theorem m_fe2 (hN : N ≤ 301) {A : Nat} (hA1 : 1 ≤ A) (hA : A < N) (hm : mo ≤ 999) (hm0 : 0 ≤ mo) : ∀ m i (M : pM), i + m = N → gM gAll M → M 60 48 = (N : Int) → M 60 49 = (A : Int) → (∀ j, j < i → M 85 j = (if j = A then 0 else 1000000) ∧ M 86 j = (if j = A then 0 else 1000000)) → ∃ M', xE D 262 2 [.inr 62, .inl mo, .inl (i : Int), .inr 0, .inr 0, .inr 0, .inr 0] [] M = rV M' ∧ gM gAll M' ∧ Fr wE M M' ∧ witE M' mo N := by
  intro m
  induction m with
  | zero =>
    intro i M hi hM h48 h49 hj
    rw [L_M_findEvenings_2, h48, if_pos (by rw [le32_iff] <;> omega)]
    have hc := cntF_lt (p := M 85) (a := A) (by rw [(hj A (by omega)).1, if_pos rfl]; decide) N hA
    exact m_fe34 hN (by omega) hm hm0 (cntF (M 85) N) 1 _ _ _ M (by omega) (by omega) rfl hM h48 (fun j hj2 => by
      have := hj j (by omega)
      by_cases q : j = A
      · rw [if_pos q] at this
        exact Or.inr ⟨0, 0, this.1, this.2, by omega, by omega⟩
      · rw [if_neg q] at this
        exact Or.inl this) (Or.inl (by
      have := (hj 0 (by omega)).1
      rw [if_neg (by omega)] at this
      exact this))
  | succ m ih =>
    intro i M hi hM h48 h49 hj
    have e1 : ((i : Int) + 1) = ((i + 1 : Nat) : Int) := by omega
    have go : ∀ v : Int, (v = 0 ∨ v = 1000000) → (i = A ↔ v = 0) → ∃ M', xE D 262 2 [.inr 62, .inl mo, .inl ((i + 1 : Nat) : Int), .inr 0, .inr 0, .inr 0, .inr 0] [] (pset (pset M 85 i v) 86 i v) = rV M' ∧ gM gAll M' ∧ Fr wE M M' ∧ witE M' mo N := by
      intro v hv hiv
      have g2 : gM gAll (pset (pset M 85 i v) 86 i v) := gM_r (gM_r hM (lo := 0) (hi := 1000000) (by decide +kernel) (by decide +kernel) (by omega) (by omega)) (lo := 0) (hi := 1000000) (by decide +kernel) (by decide +kernel) (by omega) (by omega)
      obtain ⟨M', e, g, f, w⟩ := ih (i + 1) (pset (pset M 85 i v) 86 i v) (by omega) g2 (by rw [pset_ne (by decide), pset_ne (by decide)]; exact h48) (by rw [pset_ne (by decide), pset_ne (by decide)]; exact h49) (fun j hj2 => by
        show updE M i v v 85 j = _ ∧ updE M i v v 86 j = _
        rw [upd85, upd86]
        by_cases r : j = i
        · rw [if_pos r, if_pos r]
          by_cases s : j = A
          · rw [if_pos s]
            have : v = 0 := hiv.mp (by omega)
            exact ⟨this, this⟩
          · rw [if_neg s]
            have : v ≠ 0 := fun z => s (by rw [r]; exact hiv.mpr z)
            exact ⟨by omega, by omega⟩
        · rw [if_neg r, if_neg r]
          exact hj j (by omega))
      exact ⟨M', e, g, Fr_tr (Fr_set (Fr_set Fr_rfl (wOK_r (by decide) _)) (wOK_r (by decide) _)) f, w⟩
    rw [L_M_findEvenings_2, h48, if_neg (by rw [le32_iff] <;> omega), h49]
    by_cases q : eq32 (i : Int) (A : Int)
    · have q2 := (eq32_iff (by omega) (by omega) (by omega) (by omega)).mp q
      rw [if_neg (fun z => z q), if_pos (by omega), Int.toNat_natCast, pset_ne (show 60 ≠ 85 by decide), h49, if_neg (fun z => z q), if_pos (by omega), e1]
      exact go 0 (Or.inl rfl) ⟨fun _ => rfl, fun _ => by omega⟩
    · have q2 : ¬ i = A := fun z => q (by rw [z])
      rw [if_pos q, if_pos (by omega), Int.toNat_natCast, pset_ne (show 60 ≠ 85 by decide), h49, if_pos q, if_pos (by omega), e1]
      exact go 1000000 (Or.inr rfl) ⟨fun z => absurd z q2, fun z => absurd z (by decide)⟩
theorem m_findEv (hd : 1 ≤ d) (hM : gM gAll M) (h : FAr M) (h49 : M 60 49 ≠ -1) (hm : mo ≤ 999) (hm0 : 0 ≤ mo) : ∃ M' N, xF d 262 [.inr 62, .inl mo] M = rV M' ∧ gM gAll M' ∧ Fr wE M M' ∧ witE M' mo N ∧ N ≤ 301 := by
  obtain ⟨D, rfl, -⟩ := dsucc hd
  obtain ⟨n, h1, h2, h3, h4⟩ := h
  rcases h4 with h4 | h4
  · exact absurd h4 h49
  · obtain ⟨A, eA⟩ := natI (show 0 ≤ M 60 49 by omega)
    rw [T_M_findEvenings, show (.inl 0 : pV) = .inl ((0 : Nat) : Int) from rfl]
    obtain ⟨M', e, g, f, w⟩ := m_fe2 (D := D) (N := n) h3 (A := A) (by omega) (by omega) hm hm0 n 0 M (by omega) hM h1 eA (fun j hj => absurd hj (Nat.not_lt_zero j))
    exact ⟨M', n, e, g, f, w, h3⟩
end EVEN
