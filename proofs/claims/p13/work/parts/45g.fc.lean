/-! the reference's findClumps: its machine -/
def FCw : List (Nat × Nat) := [(60, 30), (72, 999), (73, 999)]
def FCx (M : pM) (S T : Nat) (sv : Nat → Nat) : Prop := M 60 8 = (S : Int) ∧ S ≤ 8 ∧ M 60 3 = (T : Int) ∧ T ≤ 10 ∧ (∀ k, k < S → M 67 k = (sv k : Int)) ∧ ∀ k, k < S → sv k < 1024
theorem fcx_of {M : pM} (h : gM gAll M) : FCx M (M 60 8).toNat (M 60 3).toNat (fun k => (M 67 k).toNat) := by
  have h1 := gm_i h 60 8 (lo := 0) (hi := 8) (by decide +kernel) (by decide +kernel)
  have h2 := gm_i h 60 3 (lo := 0) (hi := 10) (by decide +kernel) (by decide +kernel)
  have h3 : ∀ k, k < (M 60 8).toNat → 0 ≤ M 67 k ∧ M 67 k ≤ 1023 := fun k hk => gm_r h (by decide +kernel) (by decide +kernel) (Nat.lt_of_lt_of_le hk (show (M 60 8).toNat ≤ 8 by omega))
  refine ⟨by omega, by omega, by omega, by omega, fun k hk => ?_, fun k hk => ?_⟩
  · have := h3 k hk; show M 67 k = ((M 67 k).toNat : Int); omega
  · have := h3 k hk; show (M 67 k).toNat < 1024; omega
theorem FCx_Fr {M M' : pM} {S T : Nat} {sv : Nat → Nat} {w : List (Nat × Nat)} (a : Fr w M M') (h1 : wOK w 60 8 = false) (h2 : wOK w 60 3 = false) (h3 : ∀ k, wOK w 67 k = false) (h : FCx M S T sv) : FCx M' S T sv := by
  obtain ⟨a1, a2, a3, a4, a5, a6⟩ := h
  exact ⟨by rw [a 60 8 h1]; exact a1, a2, by rw [a 60 3 h2]; exact a3, a4, fun k hk => by rw [a 67 k (h3 k)]; exact a5 k hk, a6⟩
theorem FCw_67 (k : Nat) : wOK FCw 67 k = false := by
  unfold wOK FCw
  simp only [List.any_cons, List.any_nil, show Nat.beq 60 67 = false from rfl, show Nat.beq 72 67 = false from rfl, show Nat.beq 73 67 = false from rfl, Bool.false_and, Bool.or_false]
section FCM
variable {D S T ns g : Nat} {sv : Nat → Nat} {M : pM}
theorem m_fc29 (hD : 1 ≤ D) (h : FCx M S T sv) (hns : ns < 2147483648) (hg : g < 1024) {b : Nat} (hb : b < 1024) (x3 x4 x6 : Int) : ∀ m k, k + m = S → xE D 200 29 [.inr 62, .inl (ns : Int), .inl (g : Int), .inl x3, .inl x4, .inl (fcP sv ns g b k : Nat), .inl x6, .inl (k : Int)] [] M = xE D 200 22 [.inr 62, .inl (ns : Int), .inl (g : Int), .inl x3, .inl x4, .inl (fcP sv ns g b S : Nat), .inl x6, .inl (S : Int)] [] M := by
  obtain ⟨h8, hS, h3, hT, hv, hl⟩ := h
  intro m
  induction m with
  | zero =>
    intro k hk
    rw [L_M_findClumps_29, h8, if_pos (by rw [le32_iff] <;> omega), show k = S by omega]
  | succ m ih =>
    intro k hk
    have hp := fcP_lt hl hb k (by omega) (ns := ns) (g := g)
    have hs := hl k (by omega)
    have e1 : ((k : Int) + 1) = ((k + 1 : Nat) : Int) := by omega
    rw [L_M_findClumps_29, h8, if_neg (by rw [le32_iff] <;> omega), m_has hD hns (by omega), pbI_rI, ite01n]
    by_cases q : ns.testBit k = true
    · have e2 : fcP sv ns g b (k + 1) = fcP sv ns g b k := if_pos (Or.inl q)
      rw [if_pos q, e1, ← e2]
      exact ih (k + 1) (by omega)
    · rw [if_neg q, if_pos (by omega), Int.toNat_natCast, hv k (by omega), jand_nat (by omega) (by omega)]
      have hle : sv k &&& fcP sv ns g b k < 1024 := Nat.lt_of_le_of_lt Nat.and_le_left hs
      by_cases z : sv k &&& fcP sv ns g b k = 0
      · have e2 : fcP sv ns g b (k + 1) = fcP sv ns g b k := if_pos (Or.inr z)
        rw [if_pos (by rw [z]; decide), e1, ← e2]
        exact ih (k + 1) (by omega)
      · have e2 : fcP sv ns g b (k + 1) = fcP sv ns g b k ||| nan (sv k) g := if_neg (fun y => y.elim q z)
        rw [if_neg (fun y => z (by
          have := (eq32_iff (x := ((sv k &&& fcP sv ns g b k : Nat) : Int)) (y := 0) (by omega) (by omega) (by omega) (by omega)).mp y
          omega)), if_pos (by omega), jxor_m1 (by omega), jand_not (by omega) (by omega), jor_nat (by omega) (Nat.lt_of_le_of_lt (nan_le _ _) (by omega)), e1, ← e2]
        exact ih (k + 1) (by omega)
theorem m_fc22 (hD : 1 ≤ D) (h : FCx M S T sv) (hns : ns < 2147483648) (hg : g < 1024) {N : Nat} (hN : M 60 30 = (N : Int)) (hN9 : N < 10) (x3 x4 : Int) : ∀ n b was : Nat, ∀ y7 : pV, b < 1024 → was < 1024 → b ≠ was → 1024 ≤ n + b → xE D 200 22 [.inr 62, .inl (ns : Int), .inl (g : Int), .inl x3, .inl x4, .inl (b : Int), .inl (was : Int), y7] [] M = xE D 200 66 [.inr 62, .inl (ns : Int), .inl (g : Int), .inl x3, .inl x4, .inl (fcX sv ns g S b : Nat), .inl (fcX sv ns g S b : Nat), .inl 0] [] (pset M 73 N (fcX sv ns g S b : Nat)) := by
  intro n
  induction n with
  | zero => intro b was y7 hb _ _ hn; omega
  | succ n ih =>
    intro b was y7 hb hw hne hn
    have hl := h.2.2.2.2.2
    rw [L_M_findClumps_22, if_neg (by rw [eq32_iff] <;> omega)]
    have e29 := m_fc29 (sv := sv) hD h hns hg hb x3 x4 b S 0 (by omega)
    rw [show fcP sv ns g b 0 = b from rfl] at e29
    rw [show (.inl 0 : pV) = .inl ((0 : Nat) : Int) from rfl, e29]
    have hp := fcP_lt hl hb S (Nat.le_refl S) (ns := ns) (g := g)
    have hge := fcP_ge (sv := sv) (ns := ns) (g := g) (b := b) S
    by_cases e : fcP sv ns g b S = b
    · have ex : fcX sv ns g S b = b := fcI_fix e _
      rw [e, ex, L_M_findClumps_22, if_pos rfl, hN, if_pos (by omega), Int.toNat_natCast]
      rfl
    · rw [ih _ b _ hp hb e (by omega), fcX_P hl hb]
      rfl
def fcW (M : pM) (c : Nat) (v : Int) (n : Nat) : pM := fun o i => if o = 72 ∧ i < n ∧ c.testBit i = true then v else M o i
theorem fcW_0 (M : pM) (c : Nat) (v : Int) : fcW M c v 0 = M := by
  funext o i
  unfold fcW
  rw [if_neg (fun z => absurd z.2.1 (Nat.not_lt_zero i))]
theorem fcW_ne {M : pM} {c : Nat} {v : Int} {n o i : Nat} (h : o ≠ 72) : fcW M c v n o i = M o i := by
  unfold fcW
  rw [if_neg (fun z => h z.1)]
theorem fcW_s0 {M : pM} {c : Nat} {v : Int} {k : Nat} (h : c.testBit k = false) : fcW M c v (k + 1) = fcW M c v k := by
  funext o i
  unfold fcW
  by_cases q : o = 72 ∧ i < k ∧ c.testBit i = true
  · rw [if_pos q, if_pos ⟨q.1, by omega, q.2.2⟩]
  · rw [if_neg q, if_neg (fun z => q ⟨z.1, by
      rcases Nat.lt_or_ge i k with y | y
      · exact y
      · rw [show i = k by omega, h] at z; exact absurd z.2.2 (by decide), z.2.2⟩)]
theorem fcW_s1 {M : pM} {c : Nat} {v : Int} {k : Nat} (h : c.testBit k = true) : pset (fcW M c v k) 72 k v = fcW M c v (k + 1) := by
  funext o i
  by_cases q1 : o = 72
  · subst q1
    by_cases q2 : i = k
    · subst q2
      rw [pset_eq]; unfold fcW
      rw [if_pos ⟨rfl, by omega, h⟩]
    · rw [pset_ne2 q2]; unfold fcW
      by_cases q : (72 : Nat) = 72 ∧ i < k ∧ c.testBit i = true
      · rw [if_pos q, if_pos ⟨rfl, by omega, q.2.2⟩]
      · rw [if_neg q, if_neg (fun z => q ⟨rfl, by omega, z.2.2⟩)]
  · rw [pset_ne q1, fcW_ne q1, fcW_ne q1]
theorem m_fc66 (hD : 1 ≤ D) (h3 : M 60 3 = (T : Int)) (hT : T ≤ 10) {N c : Nat} (hN : M 60 30 = (N : Int)) (hc : c < 1024) (x1 x2 x3 x4 x6 : Int) : ∀ m k, k + m = T → xE D 200 66 [.inr 62, .inl x1, .inl x2, .inl x3, .inl x4, .inl (c : Int), .inl x6, .inl (k : Int)] [] (fcW M c N k) = xE D 200 7 [.inr 62, .inl x1, .inl x2, .inl (jor x3 c), .inl (x4 + 1), .inl (c : Int), .inl x6, .inl (T : Int)] [] (pset (fcW M c N T) 60 30 ((N : Int) + 1)) := by
  intro m
  induction m with
  | zero =>
    intro k hk
    rw [L_M_findClumps_66, fcW_ne (by decide), fcW_ne (by decide), h3, hN, if_pos (by rw [le32_iff] <;> omega), show k = T by omega]
  | succ m ih =>
    intro k hk
    have e1 : ((k : Int) + 1) = ((k + 1 : Nat) : Int) := by omega
    rw [L_M_findClumps_66, fcW_ne (by decide), h3, if_neg (by rw [le32_iff] <;> omega), m_has hD (by omega) (by omega), pbI_rI, ite01]
    cases hb : c.testBit k with
    | false =>
      rw [if_neg (by decide), ← fcW_s0 hb, e1]
      exact ih (k + 1) (by omega)
    | true =>
      rw [if_pos rfl, if_pos (by omega), Int.toNat_natCast, fcW_ne (by decide), hN, fcW_s1 hb, e1]
      exact ih (k + 1) (by omega)
theorem gM_fcW (hM : gM gAll M) {c N n : Nat} (hN : N < 10) : gM gAll (fcW M c N n) := by
  intro o k hk
  unfold fcW
  split
  · rename_i q
    obtain ⟨rfl, -, -⟩ := q
    rw [gAll_row (o := 72) (v := (0, 0, 9, 0, 0, 0)) (by decide +kernel) (by decide +kernel) (Nat.lt_of_lt_of_le hk (pL_le _))]
    exact Or.inl ⟨rfl, show (0 : Int) ≤ (N : Int) by omega, show (N : Int) ≤ 9 by omega⟩
  · exact hM o k hk
theorem Fr_fcW {M0 : pM} (h : Fr FCw M0 M) {c N n : Nat} : Fr FCw M0 (fcW M c N n) := by
  intro o k q
  unfold fcW
  split
  · rename_i e
    rw [e.1, wOK_r (by decide)] at q; cases q
  · exact h o k q
/-- after t things -/
def FCr (sv : Nat → Nat) (ns g S T : Nat) (M : pM) (t : Nat) (M' : pM) : Prop := gM gAll M' ∧ Fr FCw M M' ∧ M' 60 30 = ((fcA sv ns g S t).1 : Int) ∧ (∀ o, o < T → M' 72 o = fcO sv ns g S (M 72) t o) ∧ ∀ i, M' 73 i = fcM sv ns g S (M 73) t i
theorem m_fc7 (hD : 1 ≤ D) (h : FCx M S T sv) (hns : ns < 2147483648) (hg : g < 1024) : ∀ m t M', t + m = T → FCr sv ns g S T M t M' → ∀ y5 y6 y7, ∃ M'', xE D 200 7 [.inr 62, .inl (ns : Int), .inl (g : Int), .inl ((fcA sv ns g S t).2 : Nat), .inl (t : Int), y5, y6, y7] [] M' = rV M'' ∧ FCr sv ns g S T M T M'' := by
  have hl := h.2.2.2.2.2
  have hT := h.2.2.2.1
  intro m
  induction m with
  | zero =>
    intro t M' ht hr y5 y6 y7
    have h' := FCx_Fr hr.2.1 rfl rfl FCw_67 h
    rw [L_M_findClumps_7, h'.2.2.1, if_pos (by rw [le32_iff] <;> omega)]
    have : t = T := by omega
    subst this
    exact ⟨M', rfl, hr⟩
  | succ m ih =>
    intro t M' ht hr y5 y6 y7
    have h' := FCx_Fr hr.2.1 rfl rfl FCw_67 h
    have e1 : ((t : Int) + 1) = ((t + 1 : Nat) : Int) := by omega
    have ha := fcA_lt hl hg t (by omega) (ns := ns)
    have hle := fcA_le (sv := sv) (ns := ns) (g := g) (S := S) t
    rw [L_M_findClumps_7, h'.2.2.1, if_neg (by rw [le32_iff] <;> omega), m_has hD (by omega) (by omega), pbI_rI, ite01]
    by_cases q : (fcA sv ns g S t).2.testBit t = true
    · have eA : fcA sv ns g S (t + 1) = fcA sv ns g S t := if_pos q
      rw [if_pos q, e1]
      have := ih (t + 1) M' (by omega) ⟨hr.1, hr.2.1, by rw [eA]; exact hr.2.2.1, fun o ho => by
        rw [hr.2.2.2.1 o ho]
        exact (if_neg (fun z => by rw [z.1] at q; cases q)).symm, fun i => by
        rw [hr.2.2.2.2 i]
        exact (if_neg (fun z => by rw [z.1] at q; cases q)).symm⟩ y5 y6 y7
      rw [eA] at this
      exact this
    · have q2 : (fcA sv ns g S t).2.testBit t = false := by simpa using q
      have eA : fcA sv ns g S (t + 1) = ((fcA sv ns g S t).1 + 1, (fcA sv ns g S t).2 ||| fcX sv ns g S (2 ^ t)) := if_neg q
      have hb : 2 ^ t < 1024 := show 2 ^ t < 2 ^ 10 from Nat.pow_lt_pow_right (by decide) (by omega)
      have hb0 : 2 ^ t ≠ 0 := Nat.ne_of_gt (Nat.two_pow_pos t)
      have hc := fcX_lt hl hb (ns := ns) (g := g)
      have hN9 : (fcA sv ns g S t).1 < 10 := by omega
      rw [if_neg q, jshl_one t (by omega), show (.inl 0 : pV) = .inl ((0 : Nat) : Int) from rfl, m_fc22 hD h' hns hg hr.2.2.1 hN9 _ _ 1024 (2 ^ t) 0 y7 hb (by decide) hb0 (Nat.le_add_right _ _)]
      have g1 : gM gAll (pset M' 73 (fcA sv ns g S t).1 (fcX sv ns g S (2 ^ t) : Nat)) := gM_r hr.1 (lo := 0) (hi := 1023) (by decide +kernel) (by decide +kernel) (by omega) (by omega)
      have f1 : Fr FCw M (pset M' 73 (fcA sv ns g S t).1 (fcX sv ns g S (2 ^ t) : Nat)) := Fr_set hr.2.1 (wOK_r (by decide) _)
      have e66 := m_fc66 (M := pset M' 73 (fcA sv ns g S t).1 (fcX sv ns g S (2 ^ t) : Nat)) (N := (fcA sv ns g S t).1) (c := fcX sv ns g S (2 ^ t)) hD (by rw [pset_ne (by decide)]; exact h'.2.2.1) hT (by rw [pset_ne (by decide)]; exact hr.2.2.1) hc ns g ((fcA sv ns g S t).2 : Nat) t (fcX sv ns g S (2 ^ t) : Nat) T 0 (by omega)
      rw [fcW_0] at e66
      rw [show (.inl 0 : pV) = .inl ((0 : Nat) : Int) from rfl, e66, jor_nat (by omega) (by omega), e1]
      have := ih (t + 1) (pset (fcW (pset M' 73 (fcA sv ns g S t).1 (fcX sv ns g S (2 ^ t) : Nat)) (fcX sv ns g S (2 ^ t)) (fcA sv ns g S t).1 T) 60 30 (((fcA sv ns g S t).1 : Int) + 1)) (by omega) ⟨gM_f (gM_fcW g1 (by omega)) (lo := 0) (hi := 10) (by decide +kernel) (by omega) (by omega), Fr_set (Fr_fcW f1) (by decide), by rw [pset_eq, eA]; omega, fun o ho => ?_, fun i => ?_⟩ (.inl (fcX sv ns g S (2 ^ t) : Nat)) (.inl (fcX sv ns g S (2 ^ t) : Nat)) (.inl (T : Int))
      · rw [eA] at this
        exact this
      · rw [pset_ne (by decide)]
        show (if (72 : Nat) = 72 ∧ o < T ∧ (fcX sv ns g S (2 ^ t)).testBit o = true then _ else pset M' 73 _ _ 72 o) = (if _ ∧ _ then _ else _)
        by_cases r : (fcX sv ns g S (2 ^ t)).testBit o = true
        · rw [if_pos ⟨rfl, ho, r⟩, if_pos ⟨q2, r⟩]
        · rw [if_neg (fun z => r z.2.2), if_neg (fun z => r z.2), pset_ne (by decide)]
          exact hr.2.2.2.1 o ho
      · rw [pset_ne (by decide), fcW_ne (by decide)]
        show _ = (if _ ∧ _ then _ else _)
        by_cases r : i = (fcA sv ns g S t).1
        · rw [if_pos ⟨q2, r⟩, r, pset_eq]
        · rw [if_neg (fun z => r z.2), pset_ne2 r]
          exact hr.2.2.2.2 i
theorem m_findClumps {d : Nat} (hd : 2 ≤ d) (hM : gM gAll M) (h : FCx M S T sv) (hns : ns < 2147483648) (hg : g < 1024) : ∃ M', xF d 200 [.inr 62, .inl (ns : Int), .inl (g : Int)] M = rV M' ∧ FCr sv ns g S T M T M' := by
  obtain ⟨D, rfl, hD⟩ := dsucc hd
  rw [T_M_findClumps]
  have f0 : Fr FCw M (pset M 60 30 0) := Fr_set Fr_rfl (by decide)
  exact m_fc7 hD h hns hg T 0 (pset M 60 30 0) (by omega) ⟨gM_f hM (lo := 0) (hi := 10) (by decide +kernel) (by omega) (by omega), f0, pset_eq, fun o _ => pset_ne (by decide), fun i => pset_ne (by decide)⟩ (.inr 0) (.inr 0) (.inr 0)
end FCM
