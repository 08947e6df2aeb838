/-! queue of the reference -/
theorem cntTo_lt {f g : Nat → Bool} (h : ∀ i, f i = true → g i = true) {c : Nat} (h1 : f c = false) (h2 : g c = true) : ∀ n, (cntTo f n ≤ cntTo g n) ∧ (c < n → cntTo f n + 1 ≤ cntTo g n)
  | 0 => ⟨Nat.le_refl _, fun z => by omega⟩
  | n + 1 => by
    obtain ⟨i1, i2⟩ := cntTo_lt h h1 h2 n
    unfold cntTo
    by_cases q : f n = true
    · rw [if_pos q, if_pos (h n q)]
      refine ⟨by omega, fun z => ?_⟩
      have : c ≠ n := fun y => by rw [y, q] at h1; cases h1
      have := i2 (by omega)
      omega
    · rw [if_neg q]
      by_cases q2 : c = n
      · rw [if_pos (by rw [← q2]; exact h2)]
        exact ⟨by omega, fun _ => by omega⟩
      · refine ⟨by split <;> omega, fun z => ?_⟩
        have := i2 (by omega)
        split <;> omega
theorem popc_or {s c : Nat} (hc : c < 10) (h : s.testBit c = false) : popc s + 1 ≤ popc (s ||| 2 ^ c) := (cntTo_lt (f := s.testBit) (g := (s ||| 2 ^ c).testBit) (fun i hi => by rw [Nat.testBit_or, hi]; rfl) h (by rw [Nat.testBit_or, Nat.testBit_two_pow_self, Bool.or_true]) 10).2 hc
theorem or_bit {s c : Nat} (hc : c < 10) (hs : s < 1024) : s ||| 2 ^ c < 1024 := Nat.or_lt_two_pow (n := 10) hs (Nat.pow_lt_pow_right (by decide) hc)
theorem or_gt {s c : Nat} (h : s.testBit c = false) : s < s ||| 2 ^ c := by
  have h1 : s ≤ s ||| 2 ^ c := Nat.left_le_or
  have h2 : s ≠ s ||| 2 ^ c := fun e => by
    have : (s ||| 2 ^ c).testBit c = true := by rw [Nat.testBit_or, Nat.testBit_two_pow_self, Bool.or_true]
    rw [← e, h] at this; cases this
  omega
theorem nan_sub {s x : Nat} (h : nan s x = 0) {i : Nat} (hi : s.testBit i = true) : x.testBit i = true := by
  have e := nan_bit s x i
  rw [h, Nat.zero_testBit, hi] at e
  cases q : x.testBit i with
  | true => rfl
  | false => rw [q] at e; cases e
theorem nan_or {s x c : Nat} (h : nan s x = 0) (hc : x.testBit c = true) : nan (s ||| 2 ^ c) x = 0 := Nat.eq_of_testBit_eq fun i => by
  rw [nan_bit, Nat.zero_testBit, Nat.testBit_or]
  cases q : x.testBit i with
  | true => rw [Bool.not_true, Bool.and_false]
  | false =>
    have h1 : s.testBit i = false := by
      cases z : s.testBit i with
      | false => rfl
      | true => rw [nan_sub h z] at q; cases q
    have h2 : (2 ^ c).testBit i = false := by
      rw [Nat.testBit_two_pow]
      exact decide_eq_false (fun z => by rw [← z, hc] at q; cases q)
    rw [h1, h2]; rfl
theorem nan_le2 {s x : Nat} (h : nan s x = 0) : s ≤ x := by
  have e : s = s &&& x := Nat.eq_of_testBit_eq fun i => by
    rw [Nat.testBit_and]
    cases z : s.testBit i with
    | false => rfl
    | true => rw [nan_sub h z]; rfl
  rw [e]; exact Nat.and_le_right
section QU
variable {D d S T R C : Nat} {sv : Nat → Nat} {N M M' : pM} {x1 : Nat}
theorem m_lawful_78 (hd : 3 ≤ d) (h : FCx M S T sv) (h0 : M 60 0 = (R : Int)) (hR : R ≤ 6) : xF d 212 [.inr 62, .inr 80] M = rI (if lwB M (M 78) S T R sv then 1 else 0) M := by
  obtain ⟨D, rfl, hD⟩ := dsucc hd
  rw [T_M_isLawful_78, m_parted_78 (by omega) h, pbI_rI]
  unfold lwB
  by_cases q : bitsOf (fun s => pdF (M 78) (sv s) T) S = 0
  · rw [if_neg (fun z => (bits_ne (by have := h.2.1; omega)).mp z q), m_full_78 (by omega) h.2.2.1 h.2.2.2.1 h0 hR, pbI_rI, q]
    by_cases q2 : bitsOf (fun r => decide (¬ le32 0 (frF M (M 78) r T))) R = 0
    · rw [if_neg (fun z => (bits_ne (by omega)).mp z q2), q2]; rfl
    · rw [if_pos ((bits_ne (by omega)).mpr q2), if_neg (by rw [Bool.and_eq_true]; exact fun z => q2 (eq_of_beq z.2))]
  · rw [if_pos ((bits_ne (by have := h.2.1; omega)).mpr q), if_neg (by rw [Bool.and_eq_true]; exact fun z => q (eq_of_beq z.1))]
theorem frF_congr {p : Nat → Int} {r : Int} (h1 : M 61 = N 61) (h3 : M 63 = N 63) : ∀ k, frF M p r k = frF N p r k
  | 0 => by unfold frF; rw [h1]
  | k + 1 => by unfold frF; rw [frF_congr h1 h3 k, h3]
theorem lwB_congr {p : Nat → Int} (h1 : M 61 = N 61) (h3 : M 63 = N 63) : lwB M p S T R sv = lwB N p S T R sv := by
  unfold lwB
  rw [show (fun r : Nat => decide (¬ le32 0 (frF M p r T))) = fun r : Nat => decide (¬ le32 0 (frF N p r T)) from funext fun r => by rw [frF_congr h1 h3]]
def QF (T : Nat) (N M : pM) : Prop := ∀ o i, o ≠ 82 → ¬ (o = 60 ∧ i = 16) → o ≠ 69 → ¬ (o = 78 ∧ i < T) → M o i = N o i
def qP (N : pM) (T s : Nat) : Nat → Int := fun i => if i < T then (if s.testBit (N 72 i).toNat then N 81 i else N 66 i) else N 78 i
noncomputable def LW (N : pM) (S T R : Nat) (sv : Nat → Nat) (s : Nat) : Bool := lwB N (qP N T s) S T R sv
theorem m_with (hd : 4 ≤ d) (hF : FCx N S T sv) (h0 : N 60 0 = (R : Int)) (hR : R ≤ 6) (hq : QF T N M) (hM : gM gAll M) {s : Nat} (hs : s < 1024) : ∃ M', xF d 258 [.inr 62, .inl (s : Int)] M = rI (if LW N S T R sv s then 1 else 0) M' ∧ gM gAll M' ∧ ∀ o i, ¬ (o = 78 ∧ i < T) → M' o i = M o i := by
  obtain ⟨D, rfl, hD⟩ := dsucc hd
  obtain ⟨f1, f2, f3, f4, f5, f6⟩ := hF
  have key : ∀ (m t : Nat) (M1 : pM), t + m = T → gM gAll M1 → (∀ o i, ¬ (o = 78 ∧ i < T) → M1 o i = M o i) → (∀ i, i < t → M1 78 i = qP N T s i) → ∃ M', xE D 258 2 [.inr 62, .inl (s : Int), .inl (t : Int)] [] M1 = rI (if LW N S T R sv s then 1 else 0) M' ∧ gM gAll M' ∧ ∀ o i, ¬ (o = 78 ∧ i < T) → M' o i = M o i := by
    intro m
    induction m with
    | zero =>
      intro t M1 ht g f e78
      have A : ∀ o i, o ≠ 82 → ¬ (o = 60 ∧ i = 16) → o ≠ 69 → o ≠ 78 → M1 o i = N o i := fun o i a b c e => (f o i (fun z => e z.1)).trans (hq o i a b c (fun z => e z.1))
      have X : FCx M1 S T sv := ⟨(A 60 8 (by decide) (by decide) (by decide) (by decide)).trans f1, f2, (A 60 3 (by decide) (by decide) (by decide) (by decide)).trans f3, f4, fun k hk => (A 67 k (by decide) (by omega) (by decide) (by decide)).trans (f5 k hk), f6⟩
      have e : M1 78 = qP N T s := funext fun i => by
        by_cases q : i < T
        · exact e78 i (by omega)
        · rw [f 78 i (fun z => q z.2), hq 78 i (by decide) (by omega) (by decide) (fun z => q z.2)]
          unfold qP
          rw [if_neg q]
      have eL : lwB M1 (M1 78) S T R sv = LW N S T R sv s := by
        rw [e]
        exact lwB_congr (funext fun i => A 61 i (by decide) (by omega) (by decide) (by decide)) (funext fun i => A 63 i (by decide) (by omega) (by decide) (by decide))
      rw [L_M_isLawfulWith_2, X.2.2.1, if_pos (by rw [le32_iff] <;> omega), m_lawful_78 (by omega) X ((A 60 0 (by decide) (by decide) (by decide) (by decide)).trans h0) hR, pbI_rI, eL]
      refine ⟨M1, ?_, g, f⟩
      rw [if_pos]
      cases LW N S T R sv s
      · exact Or.inl rfl
      · exact Or.inr rfl
    | succ m ih =>
      intro t M1 ht g f e78
      have A : ∀ o i, o ≠ 82 → ¬ (o = 60 ∧ i = 16) → o ≠ 69 → o ≠ 78 → M1 o i = N o i := fun o i a b c e => (f o i (fun z => e z.1)).trans (hq o i a b c (fun z => e z.1))
      have b72 := gm_r g (o := 72) (lo := 0) (hi := 9) (by decide +kernel) (by decide +kernel) (k := t) (show t < 10 by omega)
      have b66 := gm_r g (o := 66) (lo := 0) (hi := 5) (by decide +kernel) (by decide +kernel) (k := t) (show t < 10 by omega)
      have b81 := gm_r g (o := 81) (lo := 0) (hi := 5) (by decide +kernel) (by decide +kernel) (k := t) (show t < 10 by omega)
      have k72 := A 72 t (by decide) (by omega) (by decide) (by decide)
      have k66 := A 66 t (by decide) (by omega) (by decide) (by decide)
      have k81 := A 81 t (by decide) (by omega) (by decide) (by decide)
      obtain ⟨c, hc⟩ := natI b72.1
      have i1 : (0 : Int) ≤ (t : Int) ∧ (t : Int) < 10 := by omega
      have eq : qP N T s t = if s.testBit c then M1 81 t else M1 66 t := by
        unfold qP
        rw [if_pos (by omega), ← k72, hc, k81, k66, Int.toNat_natCast]
      rw [L_M_isLawfulWith_2, A 60 3 (by decide) (by decide) (by decide) (by decide), f3, if_neg (by rw [le32_iff] <;> omega), if_pos i1, Int.toNat_natCast, hc, m_has (by omega) (by omega) (by omega), pbI_rI, show ((t : Int) + 1) = ((t + 1 : Nat) : Int) by omega]
      by_cases q : s.testBit c = true
      · rw [if_pos q, if_neg (by decide), if_pos i1, if_pos i1]
        rw [if_pos q] at eq
        refine ih (t + 1) _ (by omega) (gM_r g (lo := -1) (hi := 5) (by decide +kernel) (by decide +kernel) (by omega) b81.2) (fun o i ho => ?_) (fun i hi => ?_)
        · rw [← f o i ho]; exact if_neg (fun z => ho ⟨z.1, by omega⟩)
        · by_cases qi : i = t
          · rw [qi, pset_eq, eq]
          · rw [pset_ne2 qi]; exact e78 i (by omega)
      · rw [if_neg q, if_pos rfl, if_pos i1, if_pos i1]
        rw [if_neg q] at eq
        refine ih (t + 1) _ (by omega) (gM_r g (lo := -1) (hi := 5) (by decide +kernel) (by decide +kernel) (by omega) b66.2) (fun o i ho => ?_) (fun i hi => ?_)
        · rw [← f o i ho]; exact if_neg (fun z => ho ⟨z.1, by omega⟩)
        · by_cases qi : i = t
          · rw [qi, pset_eq, eq]
          · rw [pset_ne2 qi]; exact e78 i (by omega)
  rw [T_M_isLawfulWith]
  exact key T 0 M (by omega) hM (fun o i _ => rfl) (fun i hi => by omega)
def CCs (N M : pM) (S T R : Nat) (sv : Nat → Nat) (x1 s : Nat) : Prop := M 82 s = 0 ∨ s = x1 ∨ ∃ c, c < 10 ∧ x1.testBit c = true ∧ s.testBit c = false ∧ M 82 (s ||| 2 ^ c) ≠ 0 ∧ LW N S T R sv (s ||| 2 ^ c) = true
theorem CCs_set {s s' : Nat} {v : Int} (h : CCs N M S T R sv x1 s') (hs : s < s') : CCs N (pset M 82 s v) S T R sv x1 s' := by
  rcases h with h | h | ⟨c, h1, h2, h3, h4, h5⟩
  · exact Or.inl (by rw [pset_ne2 (by omega)]; exact h)
  · exact Or.inr (Or.inl h)
  · have := or_gt h3
    exact Or.inr (Or.inr ⟨c, h1, h2, h3, by rw [pset_ne2 (by omega)]; exact h4, h5⟩)
theorem CCs_congr {s' : Nat} (h : CCs N M S T R sv x1 s') (e : ∀ i, M' 82 i = M 82 i) : CCs N M' S T R sv x1 s' := by
  rcases h with h | h | ⟨c, h1, h2, h3, h4, h5⟩
  · exact Or.inl (by rw [e]; exact h)
  · exact Or.inr (Or.inl h)
  · exact Or.inr (Or.inr ⟨c, h1, h2, h3, by rw [e]; exact h4, h5⟩)
theorem QF_82 {s : Nat} {v : Int} (h : QF T N M) : QF T N (pset M 82 s v) := fun o i a b c e => by rw [pset_ne a]; exact h o i a b c e
theorem QF_tr (h : QF T N M) (f : ∀ o i, ¬ (o = 78 ∧ i < T) → M' o i = M o i) : QF T N M' := fun o i a b c e => (f o i e).trans (h o i a b c e)
theorem m_q89 (hD : 4 ≤ D) (hF : FCx N S T sv) (h0 : N 60 0 = (R : Int)) (hR : R ≤ 6) (hC : N 60 30 = (C : Int)) (hC2 : C ≤ 10) (hx : x1 < 1024) {s : Nat} (hs : s < 1024) : ∀ (m x : Nat) (M : pM), x + m = C → gM gAll M → QF T N M → (∀ s', s < s' → s' < 1024 → nan s' x1 = 0 → CCs N M S T R sv x1 s') → CCs N M S T R sv x1 s → ∃ y M', xE D 259 89 [.inr 62, .inl (x1 : Int), .inl (s : Int), .inl (x : Int)] [] M = xE D 259 68 [.inr 62, .inl (x1 : Int), .inl ((s : Int) + (-1)), y] [] M' ∧ gM gAll M' ∧ QF T N M' ∧ ∀ s', s ≤ s' → s' < 1024 → nan s' x1 = 0 → CCs N M' S T R sv x1 s' := by
  have i1 : (0 : Int) ≤ (s : Int) ∧ (s : Int) < 1024 := by omega
  have all : ∀ M : pM, (∀ s', s < s' → s' < 1024 → nan s' x1 = 0 → CCs N M S T R sv x1 s') → CCs N M S T R sv x1 s → ∀ s', s ≤ s' → s' < 1024 → nan s' x1 = 0 → CCs N M S T R sv x1 s' := fun M h1 h2 s' a b c => by
    by_cases q : s' = s
    · rw [q]; exact h2
    · exact h1 s' (by omega) b c
  have g82 : ∀ {M : pM} {v : Int}, gM gAll M → 0 ≤ v → v ≤ 1 → gM gAll (pset M 82 s v) := fun g a b => gM_r g (lo := 0) (hi := 1) (by decide +kernel) (by decide +kernel) a b
  intro m
  induction m with
  | zero =>
    intro x M hm g hq h1 h2
    rw [L_M_queue_89, hq 60 30 (by decide) (by decide) (by decide) (by omega), hC, if_pos (by rw [le32_iff] <;> omega)]
    exact ⟨_, M, rfl, g, hq, all M h1 h2⟩
  | succ m ih =>
    intro x M hm g hq h1 h2
    have b82 := gm_r g (o := 82) (lo := 0) (hi := 1) (by decide +kernel) (by decide +kernel) (k := s) (show s < 1024 from hs)
    have hp : 2 ^ x < 2147483648 := Nat.lt_of_lt_of_le (Nat.pow_lt_pow_right (by decide) (show x < 31 by omega)) (Nat.le_refl (2 ^ 31))
    have hn := nan_le x1 s
    rw [L_M_queue_89, hq 60 30 (by decide) (by decide) (by decide) (by omega), hC, if_neg (by rw [le32_iff] <;> omega), if_pos i1, Int.toNat_natCast]
    by_cases q : eq32 (M 82 s) 0
    · rw [if_neg (fun z => z q), jxor_m1 (by omega), jand_not (by omega) (by omega), m_has (by omega) (by omega) (by omega), pbI_rI, jshl_one x (by omega), jor_nat (by omega) hp, show ((x : Int) + 1) = ((x + 1 : Nat) : Int) by omega]
      have no : ∃ y M', xE D 259 89 [.inr 62, .inl (x1 : Int), .inl (s : Int), .inl ((x + 1 : Nat) : Int)] [] (pset M 82 s 0) = xE D 259 68 [.inr 62, .inl (x1 : Int), .inl ((s : Int) + (-1)), y] [] M' ∧ gM gAll M' ∧ QF T N M' ∧ ∀ s', s ≤ s' → s' < 1024 → nan s' x1 = 0 → CCs N M' S T R sv x1 s' := ih (x + 1) _ (by omega) (g82 g (by decide) (by decide)) (QF_82 hq) (fun s' a b c => CCs_set (h1 s' a b c) a) (Or.inl pset_eq)
      by_cases q2 : (nan x1 s).testBit x = true
      · have q3 : x1.testBit x = true ∧ s.testBit x = false := by
          rw [nan_bit, Bool.and_eq_true] at q2
          exact ⟨q2.1, by rw [← Bool.not_eq_true']; exact q2.2⟩
        have o1 := or_bit (c := x) (by omega) hs
        have o2 := or_gt q3.2
        rw [if_pos q2, if_neg (by decide), if_pos (by omega), Int.toNat_natCast]
        by_cases q4 : eq32 (M 82 (s ||| 2 ^ x)) 0
        · rw [if_pos q4]; rw [if_pos i1]; exact no
        · obtain ⟨M3, e3, g3, f3⟩ := m_with (d := D) hD hF h0 hR hq g o1
          have k82 : ∀ i, M3 82 i = M 82 i := fun i => f3 82 i (by omega)
          rw [if_neg q4, e3, pbI_rI]
          by_cases q5 : LW N S T R sv (s ||| 2 ^ x) = true
          · rw [if_pos q5, if_neg (by decide), if_pos i1]
            refine ih (x + 1) _ (by omega) (g82 g3 (by decide) (by decide)) (QF_82 (QF_tr hq f3)) (fun s' a b c => CCs_set (CCs_congr (h1 s' a b c) k82) a) (Or.inr (Or.inr ⟨x, by omega, q3.1, q3.2, ?_, q5⟩))
            rw [pset_ne2 (by omega), k82]
            exact fun z => q4 (by rw [z])
          · rw [if_neg q5, if_pos rfl, if_pos i1]
            exact ih (x + 1) _ (by omega) (g82 g3 (by decide) (by decide)) (QF_82 (QF_tr hq f3)) (fun s' a b c => CCs_set (CCs_congr (h1 s' a b c) k82) a) (Or.inl pset_eq)
      · rw [if_neg q2, if_pos rfl, if_pos i1]
        exact no
    · rw [if_pos q]
      exact ⟨_, M, rfl, g, hq, all M h1 h2⟩
/-- the first step of a way that stands -/
theorem m_q151 (hD : 4 ≤ D) (hF : FCx N S T sv) (h0 : N 60 0 = (R : Int)) (hR : R ≤ 6) (hx : x1 < 1024) {s k : Nat} (hs : s < 1024) (hk : k < 16) {c : Nat} (hc : c < 10) (c1 : x1.testBit c = true) (c2 : s.testBit c = false) (c5 : LW N S T R sv (s ||| 2 ^ c) = true) : ∀ (m x : Nat) (M : pM), x + m = c → gM gAll M → QF T N M → M 60 16 = (k : Int) → M 82 (s ||| 2 ^ c) ≠ 0 → ∃ (c' : Nat) (M' : pM), xE D 259 151 [.inr 62, .inl (x1 : Int), .inl (s : Int), .inl (x : Int)] [] M = xE D 259 146 [.inr 62, .inl (x1 : Int), .inl ((s ||| 2 ^ c' : Nat) : Int), .inl (c' : Int)] [] M' ∧ c' < 10 ∧ x1.testBit c' = true ∧ s.testBit c' = false ∧ M' 82 (s ||| 2 ^ c') ≠ 0 ∧ gM gAll M' ∧ QF T N M' ∧ (∀ i, M' 82 i = M 82 i) ∧ M' 60 16 = ((k + 1 : Nat) : Int) := by
  intro m
  induction m with
  | zero =>
    intro x M hm g hq h16 h82
    obtain rfl : x = c := by omega
    have hp : 2 ^ x < 2147483648 := Nat.lt_of_lt_of_le (Nat.pow_lt_pow_right (by decide) (show x < 31 by omega)) (Nat.le_refl (2 ^ 31))
    have hn := nan_le x1 s
    have o1 := or_bit (c := x) (by omega) hs
    have b82 := gm_r g (o := 82) (lo := 0) (hi := 1) (by decide +kernel) (by decide +kernel) (k := s ||| 2 ^ x) (show s ||| 2 ^ x < 1024 from o1)
    obtain ⟨M3, e3, g3, f3⟩ := m_with (d := D) hD hF h0 hR hq g o1
    have k82 : ∀ i, M3 82 i = M 82 i := fun i => f3 82 i (by omega)
    obtain ⟨M5, e5, g5, f5, k5⟩ := m_tellS (D := D) (M := M3) (n := k) (by omega) hk ((f3 60 16 (by omega)).trans h16) g3 (x : Int)
    rw [L_M_queue_151, jxor_m1 (by omega), jand_not (by omega) (by omega), m_has (by omega) (by omega) (by omega), pbI_rI, jshl_one x (by omega), jor_nat (by omega) hp, if_pos (show (nan x1 s).testBit x = true by rw [nan_bit, c1, c2]; rfl), if_neg (by decide), if_pos (by omega), Int.toNat_natCast, if_neg (by rw [eq32_iff] <;> omega), e3, pbI_rI, if_pos c5, if_pos (by decide), e5, pbN_rV]
    refine ⟨x, M5, rfl, hc, c1, c2, by rw [f5 82 _ (wOK_no (by decide) _), k82]; exact h82, g5, fun o i a b e h => ?_, fun i => by rw [f5 82 i (wOK_no (by decide) i), k82], k5⟩
    rw [f5 o i ?_]
    · exact QF_tr hq f3 o i a b e h
    · cases z : wOK [(60, 16), (69, 999)] o i with
      | false => rfl
      | true =>
        obtain ⟨w, hw, h2⟩ := List.any_eq_true.mp z
        rw [Bool.and_eq_true, Bool.or_eq_true] at h2
        simp only [List.mem_cons, List.not_mem_nil, or_false] at hw
        rcases hw with rfl | rfl
        · have e1 : 60 = o := Nat.eq_of_beq_eq_true h2.1
          rcases h2.2 with h3 | h3
          · exact absurd ⟨e1.symm, (Nat.eq_of_beq_eq_true h3).symm⟩ b
          · cases h3
        · exact absurd (Nat.eq_of_beq_eq_true h2.1).symm e
  | succ m ih =>
    intro x M hm g hq h16 h82
    have hp : 2 ^ x < 2147483648 := Nat.lt_of_lt_of_le (Nat.pow_lt_pow_right (by decide) (show x < 31 by omega)) (Nat.le_refl (2 ^ 31))
    have hn := nan_le x1 s
    have o1 := or_bit (c := x) (by omega) hs
    have b82 := gm_r g (o := 82) (lo := 0) (hi := 1) (by decide +kernel) (by decide +kernel) (k := s ||| 2 ^ x) (show s ||| 2 ^ x < 1024 from o1)
    rw [L_M_queue_151, jxor_m1 (by omega), jand_not (by omega) (by omega), m_has (by omega) (by omega) (by omega), pbI_rI, jshl_one x (by omega), jor_nat (by omega) hp, show ((x : Int) + 1) = ((x + 1 : Nat) : Int) by omega]
    by_cases q2 : (nan x1 s).testBit x = true
    · have q3 : x1.testBit x = true ∧ s.testBit x = false := by
        rw [nan_bit, Bool.and_eq_true] at q2
        exact ⟨q2.1, by rw [← Bool.not_eq_true']; exact q2.2⟩
      rw [if_pos q2, if_neg (by decide), if_pos (by omega), Int.toNat_natCast]
      by_cases q4 : eq32 (M 82 (s ||| 2 ^ x)) 0
      · rw [if_pos q4]; exact ih (x + 1) M (by omega) g hq h16 h82
      · obtain ⟨M3, e3, g3, f3⟩ := m_with (d := D) hD hF h0 hR hq g o1
        have k82 : ∀ i, M3 82 i = M 82 i := fun i => f3 82 i (by omega)
        rw [if_neg q4, e3, pbI_rI]
        by_cases q5 : LW N S T R sv (s ||| 2 ^ x) = true
        · obtain ⟨M5, e5, g5, f5, k5⟩ := m_tellS (D := D) (M := M3) (n := k) (by omega) hk ((f3 60 16 (by omega)).trans h16) g3 (x : Int)
          rw [if_pos q5, if_pos (by decide), e5, pbN_rV]
          refine ⟨x, M5, rfl, by omega, q3.1, q3.2, by rw [f5 82 _ (wOK_no (by decide) _), k82]; exact fun z => q4 (by rw [z]), g5, fun o i a b e h => ?_, fun i => by rw [f5 82 i (wOK_no (by decide) i), k82], k5⟩
          rw [f5 o i ?_]
          · exact QF_tr hq f3 o i a b e h
          · cases z : wOK [(60, 16), (69, 999)] o i with
            | false => rfl
            | true =>
              obtain ⟨w, hw, h2⟩ := List.any_eq_true.mp z
              rw [Bool.and_eq_true, Bool.or_eq_true] at h2
              simp only [List.mem_cons, List.not_mem_nil, or_false] at hw
              rcases hw with rfl | rfl
              · have e1 : 60 = o := Nat.eq_of_beq_eq_true h2.1
                rcases h2.2 with h3 | h3
                · exact absurd ⟨e1.symm, (Nat.eq_of_beq_eq_true h3).symm⟩ b
                · cases h3
              · exact absurd (Nat.eq_of_beq_eq_true h2.1).symm e
        · rw [if_neg q5, if_neg (fun z => z rfl)]
          obtain ⟨c', M', r1, r2, r3, r4, r5, r6, r7, r8, r9⟩ := ih (x + 1) M3 (by omega) g3 (QF_tr hq f3) ((f3 60 16 (by omega)).trans h16) (by rw [k82]; exact h82)
          exact ⟨c', M', r1, r2, r3, r4, r5, r6, r7, fun i => (r8 i).trans (k82 i), r9⟩
    · rw [if_neg q2, if_pos rfl]
      exact ih (x + 1) M (by omega) g hq h16 h82
theorem m_q146 (hD : 4 ≤ D) (hF : FCx N S T sv) (h0 : N 60 0 = (R : Int)) (hR : R ≤ 6) (hx : x1 < 1024) : ∀ (m s k : Nat) (y : pV) (M : pM), x1 ≤ s + m → s < 1024 → nan s x1 = 0 → gM gAll M → QF T N M → M 60 16 = (k : Int) → k ≤ popc s → M 82 s ≠ 0 → (∀ s', s' < 1024 → nan s' x1 = 0 → CCs N M S T R sv x1 s') → ∃ z M', xE D 259 146 [.inr 62, .inl (x1 : Int), .inl (s : Int), y] [] M = rI z M' ∧ gM gAll M' ∧ QF T N M' := by
  have fin : ∀ (s : Nat) (y : pV) (M : pM), s = x1 → gM gAll M → QF T N M → ∃ z M', xE D 259 146 [.inr 62, .inl (x1 : Int), .inl (s : Int), y] [] M = rI z M' ∧ gM gAll M' ∧ QF T N M' := fun s y M hs g hq => by
    rw [L_M_queue_146, if_pos (by rw [hs]), j_bitCount (by omega) hx, pbI_rI]
    exact ⟨_, M, rfl, g, hq⟩
  intro m
  induction m with
  | zero =>
    intro s k y M hm hs hn g hq h16 hk h82 hcc
    exact fin s y M (by have := nan_le2 hn; omega) g hq
  | succ m ih =>
    intro s k y M hm hs hn g hq h16 hk h82 hcc
    by_cases q : s = x1
    · exact fin s y M q g hq
    · have hp := popc_le s
      rcases hcc s hs hn with h | h | ⟨c, d1, d2, d3, d4, d5⟩
      · exact absurd h h82
      · exact absurd h q
      · rw [L_M_queue_146, if_neg (by rw [eq32_iff] <;> omega)]
        obtain ⟨c', M', r1, r2, r3, r4, r5, r6, r7, r8, r9⟩ := m_q151 (k := k) hD hF h0 hR hx hs (by omega) d1 d2 d3 d5 c 0 M (by omega) g hq h16 d4
        have o2 := or_gt r4
        have o3 := popc_or r2 r4
        rw [show (.inl 0 : pV) = .inl ((0 : Nat) : Int) from rfl, r1]
        exact ih (s ||| 2 ^ c') (k + 1) _ M' (by omega) (or_bit r2 hs) (nan_or hn r3) r6 r7 r9 (by omega) r5 (fun s' a b => CCs_congr (hcc s' a b) r8)
theorem m_q68 (hD : 4 ≤ D) (hF : FCx N S T sv) (h0 : N 60 0 = (R : Int)) (hR : R ≤ 6) (hC : N 60 30 = (C : Int)) (hC2 : C ≤ 10) (hx : x1 < 1024) : ∀ (lo : Nat) (y : pV) (M : pM), lo ≤ 1024 → gM gAll M → QF T N M → (∀ s, lo ≤ s → s < 1024 → nan s x1 = 0 → CCs N M S T R sv x1 s) → ∃ z M', xE D 259 68 [.inr 62, .inl (x1 : Int), .inl ((lo : Int) - 1), y] [] M = rI z M' ∧ gM gAll M' ∧ QF T N M' := by
  intro lo
  induction lo with
  | zero =>
    intro y M hlo g hq hcc
    have b82 := gm_r g (o := 82) (lo := 0) (hi := 1) (by decide +kernel) (by decide +kernel) (k := 0) (show 0 < 1024 by decide)
    rw [L_M_queue_68, if_pos (by decide)]
    by_cases q : eq32 (M 82 0) 0
    · rw [if_neg (fun z => z q)]
      exact ⟨_, M, rfl, g, hq⟩
    · rw [if_pos q, show (.inl 0 : pV) = .inl ((0 : Nat) : Int) from rfl]
      exact m_q146 hD hF h0 hR hx x1 0 0 y (pset M 60 16 0) (by omega) (by decide) (by unfold nan; rw [Nat.zero_and, Nat.zero_xor]) (gM_row0 g) (fun o i a b c e => by
        rw [← hq o i a b c e]; exact if_neg b) pset_eq (Nat.zero_le _) (by rw [pset_ne (by decide)]; exact fun z => q (by rw [z])) (fun s' a b => CCs_congr (hcc s' (Nat.zero_le _) a b) (fun i => pset_ne (by decide)))
  | succ lo ih =>
    intro y M hlo g hq hcc
    have hn := nan_le lo x1
    have e1 : (((lo + 1 : Nat) : Int) - 1) = (lo : Int) := by omega
    have e2 : ((lo : Int) + (-1)) = (lo : Int) - 1 := by omega
    rw [e1, L_M_queue_68, if_neg (by rw [lt32_iff] <;> omega), jxor_m1 (by omega), jand_not (by omega) (by omega)]
    have g82 : ∀ {M : pM} {v : Int}, gM gAll M → 0 ≤ v → v ≤ 1 → gM gAll (pset M 82 lo v) := fun g a b => gM_r g (lo := 0) (hi := 1) (by decide +kernel) (by decide +kernel) a b
    by_cases q : nan lo x1 = 0
    · rw [if_pos (by rw [q]; rfl), if_pos (show (0 : Int) ≤ (lo : Int) ∧ (lo : Int) < 1024 by omega), if_pos (show (0 : Int) ≤ (lo : Int) ∧ (lo : Int) < 1024 by omega), Int.toNat_natCast]
      have go : ∀ v : Int, 0 ≤ v → v ≤ 1 → (v = 0 ∨ lo = x1) → ∃ z M', xE D 259 89 [.inr 62, .inl (x1 : Int), .inl (lo : Int), .inl 0] [] (pset M 82 lo v) = rI z M' ∧ gM gAll M' ∧ QF T N M' := fun v v1 v2 v3 => by
        obtain ⟨y', M1, r1, r2, r3, r4⟩ := m_q89 hD hF h0 hR hC hC2 hx (s := lo) (by omega) C 0 (pset M 82 lo v) (by omega) (g82 g v1 v2) (QF_82 hq) (fun s' a b c => CCs_set (hcc s' (by omega) b c) a) (v3.elim (fun z => Or.inl (by rw [pset_eq]; exact z)) (fun z => Or.inr (Or.inl z)))
        rw [show (.inl 0 : pV) = .inl ((0 : Nat) : Int) from rfl, r1, e2]
        exact ih y' M1 (by omega) r2 r3 r4
      by_cases q2 : lo = x1
      · rw [if_neg (fun z => z (by rw [q2]))]; exact go 1 (by decide) (by decide) (Or.inr q2)
      · rw [if_pos (by rw [eq32_iff] <;> omega)]; exact go 0 (by decide) (by decide) (Or.inl rfl)
    · rw [if_neg (by rw [eq32_iff] <;> omega), e2]
      exact ih y M (by omega) g hq (fun s a b c => by
        by_cases qs : s = lo
        · rw [qs] at c; exact absurd c q
        · exact hcc s (by omega) b c)
theorem m_q40 (hD : 4 ≤ D) (hF : FCx N S T sv) (h0 : N 60 0 = (R : Int)) (hR : R ≤ 6) (hC : N 60 30 = (C : Int)) (hC2 : C ≤ 10) (hN : gM gAll N) : ∀ (m t x : Nat), t + m = T → x < 1024 → ∃ z M', xE D 259 40 [.inr 62, .inl (x : Int), .inl (t : Int), .inr 0] [] N = rI z M' ∧ gM gAll M' ∧ QF T N M' := by
  have h3 := hF.2.2.1
  have hT := hF.2.2.2.1
  intro m
  induction m with
  | zero =>
    intro t x ht hx
    rw [L_M_queue_40, h3, if_pos (by rw [le32_iff] <;> omega), show (.inl (x : Int) :: .inl (x : Int) :: [.inr 0] : List pV) = .inl (x : Int) :: .inl (((x + 1 : Nat) : Int) - 1) :: [.inr 0] by rw [show (((x + 1 : Nat) : Int) - 1) = (x : Int) by omega]]
    exact m_q68 hD hF h0 hR hC hC2 hx (x + 1) (.inr 0) N (by omega) hN (fun o i _ _ _ _ => rfl) (fun s a b c => by have := nan_le2 c; omega)
  | succ m ih =>
    intro t x ht hx
    have i1 : (0 : Int) ≤ (t : Int) ∧ (t : Int) < 10 := by omega
    have b72 := gm_r hN (o := 72) (lo := 0) (hi := 9) (by decide +kernel) (by decide +kernel) (k := t) (show t < 10 by omega)
    obtain ⟨c, hc⟩ := natI b72.1
    have hp : 2 ^ c < 2147483648 := Nat.lt_of_lt_of_le (Nat.pow_lt_pow_right (by decide) (show c < 31 by omega)) (Nat.le_refl (2 ^ 31))
    rw [L_M_queue_40, h3, if_neg (by rw [le32_iff] <;> omega), if_pos i1, if_pos i1, Int.toNat_natCast, show ((t : Int) + 1) = ((t + 1 : Nat) : Int) by omega]
    by_cases q : eq32 (N 66 t) (N 81 t)
    · rw [if_pos q, show jor (x : Int) 0 = ((x ||| 0 : Nat) : Int) from jor_nat (b := 0) (by omega) (by decide), Nat.or_zero]
      exact ih (t + 1) x (by omega) hx
    · rw [if_neg q, if_pos i1, hc, jshl_one c (by omega), jor_nat (by omega) hp]
      exact ih (t + 1) _ (by omega) (or_bit (by omega) hx)
def wQu : List (Nat × Nat) := [(60, 16), (60, 17), (60, 30), (69, 999), (72, 999), (73, 999), (74, 999), (78, 999), (82, 999)]
theorem r_queue {d : Nat} (hd : 5 ≤ d) (h : RI0 M) : okR d 259 [.inr 62] wQu M := by
  obtain ⟨D, rfl, hD⟩ := dsucc hd
  have ht := RI0_thr h
  have ft : Fr wQu M (pset M 60 17 0) := Fr_set Fr_rfl (by decide)
  unfold okR
  rw [T_M_queue]
  generalize pset M 60 17 0 = M1 at ht ft ⊢
  obtain ⟨z, M2, e2, g2, f2, -⟩ := u_hasAim (d := D) (by omega) ht.1
  have h2 : RI0 M2 := RI0_Fr g2 f2 (by decide) ht
  have F2 : Fr wQu M M2 := Fr_tr ft (Fr_mono f2 (by decide))
  rw [e2, pbI_rI]
  by_cases q : eq32 z 0
  · rw [if_neg (fun y => y q)]; exact ⟨_, M2, rfl, h2, F2⟩
  · have X := fcx_of g2
    rw [if_pos q, m_parted_81 (by omega) X, pbI_rI]
    split
    · exact ⟨_, M2, rfl, h2, F2⟩
    · rw [m_parted_66 (by omega) X, pbI_rI]
      split
      · obtain ⟨v, M3, e3, g3, f3, -⟩ := u_costA (d := D) (by omega) (a2 := 0) (a4 := 0) g2 (by decide) (by decide)
        have h3 : RI0 M3 := RI0_Fr g3 f3 (by decide) h2
        have F3 : Fr wQu M M3 := Fr_tr F2 (Fr_mono f3 (by decide))
        rw [e3, pbI_rI]
        split
        · obtain ⟨M4, e4, g4, f4, -⟩ := m_findClumps (d := D) (ns := 0) (g := 0) (by omega) g3 (fcx_of g3) (by decide) (by decide)
          have h4 : RI0 M4 := RI0_Fr g4 f4 (by decide) h3
          have F4 : Fr wQu M M4 := Fr_tr F3 (Fr_mono f4 (by decide))
          have b30 := gm_i g4 60 30 (lo := 0) (hi := 10) (by decide +kernel) (by decide +kernel)
          have b0 := gm_i g4 60 0 (lo := 0) (hi := 6) (by decide +kernel) (by decide +kernel)
          obtain ⟨C, hC⟩ := natI b30.1
          obtain ⟨R, hR⟩ := natI b0.1
          have e4' : xF D 200 [.inr 62, .inl 0, .inl 0] M3 = rV M4 := e4
          rw [e4', pbN_rV]
          obtain ⟨w, M5, e5, g5, q5⟩ := m_q40 (D := D) (R := R) (C := C) (by omega) (fcx_of g4) hR (by omega) hC (by omega) g4 (M4 60 3).toNat 0 0 (by omega) (by decide)
          have f5 : Fr wQu M4 M5 := fun o i ho => q5 o i (fun z => by rw [z, wOK_r (by decide)] at ho; cases ho) (fun z => by rw [z.1, z.2] at ho; exact absurd ho (by decide)) (fun z => by rw [z, wOK_r (by decide)] at ho; cases ho) (fun z => by rw [z.1, wOK_r (by decide)] at ho; cases ho)
          have e5' : xE D 259 40 [.inr 62, .inl 0, .inl 0, .inr 0] [] M4 = rI w M5 := e5
          rw [e5']
          exact ⟨_, M5, rfl, RI0_Fr g5 f5 (by decide) h4, Fr_tr F4 f5⟩
        · exact ⟨_, M3, rfl, h3, F3⟩
      · exact ⟨_, M2, rfl, h2, F2⟩
end QU
