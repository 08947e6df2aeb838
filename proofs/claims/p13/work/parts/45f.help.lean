/-! contracts by hand: what is known of a memory by its ranges -/
theorem gR0 {lo hi z : Int} {a : Nat} {b : Int} {c : Nat} (h : gR (0, lo, hi, a, b, c) z) : lo ≤ z ∧ z ≤ hi := by
  rcases h with h | h | h
  · exact h.2
  · exact absurd (show (0 : Nat) = 1 from h) (by decide)
  · exact absurd (show (0 : Nat) = 2 from h.1) (by decide)
theorem gm_i {M : pM} (h : gM gAll M) (o k : Nat) {lo hi : Int} (e : gAll o k = (0, lo, hi, 0, 0, 0)) (hk : k < pL o) : lo ≤ M o k ∧ M o k ≤ hi := gR0 (by rw [← e]; exact h o k hk)
theorem gAll_row {o : Nat} {v : aV} (e : gTab.getD o [] = [v]) (hK : Nat.ble 100 (pK o) = true) {k : Nat} (hk : k < 100000) : gAll o k = v := by
  have n1 : Nat.beq k 100000 = false := by
    cases q : Nat.beq k 100000
    · rfl
    · have := Nat.eq_of_beq_eq_true q; omega
  have n2 : Nat.beq k 100001 = false := by
    cases q : Nat.beq k 100001
    · rfl
    · have := Nat.eq_of_beq_eq_true q; omega
  unfold gAll
  rw [hK, n1, n2]
  show (gTab.getD o []).getD (k % (gTab.getD o []).length) eT = v
  rw [e]
  show [v].getD (k % 1) eT = v
  rw [Nat.mod_one]; rfl
theorem gm_r {M : pM} (h : gM gAll M) {o : Nat} {lo hi : Int} (e : gTab.getD o [] = [(0, lo, hi, 0, 0, 0)]) (hK : Nat.ble 100 (pK o) = true) {k : Nat} (hk : k < pL o) : lo ≤ M o k ∧ M o k ≤ hi := gR0 (by rw [← gAll_row e hK (Nat.lt_of_lt_of_le hk (pL_le _))]; exact h o k hk)
theorem natI {z : Int} (h : 0 ≤ z) : ∃ n : Nat, z = (n : Int) := ⟨z.toNat, (Int.toNat_of_nonneg h).symm⟩
theorem gMs_set {M : pM} (h : gM gAll M) {o i : Nat} {v : Int} (hv : gR (gAll o i) v) : gM gAll (pset M o i v) := by
  intro o' k hk
  unfold pset
  split
  · rename_i e; rw [e.1, e.2]; exact hv
  · exact h o' k hk
theorem gM_f {M : pM} (h : gM gAll M) {o i : Nat} {v lo hi : Int} (e : gAll o i = (0, lo, hi, 0, 0, 0)) (h1 : lo ≤ v) (h2 : v ≤ hi) : gM gAll (pset M o i v) := gMs_set h (by rw [e]; exact Or.inl ⟨rfl, h1, h2⟩)
theorem gM_r {M : pM} (h : gM gAll M) {o i : Nat} {v lo hi : Int} (e : gTab.getD o [] = [(0, lo, hi, 0, 0, 0)]) (hK : Nat.ble 100 (pK o) = true) (h1 : lo ≤ v) (h2 : v ≤ hi) : gM gAll (pset M o i v) := by
  intro o' k hk
  unfold pset
  split
  · rename_i q
    obtain ⟨rfl, rfl⟩ := q
    rw [gAll_row e hK (Nat.lt_of_lt_of_le hk (pL_le _))]
    exact Or.inl ⟨rfl, h1, h2⟩
  · exact h o' k hk
theorem gM_r1 {M : pM} (h : gM gAll M) {o i : Nat} {v : Int} (e : gTab.getD o [] = [(1, 0, 0, 0, 0, 0)]) (hK : Nat.ble 100 (pK o) = true) : gM gAll (pset M o i v) := by
  intro o' k hk
  unfold pset
  split
  · rename_i q
    obtain ⟨rfl, rfl⟩ := q
    rw [gAll_row e hK (Nat.lt_of_lt_of_le hk (pL_le _))]
    exact Or.inr (Or.inl rfl)
  · exact h o' k hk
theorem Fr_set {w : List (Nat × Nat)} {M M' : pM} (h : Fr w M M') {o i : Nat} {v : Int} (hw : wOK w o i = true) : Fr w M (pset M' o i v) := by
  intro o' k q
  unfold pset
  split
  · rename_i e; rw [e.1, e.2, hw] at q; cases q
  · exact h o' k q
theorem wOK_r {w : List (Nat × Nat)} {o : Nat} (h : (o, 999) ∈ w) (i : Nat) : wOK w o i = true := List.any_eq_true.mpr ⟨(o, 999), h, by
  show (Nat.beq o o && (Nat.beq 999 i || Nat.beq 999 999)) = true
  rw [Nat.beq_refl]
  cases Nat.beq 999 i <;> rfl⟩
theorem wOK_p {w : List (Nat × Nat)} {o i : Nat} (h : (o, i) ∈ w) : wOK w o i = true := List.any_eq_true.mpr ⟨(o, i), h, by
  show (Nat.beq o o && (Nat.beq i i || Nat.beq i 999)) = true
  rw [Nat.beq_refl, Nat.beq_refl]; rfl⟩
theorem Fr_mono {w w' : List (Nat × Nat)} {M M' : pM} (h : Fr w M M') (hw : ∀ q, q ∈ w → q ∈ w') : Fr w' M M' := fun o k q => h o k (by
  cases e : wOK w o k with
  | false => rfl
  | true =>
    obtain ⟨x, hx, hy⟩ := List.any_eq_true.mp e
    have : wOK w' o k = true := List.any_eq_true.mpr ⟨x, hw x hx, hy⟩
    rw [this] at q; cases q)
/-! the things that hang together: the reference's findClumps -/
/-- one round through k sets -/
def fcP (sv : Nat → Nat) (ns g b : Nat) : Nat → Nat
  | 0 => b
  | k + 1 => if ns.testBit k = true ∨ sv k &&& fcP sv ns g b k = 0 then fcP sv ns g b k else fcP sv ns g b k ||| nan (sv k) g
theorem fcP_ge {sv : Nat → Nat} {ns g b : Nat} : ∀ k, b ≤ fcP sv ns g b k
  | 0 => Nat.le_refl b
  | k + 1 => by
    unfold fcP
    split
    · exact fcP_ge k
    · exact Nat.le_trans (fcP_ge k) Nat.left_le_or
theorem fcP_lt {sv : Nat → Nat} {ns g b S : Nat} (hs : ∀ k, k < S → sv k < 1024) (hb : b < 1024) : ∀ k, k ≤ S → fcP sv ns g b k < 1024
  | 0, _ => hb
  | k + 1, h => by
    unfold fcP
    split
    · exact fcP_lt hs hb k (by omega)
    · exact Nat.or_lt_two_pow (n := 10) (fcP_lt hs hb k (by omega)) (Nat.lt_of_le_of_lt (nan_le _ _) (hs k (by omega)))
theorem fcP_bit {sv : Nat → Nat} {ns g b i : Nat} (h : b.testBit i = true) : ∀ k, (fcP sv ns g b k).testBit i = true
  | 0 => h
  | k + 1 => by
    unfold fcP
    split
    · exact fcP_bit h k
    · rw [Nat.testBit_or, fcP_bit h k]; rfl
def fcI (sv : Nat → Nat) (ns g S : Nat) : Nat → Nat → Nat
  | 0, b => b
  | n + 1, b => fcI sv ns g S n (fcP sv ns g b S)
def fcX (sv : Nat → Nat) (ns g S b : Nat) : Nat := fcI sv ns g S 1024 b
section FC
variable {sv : Nat → Nat} {ns g S : Nat}
theorem fcI_succ (n b : Nat) : fcI sv ns g S (n + 1) b = fcI sv ns g S n (fcP sv ns g b S) := rfl
theorem fcI_one (b : Nat) : fcI sv ns g S 1 b = fcP sv ns g b S := rfl
theorem fcI_fix {b : Nat} (h : fcP sv ns g b S = b) : ∀ n, fcI sv ns g S n b = b
  | 0 => rfl
  | n + 1 => by
    show fcI sv ns g S n (fcP sv ns g b S) = b
    rw [h]; exact fcI_fix h n
theorem fcI_add : ∀ (n m b : Nat), fcI sv ns g S (n + m) b = fcI sv ns g S m (fcI sv ns g S n b)
  | 0, m, b => by rw [Nat.zero_add]; rfl
  | n + 1, m, b => by
    rw [show n + 1 + m = n + m + 1 by omega]
    show fcI sv ns g S (n + m) (fcP sv ns g b S) = _
    rw [fcI_add n m]; rfl
theorem fcI_lt (hs : ∀ k, k < S → sv k < 1024) : ∀ (n b : Nat), b < 1024 → fcI sv ns g S n b < 1024
  | 0, b, h => h
  | n + 1, b, h => fcI_lt hs n _ (fcP_lt hs h S (Nat.le_refl S))
theorem fcI_bit {i : Nat} : ∀ (n b : Nat), b.testBit i = true → (fcI sv ns g S n b).testBit i = true
  | 0, b, h => h
  | n + 1, b, h => fcI_bit n _ (fcP_bit h S)
theorem fcI_stop (hs : ∀ k, k < S → sv k < 1024) : ∀ (n b : Nat), b < 1024 → 1024 ≤ n + b → fcP sv ns g (fcI sv ns g S n b) S = fcI sv ns g S n b
  | 0, b, h, h2 => by omega
  | n + 1, b, h, h2 => by
    by_cases e : fcP sv ns g b S = b
    · rw [fcI_fix e]; exact e
    · have := fcP_ge (sv := sv) (ns := ns) (g := g) (b := b) S
      exact fcI_stop hs n _ (fcP_lt hs h S (Nat.le_refl S)) (by omega)
theorem fcX_P (hs : ∀ k, k < S → sv k < 1024) {b : Nat} (hb : b < 1024) : fcX sv ns g S (fcP sv ns g b S) = fcX sv ns g S b := by
  by_cases e : fcP sv ns g b S = b
  · rw [e]
  · have h1 := fcP_ge (sv := sv) (ns := ns) (g := g) (b := b) S
    have h2 := fcP_lt hs hb S (Nat.le_refl S) (ns := ns) (g := g)
    have e1 : fcX sv ns g S (fcP sv ns g b S) = fcI sv ns g S 1 (fcI sv ns g S 1023 (fcP sv ns g b S)) := fcI_add 1023 1 (fcP sv ns g b S)
    have e2 : fcX sv ns g S b = fcI sv ns g S 1023 (fcP sv ns g b S) := fcI_succ 1023 b
    rw [e1, e2, fcI_one]
    exact fcI_stop hs 1023 _ h2 (by omega)
theorem fcX_lt (hs : ∀ k, k < S → sv k < 1024) {b : Nat} (hb : b < 1024) : fcX sv ns g S b < 1024 := fcI_lt hs _ _ hb
theorem fcX_bit {b i : Nat} (h : b.testBit i = true) : (fcX sv ns g S b).testBit i = true := fcI_bit _ _ h
/-- clumps so far, things done, after t things -/
def fcA (sv : Nat → Nat) (ns g S : Nat) : Nat → Nat × Nat
  | 0 => (0, g)
  | t + 1 => if (fcA sv ns g S t).2.testBit t = true then fcA sv ns g S t else ((fcA sv ns g S t).1 + 1, (fcA sv ns g S t).2 ||| fcX sv ns g S (2 ^ t))
/-- the clump of a thing, the things of a clump, after t things -/
def fcO (sv : Nat → Nat) (ns g S : Nat) (f : Nat → Int) : Nat → Nat → Int
  | 0, o => f o
  | t + 1, o => if (fcA sv ns g S t).2.testBit t = false ∧ (fcX sv ns g S (2 ^ t)).testBit o = true then ((fcA sv ns g S t).1 : Int) else fcO sv ns g S f t o
def fcM (sv : Nat → Nat) (ns g S : Nat) (f : Nat → Int) : Nat → Nat → Int
  | 0, i => f i
  | t + 1, i => if (fcA sv ns g S t).2.testBit t = false ∧ i = (fcA sv ns g S t).1 then (fcX sv ns g S (2 ^ t) : Int) else fcM sv ns g S f t i
theorem fcA_s (t : Nat) : fcA sv ns g S (t + 1) = if (fcA sv ns g S t).2.testBit t = true then fcA sv ns g S t else ((fcA sv ns g S t).1 + 1, (fcA sv ns g S t).2 ||| fcX sv ns g S (2 ^ t)) := rfl
theorem fcO_s (f : Nat → Int) (t o : Nat) : fcO sv ns g S f (t + 1) o = if (fcA sv ns g S t).2.testBit t = false ∧ (fcX sv ns g S (2 ^ t)).testBit o = true then ((fcA sv ns g S t).1 : Int) else fcO sv ns g S f t o := rfl
theorem fcM_s (f : Nat → Int) (t i : Nat) : fcM sv ns g S f (t + 1) i = if (fcA sv ns g S t).2.testBit t = false ∧ i = (fcA sv ns g S t).1 then (fcX sv ns g S (2 ^ t) : Int) else fcM sv ns g S f t i := rfl
theorem fcA_le : ∀ t, (fcA sv ns g S t).1 ≤ t
  | 0 => Nat.le_refl 0
  | t + 1 => by
    rw [fcA_s]
    split
    · exact Nat.le_succ_of_le (fcA_le t)
    · exact Nat.succ_le_succ (fcA_le t)
theorem fcA_mono (t : Nat) : ∀ n, (fcA sv ns g S t).1 ≤ (fcA sv ns g S (t + n)).1
  | 0 => Nat.le_refl _
  | n + 1 => by
    refine Nat.le_trans (fcA_mono t n) ?_
    show _ ≤ (fcA sv ns g S (t + n + 1)).1
    rw [show fcA sv ns g S (t + n + 1) = (if (fcA sv ns g S (t + n)).2.testBit (t + n) = true then fcA sv ns g S (t + n) else ((fcA sv ns g S (t + n)).1 + 1, (fcA sv ns g S (t + n)).2 ||| fcX sv ns g S (2 ^ (t + n)))) from rfl]
    split
    · exact Nat.le_refl _
    · exact Nat.le_succ _
theorem fcA_lt (hs : ∀ k, k < S → sv k < 1024) (hg : g < 1024) : ∀ t, t ≤ 10 → (fcA sv ns g S t).2 < 1024
  | 0, _ => hg
  | t + 1, h => by
    rw [fcA_s]
    split
    · exact fcA_lt hs hg t (by omega)
    · exact Nat.or_lt_two_pow (n := 10) (fcA_lt hs hg t (by omega)) (fcX_lt hs (show 2 ^ t < 2 ^ 10 from Nat.pow_lt_pow_right (by decide) (by omega)))
/-- a thing that is done, and not gone, is of a clump that there is -/
theorem fcO_ok {f : Nat → Int} : ∀ t o, (fcA sv ns g S t).2.testBit o = true → g.testBit o = false → 0 ≤ fcO sv ns g S f t o ∧ fcO sv ns g S f t o < ((fcA sv ns g S t).1 : Int)
  | 0, o, h1, h2 => by
    have h3 : g.testBit o = true := h1
    rw [h3] at h2; cases h2
  | t + 1, o, h1, h2 => by
    rw [fcO_s]
    rw [fcA_s] at h1 ⊢
    by_cases q : (fcA sv ns g S t).2.testBit t = true
    · rw [if_pos q] at h1 ⊢
      rw [if_neg (fun z => by rw [z.1] at q; cases q)]
      exact fcO_ok t o h1 h2
    · rw [if_neg q] at h1 ⊢
      have q2 : (fcA sv ns g S t).2.testBit t = false := by simpa using q
      by_cases r : (fcX sv ns g S (2 ^ t)).testBit o = true
      · rw [if_pos ⟨q2, r⟩]
        exact ⟨by omega, by show ((fcA sv ns g S t).1 : Int) < (((fcA sv ns g S t).1 + 1 : Nat) : Int); omega⟩
      · rw [if_neg (fun z => r z.2)]
        have h3 : ((fcA sv ns g S t).2 ||| fcX sv ns g S (2 ^ t)).testBit o = true := h1
        rw [Nat.testBit_or, Bool.or_eq_true] at h3
        rcases h3 with h3 | h3
        · have := fcO_ok (f := f) t o h3 h2
          exact ⟨this.1, by show _ < (((fcA sv ns g S t).1 + 1 : Nat) : Int); omega⟩
        · exact absurd h3 r
theorem fcA_done : ∀ t o, o < t → (fcA sv ns g S t).2.testBit o = true
  | 0, o, h => absurd h (Nat.not_lt_zero o)
  | t + 1, o, h => by
    rw [fcA_s]
    by_cases q : (fcA sv ns g S t).2.testBit t = true
    · rw [if_pos q]
      rcases Nat.lt_or_ge o t with r | r
      · exact fcA_done t o r
      · rw [show o = t by omega]; exact q
    · rw [if_neg q]
      show ((fcA sv ns g S t).2 ||| fcX sv ns g S (2 ^ t)).testBit o = true
      rw [Nat.testBit_or]
      rcases Nat.lt_or_ge o t with r | r
      · rw [fcA_done t o r]; rfl
      · rw [show o = t by omega, fcX_bit (by rw [Nat.testBit_two_pow_self])]
        cases (fcA sv ns g S t).2.testBit t <;> rfl
/-- the things of a clump that there is are not none -/
theorem fcM_pos {f : Nat → Int} : ∀ t i, i < (fcA sv ns g S t).1 → ∃ b j : Nat, fcM sv ns g S f t i = (b : Int) ∧ j < t ∧ b.testBit j = true ∧ b = fcX sv ns g S (2 ^ j)
  | 0, i, h => absurd h (Nat.not_lt_zero i)
  | t + 1, i, h => by
    rw [fcM_s]
    rw [fcA_s] at h
    by_cases q : (fcA sv ns g S t).2.testBit t = true
    · rw [if_pos q] at h
      rw [if_neg (fun z => by rw [z.1] at q; cases q)]
      obtain ⟨b, j, h1, h2, h3, h4⟩ := fcM_pos (f := f) t i h
      exact ⟨b, j, h1, by omega, h3, h4⟩
    · rw [if_neg q] at h
      have h : i < (fcA sv ns g S t).1 + 1 := h
      have q2 : (fcA sv ns g S t).2.testBit t = false := by simpa using q
      by_cases r : i = (fcA sv ns g S t).1
      · rw [if_pos ⟨q2, r⟩]
        exact ⟨_, t, rfl, by omega, fcX_bit (by rw [Nat.testBit_two_pow_self]), rfl⟩
      · rw [if_neg (fun z => r z.2)]
        obtain ⟨b, j, h1, h2, h3, h4⟩ := fcM_pos (f := f) t i (by omega)
        exact ⟨b, j, h1, by omega, h3, h4⟩
end FC
