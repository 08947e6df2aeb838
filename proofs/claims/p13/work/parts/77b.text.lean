/-! signs come behind the text, on both sides -/
def sgX (b : Int) (k : Nat) : Int := jand (jushr b (24 + -8 * (k : Int))) 255
def sgM (b : Int) (k : Nat) : Int := jb (jb (jshr b (8 * (3 + -1 * (k : Int)))))
/-- the text of object t (its length at place p of object q) with k signs more -/
def tapp (M : pM) (q p t L : Nat) (s : Nat → Int) (k : Nat) : pM := fun o i => if o = t ∧ L ≤ i ∧ i < L + k then s (i - L) else if o = q ∧ i = p then ((L + k : Nat) : Int) else M o i
theorem tapp_len {M : pM} {q p t L : Nat} {s : Nat → Int} {k : Nat} (h : q ≠ t) : tapp M q p t L s k q p = ((L + k : Nat) : Int) := by
  unfold tapp
  rw [if_neg (fun z => h z.1), if_pos ⟨rfl, rfl⟩]
theorem tapp_zero {M : pM} {q p t L : Nat} {s : Nat → Int} (hL : M q p = L) : tapp M q p t L s 0 = M := by
  funext o i
  unfold tapp
  rw [if_neg (by omega)]
  by_cases h : o = q ∧ i = p
  · rw [if_pos h, h.1, h.2, hL]; rfl
  · rw [if_neg h]
theorem tapp_succ {M : pM} {q p t L : Nat} {s : Nat → Int} {k : Nat} (h : q ≠ t) : pset (pset (tapp M q p t L s k) t (L + k) (s k)) q p (((L + k : Nat) : Int) + 1) = tapp M q p t L s (k + 1) := by
  funext o i
  unfold pset tapp
  by_cases h1 : o = q ∧ i = p
  · rw [if_pos h1, if_neg (fun z => h (h1.1.symm.trans z.1)), if_pos h1]; rfl
  · rw [if_neg h1]
    by_cases h2 : o = t ∧ i = L + k
    · rw [if_pos h2, if_pos ⟨h2.1, by omega, by omega⟩, h2.2, Nat.add_sub_cancel_left]
    · rw [if_neg h2]
      by_cases h3 : o = t ∧ L ≤ i ∧ i < L + k
      · rw [if_pos h3, if_pos ⟨h3.1, h3.2.1, by omega⟩]
      · rw [if_neg h3, if_neg h1]
        by_cases h4 : o = t ∧ L ≤ i ∧ i < L + (k + 1)
        · exact absurd ⟨h4.1, by omega⟩ h2
        · rw [if_neg h4, if_neg h1]
theorem tapp_succ' {M : pM} {q p t L : Nat} {s : Nat → Int} {k : Nat} (h : q ≠ t) : pset (pset (tapp M q p t L s k) q p (((L + k : Nat) : Int) + 1)) t (L + k) (s k) = tapp M q p t L s (k + 1) := by
  rw [← tapp_succ h]
  funext o i
  unfold pset
  by_cases h1 : o = t ∧ i = L + k
  · rw [if_pos h1, if_neg (fun z => h (z.1.symm.trans h1.1)), if_pos h1]
  · rw [if_neg h1]
    by_cases h2 : o = q ∧ i = p
    · rw [if_pos h2, if_pos h2]
    · rw [if_neg h2, if_neg h2, if_neg h1]
theorem c_append {d : Nat} (hd : 1 ≤ d) {M : pM} {L : Nat} (hL : M 1 1 = L) (h8 : L ≤ 80) {b : Int} : xF d 152 [.inr 3, .inl b] M = if L + 4 ≤ 80 then rI 1 (tapp M 1 1 2 L (sgX b) 4) else rI 0 M := by
  obtain ⟨D, rfl, -⟩ := dsucc hd
  rw [T_Text_append, hL, if_neg (by rw [lt32_iff] <;> omega)]
  by_cases h4 : L + 4 ≤ 80
  · rw [if_pos (by rw [le32_iff] <;> omega), if_pos h4]
    have key : ∀ m k : Nat, k + m = 4 → xE D 152 13 [.inr 3, .inl b, .inl (24 + -8 * (k : Int))] [] (tapp M 1 1 2 L (sgX b) k) = rI 1 (tapp M 1 1 2 L (sgX b) 4) := by
      intro m
      induction m with
      | zero =>
        intro k hk
        have hk : k = 4 := by omega
        subst hk
        rw [L_Text_append_13, if_pos (by decide)]
      | succ m ih =>
        intro k hk
        rw [L_Text_append_13, if_neg (by rw [lt32_iff] <;> omega), tapp_len (by decide), if_pos (by omega), Int.toNat_natCast, pset_ne (o := 2) (o' := 1) (by decide), tapp_len (by decide)]
        rw [show jand (jushr b (24 + -8 * (k : Int))) 255 = sgX b k from rfl, tapp_succ (by decide), show 24 + -8 * (k : Int) + -8 = 24 + -8 * ((k + 1 : Nat) : Int) by omega]
        exact ih (k + 1) (by omega)
    have h := key 4 0 rfl
    rw [tapp_zero hL] at h
    exact h
  · rw [if_neg (by rw [le32_iff] <;> omega), if_neg h4]
theorem c_sign {d : Nat} (hd : 2 ≤ d) {M : pM} {L : Nat} (hL : M 1 1 = L) (h8 : L ≤ 80) {b : Int} : xF d 0 [.inr 2, .inl b] M = if L + 4 ≤ 80 then rI ((L + 4 : Nat) : Int) (tapp M 1 1 2 L (sgX b) 4) else rI (-1) M := by
  obtain ⟨D, rfl, hD⟩ := dsucc hd
  rw [T_X_sign, c_append hD hL h8]
  by_cases h4 : L + 4 ≤ 80
  · rw [if_pos h4, if_pos h4, pbI_rI, if_neg (by decide), tapp_len (by decide)]
  · rw [if_neg h4, if_neg h4, pbI_rI, if_pos (by decide)]
theorem m_sign {d : Nat} (hd : 1 ≤ d) {M : pM} {L : Nat} (hL : M 60 14 = L) (h8 : L ≤ 80) {b : Int} : xF d 175 [.inr 62, .inl b] M = if L + 4 ≤ 80 then rI ((L + 4 : Nat) : Int) (tapp (pset M 60 17 0) 60 14 68 L (sgM b) 4) else rI (-1) (pset M 60 17 0) := by
  obtain ⟨D, rfl, -⟩ := dsucc hd
  have hL2 : pset M 60 17 0 60 14 = L := by rw [pset_ne2 (by decide), hL]
  rw [T_M_sign, hL2]
  by_cases h4 : L + 4 ≤ 80
  · rw [if_pos (by rw [le32_iff] <;> omega), if_pos h4]
    generalize hM : pset M 60 17 0 = M9 at hL2 ⊢
    have key : ∀ m k : Nat, k + m = 4 → xE D 175 13 [.inr 62, .inl b, .inl (3 + -1 * (k : Int))] [] (tapp M9 60 14 68 L (sgM b) k) = rI ((L + 4 : Nat) : Int) (tapp M9 60 14 68 L (sgM b) 4) := by
      intro m
      induction m with
      | zero =>
        intro k hk
        have hk : k = 4 := by omega
        subst hk
        rw [L_M_sign_13, if_pos (by decide), tapp_len (by decide)]
      | succ m ih =>
        intro k hk
        rw [L_M_sign_13, if_neg (by rw [lt32_iff] <;> omega), tapp_len (by decide), if_pos (by omega), Int.toNat_natCast]
        rw [show jb (jb (jshr b (8 * (3 + -1 * (k : Int))))) = sgM b k from rfl, tapp_succ' (by decide), show 3 + -1 * (k : Int) + -1 = 3 + -1 * ((k + 1 : Nat) : Int) by omega]
        exact ih (k + 1) (by omega)
    have h := key 4 0 rfl
    rw [tapp_zero hL2] at h
    exact h
  · rw [if_neg (by rw [le32_iff] <;> omega), if_neg h4]
