section
/-! which letter a sign is -/
def ixc (c : Int) : Int := if c = 105 then 0 else if c = 98 then 1 else if c = 119 then 2 else if c = 103 then 3 else if c = 107 then 4 else if c = 114 then 5 else if c = 122 then 6 else if c = 100 then 7 else if c = 104 then 8 else -1
theorem ixc_L (c : Int) : (isL c = true ∧ 0 ≤ ixc c ∧ ixc c ≤ 8) ∨ (isL c = false ∧ ixc c = -1) := by
  unfold ixc isL
  by_cases h0 : c = 105
  · subst h0; exact Or.inl (by decide)
  by_cases h1 : c = 98
  · subst h1; exact Or.inl (by decide)
  by_cases h2 : c = 119
  · subst h2; exact Or.inl (by decide)
  by_cases h3 : c = 103
  · subst h3; exact Or.inl (by decide)
  by_cases h4 : c = 107
  · subst h4; exact Or.inl (by decide)
  by_cases h5 : c = 114
  · subst h5; exact Or.inl (by decide)
  by_cases h6 : c = 122
  · subst h6; exact Or.inl (by decide)
  by_cases h7 : c = 100
  · subst h7; exact Or.inl (by decide)
  by_cases h8 : c = 104
  · subst h8; exact Or.inl (by decide)
  refine Or.inr ⟨decide_eq_false (by omega), ?_⟩
  rw [if_neg h0, if_neg h1, if_neg h2, if_neg h3, if_neg h4, if_neg h5, if_neg h6, if_neg h7, if_neg h8]
theorem ixc_hi {c : Int} (h : 128 ≤ c ∨ c < 0) : ixc c = -1 := by
  unfold ixc
  rw [if_neg (by omega), if_neg (by omega), if_neg (by omega), if_neg (by omega), if_neg (by omega), if_neg (by omega), if_neg (by omega), if_neg (by omega), if_neg (by omega)]
theorem jc_dec : ((List.range 256).all fun n => decide (jc (n : Int) = (n : Int))) = true := by decide +kernel
theorem jb_dec : ((List.range 256).all fun n => decide (jb (n : Int) = if n < 128 then (n : Int) else (n : Int) - 256)) = true := by decide +kernel
theorem sby_dec : ((List.range 9).all fun n => decide (-128 ≤ (sbyt.getD n 0).toInt ∧ (sbyt.getD n 0).toInt ≤ 127)) = true := by decide +kernel
section SIX
variable {D d : Nat} {M : pM}
theorem s_ixS {x1 x2 y : Int} {i : Nat} (hi : i < 9) (hy : -128 ≤ y ∧ y ≤ 127) : xE D 279 5 [.inr 94, .inl x1, .inl x2, .inl 9, .inl y, .inl (i : Int)] [] M = if y = (sbyt.getD i 0).toInt then rI (i : Int) M else xE D 279 5 [.inr 94, .inl x1, .inl x2, .inl 9, .inl y, .inl ((i + 1 : Nat) : Int)] [] M := by
  have b := of_decide_eq_true (List.all_eq_true.mp sby_dec i (List.mem_range.mpr hi))
  rw [L_L_indexOfChar_5, if_neg (by rw [le32_iff] <;> omega), if_pos (by omega), Int.toNat_natCast, show ((i : Int) + 1) = ((i + 1 : Nat) : Int) by omega]
  by_cases z : y = (sbyt.getD i 0).toInt
  · rw [if_pos z, if_neg (fun w => w (by rw [z]))]
  · rw [if_neg z, if_pos (by rw [eq32_iff] <;> omega)]
theorem s_ix (hd : 8 ≤ d) {v : Int} (hv : 0 ≤ v ∧ v ≤ 255) : xF d 272 [.inr 93, .inl (jc v)] M = rI (ixc v) M := by
  obtain ⟨n, rfl⟩ := natI hv.1
  have ec : jc (n : Int) = (n : Int) := of_decide_eq_true (List.all_eq_true.mp jc_dec n (List.mem_range.mpr (by omega)))
  have eb : jb (n : Int) = if n < 128 then (n : Int) else (n : Int) - 256 := of_decide_eq_true (List.all_eq_true.mp jb_dec n (List.mem_range.mpr (by omega)))
  obtain ⟨D1, rfl, h1⟩ := dsucc hd
  obtain ⟨D2, rfl, h2⟩ := dsucc (show 1 ≤ D1 by omega)
  obtain ⟨D3, rfl, h3⟩ := dsucc (show 1 ≤ D2 by omega)
  obtain ⟨D4, rfl, h4⟩ := dsucc (show 1 ≤ D3 by omega)
  have by' : -128 ≤ jb (n : Int) ∧ jb (n : Int) ≤ 127 := by
    rw [eb]
    split <;> omega
  have key : ∀ D, xE D 279 5 [.inr 94, .inl (n : Int), .inl 0, .inl 9, .inl (jb (n : Int)), .inl ((0 : Nat) : Int)] [] M = rI (ixc (n : Int)) M := fun D => by
    have e9 : xE D 279 5 [.inr 94, .inl (n : Int), .inl 0, .inl 9, .inl (jb (n : Int)), .inl ((8 + 1 : Nat) : Int)] [] M = rI (-1) M := by
      rw [L_L_indexOfChar_5, if_pos (by decide)]
    rw [s_ixS (by decide) by', s_ixS (by decide) by', s_ixS (by decide) by', s_ixS (by decide) by', s_ixS (by decide) by', s_ixS (by decide) by', s_ixS (by decide) by', s_ixS (by decide) by', s_ixS (by decide) by', e9]
    rw [show (sbyt.getD 0 0).toInt = 105 by decide, show (sbyt.getD (0 + 1) 0).toInt = 98 by decide, show (sbyt.getD (0 + 1 + 1) 0).toInt = 119 by decide, show (sbyt.getD (0 + 1 + 1 + 1) 0).toInt = 103 by decide, show (sbyt.getD (0 + 1 + 1 + 1 + 1) 0).toInt = 107 by decide, show (sbyt.getD (0 + 1 + 1 + 1 + 1 + 1) 0).toInt = 114 by decide, show (sbyt.getD (0 + 1 + 1 + 1 + 1 + 1 + 1) 0).toInt = 122 by decide, show (sbyt.getD (0 + 1 + 1 + 1 + 1 + 1 + 1 + 1) 0).toInt = 100 by decide, show (sbyt.getD (0 + 1 + 1 + 1 + 1 + 1 + 1 + 1 + 1) 0).toInt = 104 by decide]
    by_cases q : n < 128
    · rw [if_pos q] at eb
      rw [eb]
      unfold ixc
      by_cases k0 : (n : Int) = 105
      · rw [if_pos k0, if_pos k0]; rfl
      rw [if_neg k0, if_neg k0]
      by_cases k1 : (n : Int) = 98
      · rw [if_pos k1, if_pos k1]; rfl
      rw [if_neg k1, if_neg k1]
      by_cases k2 : (n : Int) = 119
      · rw [if_pos k2, if_pos k2]; rfl
      rw [if_neg k2, if_neg k2]
      by_cases k3 : (n : Int) = 103
      · rw [if_pos k3, if_pos k3]; rfl
      rw [if_neg k3, if_neg k3]
      by_cases k4 : (n : Int) = 107
      · rw [if_pos k4, if_pos k4]; rfl
      rw [if_neg k4, if_neg k4]
      by_cases k5 : (n : Int) = 114
      · rw [if_pos k5, if_pos k5]; rfl
      rw [if_neg k5, if_neg k5]
      by_cases k6 : (n : Int) = 122
      · rw [if_pos k6, if_pos k6]; rfl
      rw [if_neg k6, if_neg k6]
      by_cases k7 : (n : Int) = 100
      · rw [if_pos k7, if_pos k7]; rfl
      rw [if_neg k7, if_neg k7]
      by_cases k8 : (n : Int) = 104
      · rw [if_pos k8, if_pos k8]; rfl
      rw [if_neg k8, if_neg k8]
    · rw [if_neg q] at eb
      rw [eb, ixc_hi (Or.inl (by omega)), if_neg (by omega), if_neg (by omega), if_neg (by omega), if_neg (by omega), if_neg (by omega), if_neg (by omega), if_neg (by omega), if_neg (by omega), if_neg (by omega)]
  obtain ⟨D5, rfl, h5⟩ := dsucc (show 1 ≤ D4 by omega)
  rw [ec, T_S_indexOf, T_S_indexOf2, T_S_isLatin1, if_neg (by decide), if_neg (by decide), pbI_rI, if_neg (by decide), T_S_length, T_S_coder, if_neg (by decide), pbI_rI, pbI_rI, show jshr 9 0 = 9 by decide, T_L_indexOf, T_L_canEncode, if_neg (by rw [lt32_iff] <;> omega), if_neg (by rw [lt32_iff] <;> omega), pbI_rI, if_pos (by decide), show jmax 0 0 = 0 by decide, show jmin 9 9 = 9 by decide, if_pos (by decide), T_L_indexOfChar]
  have k := key (D5 + 1)
  have k : xE (D5 + 1) 279 5 [.inr 94, .inl (n : Int), .inl 0, .inl 9, .inl (jb (n : Int)), .inl 0] [] M = rI (ixc (n : Int)) M := k
  rw [k, pbI_rI, pbI_rI, pbI_rI]
end SIX
/-! a rule is read -/
section XRU
variable {tx : Nat → Int} {st d D : Nat} {M M' : pM} {lv : Int → Int}
theorem x_dig1 (hd : 3 ≤ d) {a : Nat} (h : XSt tx st M (.inr a)) (g : 48 ≤ hc tx st a ∧ hc tx st a ≤ 57) : ∃ M', xF d 139 [.inr 5, .inl 0, .inl 10] M = rI (hc tx st a - 48) M' ∧ XSt tx st M' (.inr (a + 1)) ∧ AGx M M' := by
  obtain ⟨v, M1, e1, r1, a1, -, i1, -⟩ := x_digit hd h (lo := 0) (hi := 9) (by decide) (by decide) (by decide) (by decide)
  have g1 : sgD tx st 0 9 (.inr a) = .inr (a + 1) := if_pos ⟨g.1, g.2, by omega, by omega⟩
  have g2 : sgV tx st 0 9 (.inr a) = hc tx st a - 48 := if_pos ⟨g.1, g.2, by omega, by omega⟩
  rw [g1] at r1
  have hv := i1 (a + 1) g1
  rw [g2] at hv
  have e1' : xF d 139 [.inr 5, .inl 0, .inl 10] M = rI v M1 := e1
  exact ⟨M1, by rw [e1', hv], r1, a1⟩
theorem x_nS (hD : 3 ≤ D) {a k : Nat} (hk : k < 3) (h : XSt tx st M (.inr a)) (g : 48 ≤ hc tx st a ∧ hc tx st a ≤ 57) (x2 : Int) : ∃ M', xE D 151 4 [.inr 29, .inr 5, .inl x2, .inl (k : Int)] [] M = xE D 151 4 [.inr 29, .inr 5, .inl (x2 * 10 + (hc tx st a - 48)), .inl ((k + 1 : Nat) : Int)] [] M' ∧ XSt tx st M' (.inr (a + 1)) ∧ AGx M M' := by
  obtain ⟨M1, e1, r1, a1⟩ := x_dig1 hD h g
  refine ⟨M1, ?_, r1, a1⟩
  rw [L_Rule_number_3_4, if_neg (by rw [le32_iff] <;> omega), x_seesG (by omega) h, pbI_rI, if_pos g, if_neg (by decide), e1, pbI_rI, show ((k : Int) + 1) = ((k + 1 : Nat) : Int) by omega]
theorem x_nT (hD : 3 ≤ D) {a k : Nat} (hk : k ≤ 3) (h : XSt tx st M (.inr a)) (g : k = 3 ∨ ¬ (48 ≤ hc tx st a ∧ hc tx st a ≤ 57)) (x2 : Int) : xE D 151 4 [.inr 29, .inr 5, .inl x2, .inl (k : Int)] [] M = rI x2 M := by
  by_cases z : k = 3
  · rw [L_Rule_number_3_4, if_pos (by rw [le32_iff] <;> omega)]
  · rw [L_Rule_number_3_4, if_neg (by rw [le32_iff] <;> omega), x_seesG (by omega) h, pbI_rI, if_neg (g.resolve_left z), if_pos (by decide)]
theorem x_num (hd : 4 ≤ d) {a : Nat} (h : XSt tx st M (.inr a)) (g : 48 ≤ hc tx st a ∧ hc tx st a ≤ 57) : ∃ M', xF d 151 [.inr 29, .inr 5] M = rI (ndV tx st a) M' ∧ XSt tx st M' (.inr (a + ndS tx st a)) ∧ AGx M M' := by
  obtain ⟨D, rfl, hD⟩ := dsucc hd
  obtain ⟨M1, e1, r1, a1⟩ := x_nS (D := D) hD (k := 0) (by decide) h g 0
  rw [T_Rule_number_3, show (.inl 0 : pV) = .inl ((0 : Nat) : Int) from rfl]
  have e1 : xE D 151 4 [.inr 29, .inr 5, .inl ((0 : Nat) : Int), .inl ((0 : Nat) : Int)] [] M = xE D 151 4 [.inr 29, .inr 5, .inl (0 * 10 + (hc tx st a - 48)), .inl ((0 + 1 : Nat) : Int)] [] M1 := e1
  rw [e1]
  unfold ndS ndV
  by_cases g1 : 48 ≤ hc tx st (a + 1) ∧ hc tx st (a + 1) ≤ 57
  · obtain ⟨M2, e2, r2, a2⟩ := x_nS (D := D) hD (k := 0 + 1) (by decide) r1 g1 (0 * 10 + (hc tx st a - 48))
    rw [if_pos g1, if_pos g1, e2]
    by_cases g2 : 48 ≤ hc tx st (a + 2) ∧ hc tx st (a + 2) ≤ 57
    · obtain ⟨M3, e3, r3, a3⟩ := x_nS (D := D) hD (k := 0 + 1 + 1) (by decide) r2 g2 ((0 * 10 + (hc tx st a - 48)) * 10 + (hc tx st (a + 1) - 48))
      rw [if_pos g2, if_pos g2, e3, x_nT hD (by decide) r3 (Or.inl rfl)]
      refine ⟨M3, ?_, r3, AGx_tr a1 (AGx_tr a2 a3)⟩
      exact congrArg (fun z => rI z M3) (by rw [show a + 1 + 1 = a + 2 from rfl]; omega)
    · rw [if_neg g2, if_neg g2, x_nT hD (by decide) r2 (Or.inr g2)]
      exact ⟨M2, congrArg (fun z => rI z M2) (by omega), r2, AGx_tr a1 a2⟩
  · rw [if_neg g1, if_neg g1, x_nT hD (by decide) r1 (Or.inr g1)]
    exact ⟨M1, congrArg (fun z => rI z M1) (by omega), r1, a1⟩
def Xout (tx : Nat → Int) (st : Nat) (M : pM) (r : Option pR) (p : rgs × Int) : Prop := ∃ M', r = rI p.2 M' ∧ XSt tx st M' p.1 ∧ AGx M M'
theorem Xout_tr {r : Option pR} {p : rgs × Int} (e : AGx M M') (h : Xout tx st M' r p) : Xout tx st M r p := by
  obtain ⟨N, h1, h2, h3⟩ := h
  exact ⟨N, h1, h2, AGx_tr e h3⟩
/-- the letters' values -/
def XHv (lv : Int → Int) (M : pM) : Prop := ∀ c, isL c = true → M 31 (ixc c).toNat = lv c
theorem XHv_ag (h : XHv lv M) (e : AGx M M') : XHv lv M' := fun c hl => by rw [e 31 _ (by omega)]; exact h c hl
def XPn (n : Nat) : rgs → Prop
  | .inl _ => n ≤ 40
  | .inr a => n ≤ a
theorem XSt_le {a : Nat} (h : XSt tx st M (.inr a)) : a ≤ st := h.2.2.2.2.2.2.2.1
def XRP (tx : Nat → Int) (st : Nat) (lv : Int → Int) (f : Nat) : Prop := ∀ (b : Nat) (s : rgs) (M : pM) (d : Nat), b ≤ 4 → XSt tx st M s → XHv lv M →
  (rmu st 0 s < f → rmu st 0 s + 14 ≤ d → Xout tx st M (xF d 146 [.inr 29, .inr 5, .inl (b : Int)] M) (rp tx st lv f 0 b 0 s)) ∧
  (rmu st 1 s < f → rmu st 1 s + 14 ≤ d → Xout tx st M (xF d 147 [.inr 29, .inr 5, .inl (b : Int)] M) (rp tx st lv f 1 b 0 s)) ∧
  (rmu st 2 s < f → rmu st 2 s + 14 ≤ d → Xout tx st M (xF d 148 [.inr 29, .inr 5, .inl (b : Int)] M) (rp tx st lv f 2 b 0 s)) ∧
  (rmu st 3 s < f → rmu st 3 s + 13 ≤ d → ∀ (n : Nat) (fl : Int), (fl = 0 ∨ fl = 1) → XPn n s → Xout tx st M (xE d 149 4 [.inr 29, .inr 5, .inl (b : Int), .inl fl, .inl (n : Int)] [] M) ((rp tx st lv f 3 b 0 s).1, if fl = 0 then (rp tx st lv f 3 b 0 s).2 else -(rp tx st lv f 3 b 0 s).2)) ∧
  (rmu st 4 s < f → rmu st 4 s + 14 ≤ d → ∀ (x : Int) (n : Nat) (y5 y6 : pV), XPn n s → Xout tx st M (xE d 147 7 [.inr 29, .inr 5, .inl (b : Int), .inl x, .inl (n : Int), y5, y6] [] M) (rp tx st lv f 4 b x s)) ∧
  (rmu st 5 s < f → rmu st 5 s + 14 ≤ d → ∀ (x : Int) (n : Nat) (y5 y6 : pV), XPn n s → Xout tx st M (xE d 148 7 [.inr 29, .inr 5, .inl (b : Int), .inl x, .inl (n : Int), y5, y6] [] M) (rp tx st lv f 5 b x s))
theorem XP_all (h40 : st ≤ 40) : ∀ f, XRP tx st lv f
  | 0 => fun b s M d _ _ _ => ⟨fun h => absurd h (Nat.not_lt_zero _), fun h => absurd h (Nat.not_lt_zero _), fun h => absurd h (Nat.not_lt_zero _), fun h => absurd h (Nat.not_lt_zero _), fun h => absurd h (Nat.not_lt_zero _), fun h => absurd h (Nat.not_lt_zero _)⟩
  | f + 1 => fun b s M d hb R H => by
    have ih := XP_all h40 f
    -- a step on from a good place
    have go : ∀ (m : Nat) (a : Nat) (N : pM), XSt tx st N (.inr a) → a < st → XSt tx st (pset N 3 1 ((a : Int) + 1)) (.inr (a + 1)) ∧ ∀ m', rpk m' ≤ 4 ∧ rmu st m' (.inr (a + 1) : rgs) < rmu st m (.inr a : rgs) := fun m a N r h => ⟨XSt_next r h, fun m' => ⟨by unfold rpk; split <;> omega, by
      have k4 : rpk m' ≤ 4 := by unfold rpk; split <;> omega
      show 8 * (st + 1 - (a + 1)) + rpk m' < 8 * (st + 1 - a) + rpk m
      omega⟩⟩
    have ltc : ∀ {a : Nat} {c : Int}, hc tx st a = c → 0 ≤ c → a < st := fun {a c} h1 h2 => hc_lt (tx := tx) (st := st) (by rw [h1]; omega)
    have at1 : ∀ {N : pM}, AGx N N := AGx_rfl
    -- what comes behind something that was read
    have aft : ∀ {g m : Nat} {x : Int} (m' : Nat) {s : rgs} {N N' : pM}, m ≤ 3 → rpk m' < rpk m → XSt tx st N s → XSt tx st N' (rp tx st lv g m b x s).1 → rmu st m' (rp tx st lv g m b x s).1 < rmu st m s := fun {g m x} m' {s N N'} hm hk r1 r2 => rmu_lt hm (fun c e => by rw [e] at r2; exact XSt_le r2) (Or.inl hk) (fun _ _ => hk)
    -- how far the loops' counters are
    have cnt : ∀ {g m n a : Nat} {x : Int}, m ≤ 3 → n < 40 → n ≤ a → XPn (n + 1) (rp tx st lv g m b x (.inr (a + 1))).1 := fun {g m n a x} hm h1 h2 => by
      cases e : (rp tx st lv g m b x (.inr (a + 1))).1 with
      | inl q => exact (show n + 1 ≤ 40 by omega)
      | inr c =>
        obtain ⟨a', ea, h3, h4⟩ := rp_up g m b x _ c e
        cases ea
        exact (show n + 1 ≤ c by omega)
    refine ⟨fun hf hd => ?_, fun hf hd => ?_, fun hf hd => ?_, fun hf hd n fl hfl hn => ?_, fun hf hd x n y5 y6 hn => ?_, fun hf hd x n y5 y6 hn => ?_⟩
    · -- compared
      obtain ⟨D, rfl, hD⟩ := dsucc (show 1 ≤ d by omega)
      have k : rmu st 1 s + 1 = rmu st 0 s := by cases s <;> rfl
      obtain ⟨M1, e1, R1, A1⟩ := (ih b s M D hb R H).2.1 (by omega) (by omega)
      have H1 := XHv_ag H A1
      show Xout tx st M _ (rpH tx st (rp tx st lv f) b s)
      rw [T_Rule_compared_3, e1, pbI_rI]
      unfold rpH
      have lt1 := aft (m := 1) (m' := 2) (g := f) (x := 0) (N := M) (N' := M1) (by decide) (by decide) R R1
      cases e : (rp tx st lv f 1 b 0 s).1 with
      | inl p =>
        rw [e] at R1
        rw [x_peekB (by omega) R1, pbI_rI, if_neg (by decide), if_neg (by decide), if_neg (by decide)]
        exact ⟨M1, rfl, by rw [e]; exact R1, A1⟩
      | inr a =>
        rw [e] at R1 lt1
        have lt1 : 8 * (st + 1 - a) + 2 < rmu st 1 s := lt1
        have la := XSt_le R1
        have hr := hx_range R1 a
        have hat := XSt_at R1
        dsimp only
        have nx : ∀ c : Int, 0 ≤ c → hc tx st a = c → ∃ M2, xF D 147 [.inr 29, .inr 5, .inl (b : Int)] (pset M1 3 1 ((a : Int) + 1)) = rI (rp tx st lv f 1 b 0 (.inr (a + 1))).2 M2 ∧ XSt tx st M2 (rp tx st lv f 1 b 0 (.inr (a + 1))).1 ∧ AGx M M2 := fun c c0 hc' => by
          obtain ⟨R2, g2⟩ := go 2 a M1 R1 (ltc hc' c0)
          have g3 : rmu st 1 (.inr (a + 1) : rgs) < 8 * (st + 1 - a) + 2 := (g2 1).2
          obtain ⟨M2, e2, R3, A3⟩ := (ih b (.inr (a + 1)) _ D hb R2 (XHv_ag H1 (AGx_set at1 (Or.inl rfl)))).2.1 (by omega) (by omega)
          exact ⟨M2, e2, R3, AGx_tr (AGx_set A1 (Or.inl rfl)) A3⟩
        rw [x_peekG (by omega) R1, pbI_rI, hat]
        by_cases k1 : hc tx st a = 60
        · obtain ⟨M2, e2, R2, A2⟩ := nx 60 (by decide) k1
          have q1 := (hx_is R1 (by decide) (by decide)).mpr k1
          rw [q1, if_pos (by decide), if_pos k1, e2, pbI_rI, if_neg (by decide)]
          refine ⟨M2, ?_, R2, A2⟩
          by_cases z : le32 (rp tx st lv f 1 b 0 (.inr (a + 1))).2 (rp tx st lv f 1 b 0 s).2
          · rw [if_pos z, if_pos z, if_pos (by decide)]
          · rw [if_neg z, if_neg z, if_neg (by decide)]
        · have q1 : hx tx st a ≠ 60 := fun z => k1 ((hx_is R1 (by decide) (by decide)).mp z)
          rw [if_neg (by rw [eq32_iff] <;> omega), if_neg k1]
          by_cases k2 : hc tx st a = 62
          · obtain ⟨M2, e2, R2, A2⟩ := nx 62 (by decide) k2
            have q2 := (hx_is R1 (by decide) (by decide)).mpr k2
            rw [q2, if_pos (by decide), if_pos k2, e2, pbI_rI, if_pos (by decide), if_neg (by decide)]
            refine ⟨M2, ?_, R2, A2⟩
            by_cases z : le32 (rp tx st lv f 1 b 0 s).2 (rp tx st lv f 1 b 0 (.inr (a + 1))).2
            · rw [if_pos z, if_pos z, if_pos (by decide)]
            · rw [if_neg z, if_neg z, if_neg (by decide)]
          · have q2 : hx tx st a ≠ 62 := fun z => k2 ((hx_is R1 (by decide) (by decide)).mp z)
            rw [if_neg (by rw [eq32_iff] <;> omega), if_neg k2]
            by_cases k3 : hc tx st a = 61
            · obtain ⟨M2, e2, R2, A2⟩ := nx 61 (by decide) k3
              have q3 := (hx_is R1 (by decide) (by decide)).mpr k3
              rw [q3, if_pos (by decide), if_pos k3, e2, pbI_rI, if_pos (by decide), if_pos (by decide)]
              refine ⟨M2, ?_, R2, A2⟩
              by_cases z : eq32 (rp tx st lv f 1 b 0 s).2 (rp tx st lv f 1 b 0 (.inr (a + 1))).2
              · rw [if_neg (fun w => w z), if_neg (by decide), if_neg (fun w => w z)]
              · rw [if_pos z, if_pos z, if_pos (by decide)]
            · have q3 : hx tx st a ≠ 61 := fun z => k3 ((hx_is R1 (by decide) (by decide)).mp z)
              rw [if_neg (by rw [eq32_iff] <;> omega), if_neg k3]
              exact ⟨M1, rfl, by rw [e]; exact R1, A1⟩
    · -- summed
      obtain ⟨D, rfl, hD⟩ := dsucc (show 1 ≤ d by omega)
      have k : rmu st 2 s + 1 = rmu st 1 s := by cases s <;> rfl
      obtain ⟨M1, e1, R1, A1⟩ := (ih b s M D hb R H).2.2.1 (by omega) (by omega)
      have lt1 := aft (m := 2) (m' := 4) (g := f) (x := 0) (N := M) (N' := M1) (by decide) (by decide) R R1
      rw [T_Rule_summed_3, e1, pbI_rI]
      exact Xout_tr A1 ((ih b _ M1 D hb R1 (XHv_ag H A1)).2.2.2.2.1 (by omega) (by omega) _ 0 _ _ (by
        cases (rp tx st lv f 2 b 0 s).1
        · exact Nat.zero_le _
        · exact Nat.zero_le _))
    · -- multiplied
      obtain ⟨D, rfl, hD⟩ := dsucc (show 1 ≤ d by omega)
      obtain ⟨D', rfl, hD'⟩ := dsucc (show 1 ≤ D by omega)
      have k : rmu st 3 s + 1 = rmu st 2 s := by cases s <;> rfl
      obtain ⟨M1, e1, R1, A1⟩ := (ih b s M D' hb R H).2.2.2.1 (by omega) (by omega) 0 0 (Or.inl rfl) (by
        cases s
        · exact Nat.zero_le _
        · exact Nat.zero_le _)
      have e1 : xE D' 149 4 [.inr 29, .inr 5, .inl (b : Int), .inl 0, .inl 0] [] M = rI (rp tx st lv f 3 b 0 s).2 M1 := e1
      have R1 : XSt tx st M1 (rp tx st lv f 3 b 0 s).1 := R1
      have lt1 := aft (m := 3) (m' := 5) (g := f) (x := 0) (N := M) (N' := M1) (by decide) (by decide) R R1
      rw [T_Rule_multiplied_3, T_Rule_negated_3, e1, pbI_rI]
      exact Xout_tr A1 ((ih b _ M1 (D' + 1) hb R1 (XHv_ag H A1)).2.2.2.2.2 (by omega) (by omega) _ 0 _ _ (by
        cases (rp tx st lv f 3 b 0 s).1
        · exact Nat.zero_le _
        · exact Nat.zero_le _))
    · -- negated
      show Xout tx st M _ ((rpF tx st lv (rp tx st lv f) b s).1, if fl = 0 then (rpF tx st lv (rp tx st lv f) b s).2 else -(rpF tx st lv (rp tx st lv f) b s).2)
      -- a thing without a minus ahead of it
      have sg : (∀ a, s = .inr a → hc tx st a ≠ 45) → Xout tx st M (xF d 150 [.inr 29, .inr 5, .inl (b : Int)] M) (rpF tx st lv (rp tx st lv f) b s) := fun h45 => by
        obtain ⟨D, rfl, hD⟩ := dsucc (show 1 ≤ d by omega)
        cases s with
        | inl p =>
          rw [T_Rule_single_3, x_peekB (by omega) R, pbI_rI, x_seesB (by omega) R, pbI_rI, if_pos (by decide), if_neg (by decide), if_pos (by decide), if_pos (by decide), x_failB (by omega) R, pbN_rV]
          exact ⟨M, rfl, R, AGx_rfl⟩
        | inr a =>
          have la := XSt_le R
          have hr := hx_range R a
          have hat := XSt_at R
          have m0 : rmu st 3 (.inr a : rgs) = 8 * (st + 1 - a) + 1 := rfl
          have n45 := h45 a rfl
          obtain ⟨ef, rf⟩ := x_failG (d := D) (by omega) R (p := a) (by omega)
          have bad : AGx M (pset M 3 3 (a : Int)) := AGx_set AGx_rfl (Or.inr rfl)
          unfold rpF
          dsimp only
          rw [T_Rule_single_3, x_peekG (by omega) R, pbI_rI, x_seesG (by omega) R, pbI_rI, if_neg n45]
          by_cases k3 : 48 ≤ hc tx st a ∧ hc tx st a ≤ 57
          · obtain ⟨M2, e2, R2, A2⟩ := x_num (d := D) (by omega) R k3
            rw [if_pos k3, if_neg (by decide), if_neg (show ¬ (hc tx st a = 40 ∧ b < 4) by omega), if_pos k3, e2, pbI_rI]
            exact ⟨M2, rfl, R2, A2⟩
          · rw [if_neg k3, if_pos (by decide)]
            by_cases z : hx tx st a < 0
            · have hn : hc tx st a = -1 := by
                unfold hx at z
                unfold hc
                by_cases y : a < st
                · rw [if_pos y] at z
                  unfold ux at z
                  have := R.2.2.2.1 a (by have := R.2.1; omega)
                  split at z <;> omega
                · rw [if_neg y]
              rw [if_neg (by rw [le32_iff] <;> omega), if_pos (by decide), if_pos (by rw [eq32_iff] <;> omega), hat, ef, pbN_rV, if_neg (by omega), if_neg (by omega), hn, if_neg (by decide)]
              exact ⟨_, rfl, rf, bad⟩
            · rw [if_pos (by rw [le32_iff] <;> omega), s_ix (by omega) (by omega), pbI_rI, hat]
              by_cases k2 : hc tx st a = 40
              · have q2 := (hx_is R (by decide) (by decide)).mpr k2
                rw [q2, show ixc 40 = -1 by decide, if_pos (by decide), if_neg (by decide)]
                by_cases k4 : b < 4
                · obtain ⟨R2, g2⟩ := go 3 a M R (ltc k2 (by decide))
                  have g3 := (g2 0).2
                  have m1 : rmu st 0 (.inr (a + 1) : rgs) = 8 * (st + 1 - (a + 1)) + 4 := rfl
                  have lt := ltc k2 (by decide)
                  obtain ⟨M2, e2, R3, A3⟩ := (ih (b + 1) (.inr (a + 1)) _ D (by omega) R2 (XHv_ag H (AGx_set at1 (Or.inl rfl)))).1 (by omega) (by omega)
                  obtain ⟨M3, e3, R4, A4⟩ := x_take (d := D) (by omega) R3 (c := 41) (by decide) (by decide)
                  rw [if_pos (by rw [lt32_iff] <;> omega), if_pos ⟨k2, k4⟩, show ((b : Int) + 1) = ((b + 1 : Nat) : Int) by omega, e2, pbI_rI, e3, pbN_rV]
                  exact ⟨M3, rfl, R4, AGx_tr (AGx_tr (AGx_set AGx_rfl (Or.inl rfl)) A3) A4⟩
                · rw [if_neg (by rw [lt32_iff] <;> omega), if_neg (fun w => k4 w.2), ef, pbN_rV, if_neg k3, k2, if_neg (by decide)]
                  exact ⟨_, rfl, rf, bad⟩
              · have q2 : hx tx st a ≠ 40 := fun w => k2 ((hx_is R (by decide) (by decide)).mp w)
                rw [if_neg (show ¬ (hc tx st a = 40 ∧ b < 4) from fun w => k2 w.1), if_neg k3]
                have same : isL (hc tx st a) = true → hx tx st a = hc tx st a := fun hl => hx_same R (by
                  have := of_decide_eq_true hl
                  omega)
                rcases ixc_L (hx tx st a) with ⟨l1, l2, l3⟩ | ⟨l1, l2⟩
                · have l4 := of_decide_eq_true l1
                  have e4 : hx tx st a = hc tx st a := by
                    have := (hx_hc R (a := a) (lo := 0) (hi := 127) (by decide) (by decide)).mp (by omega)
                    exact hx_same R this.1
                  have lt : a < st := hc_lt (tx := tx) (st := st) (by rw [← e4]; omega)
                  rw [if_neg (by rw [lt32_iff] <;> omega), if_neg (by rw [le32_iff] <;> omega), if_pos (by omega), pset_ne (by decide), e4]
                  rw [e4] at l1
                  rw [H _ l1, if_pos l1]
                  exact ⟨_, rfl, XSt_next R lt, AGx_set AGx_rfl (Or.inl rfl)⟩
                · have l5 : ¬ isL (hc tx st a) = true := fun hl => by
                    rw [same hl] at l1
                    rw [l1] at hl; cases hl
                  rw [l2, if_pos (by decide), if_pos (by rw [eq32_iff] <;> omega), ef, pbN_rV, if_neg l5]
                  exact ⟨_, rfl, rf, bad⟩
      have fin : Xout tx st M (xF d 150 [.inr 29, .inr 5, .inl (b : Int)] M) (rpF tx st lv (rp tx st lv f) b s) → Xout tx st M (pbI (xF d 150 [.inr 29, .inr 5, .inl (b : Int)] M) fun v2 M1 => if eq32 fl 0 then rI v2 M1 else some (some (.inl (-v2)), M1)) ((rpF tx st lv (rp tx st lv f) b s).1, if fl = 0 then (rpF tx st lv (rp tx st lv f) b s).2 else -(rpF tx st lv (rp tx st lv f) b s).2) := fun h => by
        obtain ⟨M2, e2, R2, A2⟩ := h
        rw [e2, pbI_rI]
        rcases hfl with rfl | rfl
        · rw [if_pos (by decide), if_pos rfl]
          exact ⟨M2, rfl, R2, A2⟩
        · rw [if_neg (by decide), if_neg (by decide)]
          exact ⟨M2, rfl, R2, A2⟩
      rw [L_Rule_negated_3_4]
      cases s with
      | inl p =>
        have hn : n ≤ 40 := hn
        by_cases z : n = 40
        · rw [if_pos (by rw [le32_iff] <;> omega)]
          exact fin (sg (fun a h => by cases h))
        · rw [if_neg (by rw [le32_iff] <;> omega), x_peekB (by omega) R, pbI_rI, if_pos (by decide)]
          exact fin (sg (fun a h => by cases h))
      | inr a =>
        have hn : n ≤ a := hn
        have la := XSt_le R
        have hr := hx_range R a
        by_cases z : n = 40
        · have h1 : hc tx st a = -1 := by
            unfold hc
            rw [if_neg (by omega)]
          rw [if_pos (by rw [le32_iff] <;> omega)]
          exact fin (sg (fun a' h => by cases h; rw [h1]; decide))
        · rw [if_neg (by rw [le32_iff] <;> omega), x_peekG (by omega) R, pbI_rI]
          by_cases k1 : hc tx st a = 45
          · have q1 := (hx_is R (by decide) (by decide)).mpr k1
            obtain ⟨R2, g2⟩ := go 3 a M R (ltc k1 (by decide))
            have g3 := (g2 3).2
            have cn : XPn (n + 1) (.inr (a + 1) : rgs) := Nat.succ_le_succ hn
            have e3 : rpF tx st lv (rp tx st lv f) b (.inr a) = ((rp tx st lv f 3 b 0 (.inr (a + 1))).1, -(rp tx st lv f 3 b 0 (.inr (a + 1))).2) := by
              unfold rpF
              dsimp only
              rw [if_pos k1]
            rw [q1, if_neg (by decide), XSt_at R, e3, show ((n : Int) + 1) = ((n + 1 : Nat) : Int) by omega]
            have A2 : AGx M (pset M 3 1 ((a : Int) + 1)) := AGx_set AGx_rfl (Or.inl rfl)
            rcases hfl with rfl | rfl
            · obtain ⟨M3, e4, R3, A3⟩ := (ih b (.inr (a + 1)) _ d hb R2 (XHv_ag H A2)).2.2.2.1 (by omega) (by omega) (n + 1) 1 (Or.inr rfl) cn
              rw [if_neg (by decide), e4]
              exact ⟨M3, rfl, R3, AGx_tr A2 A3⟩
            · obtain ⟨M3, e4, R3, A3⟩ := (ih b (.inr (a + 1)) _ d hb R2 (XHv_ag H A2)).2.2.2.1 (by omega) (by omega) (n + 1) 0 (Or.inl rfl) cn
              rw [if_pos (by decide), e4]
              refine ⟨M3, ?_, R3, AGx_tr A2 A3⟩
              show rI (rp tx st lv f 3 b 0 (.inr (a + 1))).2 M3 = rI (- -(rp tx st lv f 3 b 0 (.inr (a + 1))).2) M3
              rw [Int.neg_neg]
          · have q1 : hx tx st a ≠ 45 := fun w => k1 ((hx_is R (by decide) (by decide)).mp w)
            rw [if_pos (by rw [eq32_iff] <;> omega)]
            exact fin (sg (fun a' h => by cases h; exact k1))
    · -- on with a sum
      show Xout tx st M _ (rpA tx st (rp tx st lv f) b x s)
      unfold rpA
      rw [L_Rule_summed_3_7]
      cases s with
      | inl p =>
        have hn : n ≤ 40 := hn
        by_cases z : n = 40
        · rw [if_pos (by rw [le32_iff] <;> omega)]
          exact ⟨M, rfl, R, AGx_rfl⟩
        · rw [if_neg (by rw [le32_iff] <;> omega), x_peekB (by omega) R, pbI_rI, if_neg (by decide), if_neg (by decide)]
          exact ⟨M, rfl, R, AGx_rfl⟩
      | inr a =>
        have hn : n ≤ a := hn
        have la := XSt_le R
        have hr := hx_range R a
        have hat := XSt_at R
        have m0 : rmu st 4 (.inr a : rgs) = 8 * (st + 1 - a) := rfl
        dsimp only
        by_cases z : n = 40
        · have h1 : hc tx st a = -1 := by
            unfold hc
            rw [if_neg (by omega)]
          rw [if_pos (by rw [le32_iff] <;> omega), h1, if_neg (by decide), if_neg (by decide)]
          exact ⟨M, rfl, R, AGx_rfl⟩
        · have nx : ∀ c : Int, 0 ≤ c → hc tx st a = c → ∃ M2, xF d 148 [.inr 29, .inr 5, .inl (b : Int)] (pset M 3 1 ((a : Int) + 1)) = rI (rp tx st lv f 2 b 0 (.inr (a + 1))).2 M2 ∧ ∀ (x : Int) (y5 y6 : pV), Xout tx st M (xE d 147 7 [.inr 29, .inr 5, .inl (b : Int), .inl x, .inl ((n + 1 : Nat) : Int), y5, y6] [] M2) (rp tx st lv f 4 b x (rp tx st lv f 2 b 0 (.inr (a + 1))).1) := fun c c0 hc' => by
            obtain ⟨R2, g2⟩ := go 4 a M R (ltc hc' c0)
            have g3 := (g2 2).2
            have A2 : AGx M (pset M 3 1 ((a : Int) + 1)) := AGx_set AGx_rfl (Or.inl rfl)
            obtain ⟨M2, e2, R3, A3⟩ := (ih b (.inr (a + 1)) _ d hb R2 (XHv_ag H A2)).2.2.1 (by omega) (by omega)
            have lt1 := aft (m := 2) (m' := 4) (g := f) (x := 0) (by decide) (by decide) R2 R3
            have A4 : AGx M M2 := AGx_tr A2 A3
            exact ⟨M2, e2, fun x y5 y6 => Xout_tr A4 ((ih b _ M2 d hb R3 (XHv_ag H A4)).2.2.2.2.1 (by omega) (by omega) x (n + 1) y5 y6 (cnt (by decide) (by omega) hn))⟩
          rw [if_neg (by rw [le32_iff] <;> omega), x_peekG (by omega) R, pbI_rI, hat, show ((n : Int) + 1) = ((n + 1 : Nat) : Int) by omega]
          by_cases k1 : hc tx st a = 43
          · obtain ⟨M2, e2, h2⟩ := nx 43 (by decide) k1
            have q1 := (hx_is R (by decide) (by decide)).mpr k1
            rw [q1, if_pos (by decide), e2, pbI_rI, if_neg (by decide), if_pos k1]
            exact h2 _ _ _
          · have q1 : hx tx st a ≠ 43 := fun w => k1 ((hx_is R (by decide) (by decide)).mp w)
            rw [if_neg (by rw [eq32_iff] <;> omega), if_neg k1]
            by_cases k2 : hc tx st a = 45
            · obtain ⟨M2, e2, h2⟩ := nx 45 (by decide) k2
              have q2 := (hx_is R (by decide) (by decide)).mpr k2
              rw [q2, if_pos (by decide), e2, pbI_rI, if_pos (by decide), if_pos k2]
              exact h2 _ _ _
            · have q2 : hx tx st a ≠ 45 := fun w => k2 ((hx_is R (by decide) (by decide)).mp w)
              rw [if_neg (by rw [eq32_iff] <;> omega), if_neg k2]
              exact ⟨M, rfl, R, AGx_rfl⟩
    · -- on with a product
      show Xout tx st M _ (rpT tx st (rp tx st lv f) b x s)
      unfold rpT
      rw [L_Rule_multiplied_3_7]
      cases s with
      | inl p =>
        have hn : n ≤ 40 := hn
        by_cases z : n = 40
        · rw [if_pos (by rw [le32_iff] <;> omega)]
          exact ⟨M, rfl, R, AGx_rfl⟩
        · rw [if_neg (by rw [le32_iff] <;> omega), x_peekB (by omega) R, pbI_rI, if_neg (by decide), if_neg (by decide)]
          exact ⟨M, rfl, R, AGx_rfl⟩
      | inr a =>
        have hn : n ≤ a := hn
        have la := XSt_le R
        have hr := hx_range R a
        have hat := XSt_at R
        have m0 : rmu st 5 (.inr a : rgs) = 8 * (st + 1 - a) := rfl
        dsimp only
        by_cases z : n = 40
        · have h1 : hc tx st a = -1 := by
            unfold hc
            rw [if_neg (by omega)]
          rw [if_pos (by rw [le32_iff] <;> omega), h1, if_neg (by decide), if_neg (by decide)]
          exact ⟨M, rfl, R, AGx_rfl⟩
        · have nx : ∀ c : Int, 0 ≤ c → hc tx st a = c → ∃ M2, xF d 149 [.inr 29, .inr 5, .inl (b : Int)] (pset M 3 1 ((a : Int) + 1)) = rI (rp tx st lv f 3 b 0 (.inr (a + 1))).2 M2 ∧ ∀ (x : Int) (y5 y6 : pV), Xout tx st M (xE d 148 7 [.inr 29, .inr 5, .inl (b : Int), .inl x, .inl ((n + 1 : Nat) : Int), y5, y6] [] M2) (rp tx st lv f 5 b x (rp tx st lv f 3 b 0 (.inr (a + 1))).1) := fun c c0 hc' => by
            obtain ⟨R2, g2⟩ := go 5 a M R (ltc hc' c0)
            have g3 := (g2 3).2
            have A2 : AGx M (pset M 3 1 ((a : Int) + 1)) := AGx_set AGx_rfl (Or.inl rfl)
            obtain ⟨D, hDd, -⟩ := dsucc (show 1 ≤ d by omega)
            obtain ⟨M2, e2, R3, A3⟩ := (ih b (.inr (a + 1)) _ D hb R2 (XHv_ag H A2)).2.2.2.1 (by omega) (by omega) 0 0 (Or.inl rfl) (Nat.zero_le _)
            have e2 : xE D 149 4 [.inr 29, .inr 5, .inl (b : Int), .inl 0, .inl 0] [] (pset M 3 1 ((a : Int) + 1)) = rI (rp tx st lv f 3 b 0 (.inr (a + 1))).2 M2 := e2
            have R3 : XSt tx st M2 (rp tx st lv f 3 b 0 (.inr (a + 1))).1 := R3
            have lt1 := aft (m := 3) (m' := 5) (g := f) (x := 0) (by decide) (by decide) R2 R3
            have A4 : AGx M M2 := AGx_tr A2 A3
            refine ⟨M2, ?_, fun x y5 y6 => Xout_tr A4 ((ih b _ M2 d hb R3 (XHv_ag H A4)).2.2.2.2.2 (by omega) (by omega) x (n + 1) y5 y6 (cnt (by decide) (by omega) hn))⟩
            rw [hDd, T_Rule_negated_3, e2]
          rw [if_neg (by rw [le32_iff] <;> omega), x_peekG (by omega) R, pbI_rI, hat, show ((n : Int) + 1) = ((n + 1 : Nat) : Int) by omega]
          by_cases k1 : hc tx st a = 42
          · obtain ⟨M2, e2, h2⟩ := nx 42 (by decide) k1
            have q1 := (hx_is R (by decide) (by decide)).mpr k1
            rw [q1, if_pos (by decide), e2, pbI_rI, if_neg (by decide), if_pos k1]
            exact h2 _ _ _
          · have q1 : hx tx st a ≠ 42 := fun w => k1 ((hx_is R (by decide) (by decide)).mp w)
            rw [if_neg (by rw [eq32_iff] <;> omega), if_neg k1]
            by_cases k2 : hc tx st a = 47
            · obtain ⟨M2, e2, h2⟩ := nx 47 (by decide) k2
              have q2 := (hx_is R (by decide) (by decide)).mpr k2
              rw [q2, if_pos (by decide), e2, pbI_rI, if_pos (by decide), if_pos k2]
              by_cases z : eq32 (rp tx st lv f 3 b 0 (.inr (a + 1))).2 0
              · rw [if_neg (fun w => w z), if_pos z]
                exact h2 _ _ _
              · rw [if_pos z, if_neg z, if_neg z]
                exact h2 _ _ _
            · have q2 : hx tx st a ≠ 47 := fun w => k2 ((hx_is R (by decide) (by decide)).mp w)
              rw [if_neg (by rw [eq32_iff] <;> omega), if_neg k2]
              exact ⟨M, rfl, R, AGx_rfl⟩
end XRU
/-! rule: what it answers and what it keeps, on both sides -/
section RUL
variable {tx : Nat → Int} {st d D L : Nat} {M M' M1 M2 N : pM} {lv lv' : Int → Int} {w1 : List (Nat × Nat)} {v y : Int}
/-- what is read does not hang on what the letters are worth -/
theorem rp_fst : ∀ f m b (x x' : Int) s, (rp tx st lv f m b x s).1 = (rp tx st lv' f m b x' s).1
  | 0, _, _, _, _, _ => rfl
  | f + 1, m, b, x, x', s => by
    have ih := rp_fst f
    rcases m with _ | _ | _ | _ | _ | m
    · show (rpH tx st (rp tx st lv f) b s).1 = (rpH tx st (rp tx st lv' f) b s).1
      unfold rpH
      have e := ih 1 b 0 0 s
      cases e1 : (rp tx st lv f 1 b 0 s).1 with
      | inl q =>
        have e2 : (rp tx st lv' f 1 b 0 s).1 = .inl q := e.symm.trans e1
        rw [e2]
        exact e
      | inr a =>
        have e2 : (rp tx st lv' f 1 b 0 s).1 = .inr a := e.symm.trans e1
        rw [e2]
        dsimp only
        by_cases k1 : hc tx st a = 60
        · rw [if_pos k1, if_pos k1]; exact ih 1 b 0 0 _
        rw [if_neg k1, if_neg k1]
        by_cases k2 : hc tx st a = 62
        · rw [if_pos k2, if_pos k2]; exact ih 1 b 0 0 _
        rw [if_neg k2, if_neg k2]
        by_cases k3 : hc tx st a = 61
        · rw [if_pos k3, if_pos k3]; exact ih 1 b 0 0 _
        rw [if_neg k3, if_neg k3]
        exact e
    · show (rp tx st lv f 4 b _ (rp tx st lv f 2 b 0 s).1).1 = (rp tx st lv' f 4 b _ (rp tx st lv' f 2 b 0 s).1).1
      rw [ih 2 b 0 0 s]
      exact ih 4 b _ _ _
    · show (rp tx st lv f 5 b _ (rp tx st lv f 3 b 0 s).1).1 = (rp tx st lv' f 5 b _ (rp tx st lv' f 3 b 0 s).1).1
      rw [ih 3 b 0 0 s]
      exact ih 5 b _ _ _
    · show (rpF tx st lv (rp tx st lv f) b s).1 = (rpF tx st lv' (rp tx st lv' f) b s).1
      unfold rpF
      cases s with
      | inl q => rfl
      | inr a =>
        dsimp only
        by_cases k1 : hc tx st a = 45
        · rw [if_pos k1, if_pos k1]; exact ih 3 b 0 0 _
        rw [if_neg k1, if_neg k1]
        by_cases k2 : hc tx st a = 40 ∧ b < 4
        · rw [if_pos k2, if_pos k2]
          show sgN tx st 41 (rp tx st lv f 0 (b + 1) 0 (.inr (a + 1))).1 = sgN tx st 41 (rp tx st lv' f 0 (b + 1) 0 (.inr (a + 1))).1
          rw [ih 0 (b + 1) 0 0 _]
        rw [if_neg k2, if_neg k2]
        by_cases k3 : 48 ≤ hc tx st a ∧ hc tx st a ≤ 57
        · rw [if_pos k3, if_pos k3]
        rw [if_neg k3, if_neg k3]
        by_cases k4 : isL (hc tx st a) = true
        · rw [if_pos k4, if_pos k4]
        rw [if_neg k4, if_neg k4]
    · show (rpA tx st (rp tx st lv f) b x s).1 = (rpA tx st (rp tx st lv' f) b x' s).1
      unfold rpA
      cases s with
      | inl q => rfl
      | inr a =>
        dsimp only
        by_cases k1 : hc tx st a = 43
        · rw [if_pos k1, if_pos k1, ih 2 b 0 0 _]; exact ih 4 b _ _ _
        rw [if_neg k1, if_neg k1]
        by_cases k2 : hc tx st a = 45
        · rw [if_pos k2, if_pos k2, ih 2 b 0 0 _]; exact ih 4 b _ _ _
        rw [if_neg k2, if_neg k2]
    · show (rpT tx st (rp tx st lv f) b x s).1 = (rpT tx st (rp tx st lv' f) b x' s).1
      unfold rpT
      cases s with
      | inl q => rfl
      | inr a =>
        dsimp only
        by_cases k1 : hc tx st a = 42
        · rw [if_pos k1, if_pos k1, ih 3 b 0 0 _]; exact ih 5 b _ _ _
        rw [if_neg k1, if_neg k1]
        by_cases k2 : hc tx st a = 47
        · rw [if_pos k2, if_pos k2, ih 3 b 0 0 _]; exact ih 5 b _ _ _
        rw [if_neg k2, if_neg k2]
/-- where the reading of a text as a rule comes to -/
noncomputable def ruS (tx : Nat → Int) (L : Nat) : rgs := (rp tx (min L 40) (fun _ => 0) 400 0 0 0 (.inr 0)).1
noncomputable def ruA (tx : Nat → Int) (L : Nat) : Int := if L = 0 then 0 else match ruS tx L with
  | .inl p => -1 - (p : Int)
  | .inr a => if a < L then -1 - (a : Int) else 0
theorem x_startR (hd : 1 ≤ d) (h1 : M 1 1 = (L : Int)) (hL : L ≤ 80) (ht : ∀ i, i < 80 → M 2 i = ux (tx i)) (hx : ∀ i, i < 80 → -128 ≤ tx i ∧ tx i ≤ 127) : ∃ M', xF d 132 [.inr 5, .inl 40] M = rV M' ∧ XSt tx (min L 40) M' (.inr 0) ∧ ∀ o i, ¬ (o = 3 ∧ (i = 1 ∨ i = 2 ∨ i = 3)) → M' o i = M o i := by
  obtain ⟨D, rfl, -⟩ := dsucc hd
  have e11 : pset (pset M 3 1 0) 3 3 (-1) 1 1 = (L : Int) := by rw [pset_ne (by decide), pset_ne (by decide)]; exact h1
  have em : jmin (L : Int) 40 = ((min L 40 : Nat) : Int) := by
    rw [jmin_eq (by omega) (by omega) (by omega) (by omega)]
    omega
  refine ⟨_, T_Reader_start_3 D 40 M, ?_, fun o i h => ?_⟩
  · rw [e11, em]
    refine ⟨pset_eq, by omega, fun i hi => by rw [pset_ne (by decide), pset_ne (by decide), pset_ne (by decide)]; exact ht i hi, hx, ?_, ?_, ?_, Nat.zero_le _, ?_⟩
    · rw [pset_ne2 (by decide), pset_ne2 (by decide), pset_eq]; omega
    · rw [pset_ne2 (by decide), pset_ne2 (by decide), pset_eq]; omega
    · rw [pset_ne2 (by decide), pset_ne2 (by decide), pset_eq]; rfl
    · rw [pset_ne2 (by decide), pset_eq]
  · unfold pset
    rw [if_neg (fun z => h ⟨z.1, by omega⟩), if_neg (fun z => h ⟨z.1, by omega⟩), if_neg (fun z => h ⟨z.1, by omega⟩)]
def X3 (M M' : pM) : Prop := ∀ o i, ¬ (o = 3 ∧ (i = 1 ∨ i = 2 ∨ i = 3)) → M' o i = M o i
theorem x_ruleF (hd : 350 ≤ d) (h1 : M 1 1 = (L : Int)) (hL : L ≤ 80) (ht : ∀ i, i < 80 → M 2 i = ux (tx i)) (hx : ∀ i, i < 80 → -128 ≤ tx i ∧ tx i ≤ 127) : ∃ M', xF d 143 [.inr 29, .inr 5] M = rI (if L = 0 then -1 else match ruS tx L with
    | .inl p => (p : Int)
    | .inr a => if a < L then (a : Int) else -1) M' ∧ X3 M M' := by
  obtain ⟨D, rfl, hD⟩ := dsucc (show 1 ≤ d by omega)
  obtain ⟨M1, e1, R1, A1⟩ := x_startR (d := D) (by omega) h1 hL ht hx
  have l1 : M1 1 1 = (L : Int) := by rw [A1 1 1 (by omega)]; exact h1
  rw [T_Rule_fault, e1, pbN_rV, l1]
  by_cases q : L = 0
  · rw [if_pos (by rw [le32_iff] <;> omega), x_faultG (by omega) R1 l1 hL, pbI_rI, if_pos (by omega), if_pos q]
    exact ⟨M1, rfl, A1⟩
  · rw [if_neg (by rw [le32_iff] <;> omega), if_neg q]
    obtain ⟨D', rfl, hD'⟩ := dsucc (show 1 ≤ D by omega)
    have mu : rmu (min L 40) 0 (.inr 0 : rgs) = 8 * (min L 40 + 1 - 0) + 4 := rfl
    have H : XHv (fun c => M1 31 (ixc c).toNat) M1 := fun c _ => rfl
    obtain ⟨M2, e2, R2, A2⟩ := (XP_all (tx := tx) (lv := fun c => M1 31 (ixc c).toNat) (show min L 40 ≤ 40 by omega) 400 0 (.inr 0) M1 D' (by decide) R1 H).1 (by omega) (by omega)
    have es : (rp tx (min L 40) (fun c => M1 31 (ixc c).toNat) 400 0 0 0 (.inr 0)).1 = ruS tx L := rp_fst 400 0 0 0 0 _
    rw [es] at R2
    have A3 : X3 M M2 := fun o i h => by rw [A2 o i (fun z => h ⟨z.1, by omega⟩), A1 o i h]
    have l2 : M2 1 1 = (L : Int) := by rw [A3 1 1 (by omega)]; exact h1
    have e2 : xF D' 146 [.inr 29, .inr 5, .inl 0] M1 = rI (rp tx (min L 40) (fun c => M1 31 (ixc c).toNat) 400 0 0 0 (.inr 0)).2 M2 := e2
    rw [T_Rule_whole_3, e2, pbI_rI]
    cases e : ruS tx L with
    | inl p =>
      rw [e] at R2
      rw [x_goesB (by omega) R2, pbI_rI, if_pos (by decide), pbI_rI, x_faultB (by omega) R2, pbI_rI]
      exact ⟨M2, rfl, A3⟩
    | inr a =>
      rw [e] at R2
      have la := XSt_le R2
      rw [x_goesG (by omega) R2, pbI_rI]
      dsimp only
      by_cases z : a < min L 40
      · obtain ⟨ef, rf⟩ := x_failG (d := D') (by omega) R2 (p := a) (by omega)
        rw [if_pos z, if_neg (by decide), XSt_at R2, ef, pbN_rV, pbI_rI, x_faultB (by omega) rf, pbI_rI, if_pos (by omega)]
        exact ⟨_, rfl, fun o i h => by
          rw [← A3 o i h]
          unfold pset
          rw [if_neg (fun w => h ⟨w.1, by omega⟩)]⟩
      · rw [if_neg z, if_pos (by decide), pbI_rI, x_faultG (by omega) R2 l2 hL, pbI_rI]
        by_cases z2 : L ≤ 40
        · rw [if_pos (by omega), if_neg (by omega)]
          exact ⟨M2, rfl, A3⟩
        · rw [if_neg (by omega), if_pos (by omega), show min L 40 = a by omega]
          exact ⟨M2, rfl, A3⟩
theorem ruS_ok (h1 : M 1 1 = (L : Int)) (hL : L ≤ 80) (ht : ∀ i, i < 80 → M 2 i = ux (tx i)) (hx : ∀ i, i < 80 → -128 ≤ tx i ∧ tx i ≤ 127) : (∀ p, ruS tx L = .inl p → p ≤ 80) ∧ ∀ a, ruS tx L = .inr a → a ≤ min L 40 := by
  obtain ⟨M2, e2, R2, A2⟩ := x_startR (d := 1) (M := M) (by decide) h1 hL ht hx
  have mu : rmu (min L 40) 0 (.inr 0 : rgs) = 8 * (min L 40 + 1 - 0) + 4 := rfl
  obtain ⟨M3, e3, R3, A3⟩ := (XP_all (tx := tx) (lv := fun c => M2 31 (ixc c).toNat) (show min L 40 ≤ 40 by omega) 400 0 (.inr 0) M2 400 (by decide) R2 (fun c _ => rfl)).1 (by omega) (by omega)
  have es : (rp tx (min L 40) (fun c => M2 31 (ixc c).toNat) 400 0 0 0 (.inr 0)).1 = ruS tx L := rp_fst 400 0 0 0 0 _
  rw [es] at R3
  refine ⟨fun p hp => ?_, fun a ha => ?_⟩
  · rw [hp] at R3
    exact R3.2.2.2.2.2.2.2
  · rw [ha] at R3
    exact XSt_le R3
theorem x_rule (hd : 360 ≤ d) (h1 : M 1 1 = (L : Int)) (hL : L ≤ 80) (ht : ∀ i, i < 80 → M 2 i = ux (tx i)) (hx : ∀ i, i < 80 → -128 ≤ tx i ∧ tx i ≤ 127) : ∃ M', xF d 3 [.inr 2] M = rI (ruA tx L) M' ∧ (ruA tx L = 0 → L ≤ 40 ∧ M' 28 1 = (L : Int) ∧ ∀ i, i < 80 → M' 29 i = ux (tx i)) ∧ (ruA tx L ≠ 0 → ∀ i, M' 28 i = M 28 i ∧ M' 29 i = M 29 i) := by
  obtain ⟨D, rfl, hD⟩ := dsucc (show 1 ≤ d by omega)
  obtain ⟨D', rfl, hD'⟩ := dsucc (show 1 ≤ D by omega)
  obtain ⟨w, M1, e1, A1, w0, wl, wr⟩ : ∃ w M1, xF (D' + 1) 143 [.inr 29, .inr 5] M = rI w M1 ∧ X3 M M1 ∧ (L = 0 → w = -1) ∧ (L ≠ 0 → ∀ p, ruS tx L = .inl p → w = (p : Int)) ∧ (L ≠ 0 → ∀ a, ruS tx L = .inr a → w = if a < L then (a : Int) else -1) := by
    obtain ⟨M1, e1, A1⟩ := x_ruleF (d := D' + 1) (by omega) h1 hL ht hx
    exact ⟨_, M1, e1, A1, fun q => if_pos q, fun q p e => by rw [if_neg q, e], fun q a e => by rw [if_neg q, e]⟩
  have l1 : M1 1 1 = (L : Int) := by rw [A1 1 1 (by omega)]; exact h1
  have ec : ∀ N : pM, N 1 1 = (L : Int) → xF (D' + 1) 153 [.inr 3, .inl 0] N = rI 1 (pset N 1 1 0) := fun N hN => x_cutL (by omega) hN hL
  have eb : xF (D' + 1) 155 [.inr 30, .inr 3] M1 = rV (pset (pcp M1 2 29 80) 28 1 (L : Int)) := by
    rw [T_Text_become, c_copy_2_29 (by omega), pbN_rV, pcp_ne (by decide), l1]
  have good : (∃ M', (pbN (xF (D' + 1) 155 [.inr 30, .inr 3] M1) fun M5 => pbI (xF (D' + 1) 153 [.inr 3, .inl 0] M5) fun v7 M6 => if ¬ eq32 (-1) (-1) then rI ((-1) - (-1)) M6 else some (some (.inl 0), M6)) = rI 0 M' ∧ M' 28 1 = (L : Int) ∧ ∀ i, i < 80 → M' 29 i = ux (tx i)) := by
    rw [eb, pbN_rV, ec _ (by rw [pset_ne (by decide), pcp_ne (by decide)]; exact l1), pbI_rI, if_neg (by decide)]
    refine ⟨_, rfl, by rw [pset_ne (by decide), pset_eq], fun i hi => ?_⟩
    rw [pset_ne (by decide), pset_ne (by decide), pcp_eq hi, A1 2 i (by omega)]
    exact ht i hi
  have bad : ∀ p : Nat, p ≤ 80 → ∃ M', (pbI (xF (D' + 1) 153 [.inr 3, .inl 0] M1) fun v4 M3 => if ¬ eq32 (p : Int) (-1) then rI ((-1) - (p : Int)) M3 else some (some (.inl 0), M3)) = rI (-1 - (p : Int)) M' ∧ ∀ i, M' 28 i = M 28 i ∧ M' 29 i = M 29 i := fun p hp => by
    rw [ec M1 l1, pbI_rI, if_pos (by rw [eq32_iff] <;> omega)]
    exact ⟨_, rfl, fun i => ⟨by rw [pset_ne (by decide), A1 28 i (by omega)], by rw [pset_ne (by decide), A1 29 i (by omega)]⟩⟩
  have ok := ruS_ok h1 hL ht hx
  rw [T_X_rule, e1, pbI_rI]
  unfold ruA
  by_cases q : L = 0
  · obtain ⟨M', g1, g2, g3⟩ := good
    rw [w0 q, if_pos q, if_neg (by decide)]
    exact ⟨M', g1, fun _ => ⟨by omega, g2, g3⟩, fun h => absurd rfl h⟩
  · rw [if_neg q]
    cases e : ruS tx L with
    | inl p =>
      have hp := ok.1 p e
      obtain ⟨M', g1, g2⟩ := bad p hp
      dsimp only
      rw [wl q p e, if_pos (by rw [eq32_iff] <;> omega)]
      exact ⟨M', g1, fun h => by omega, fun _ => g2⟩
    | inr a =>
      dsimp only
      by_cases z : a < L
      · have la := ok.2 a e
        obtain ⟨M', g1, g2⟩ := bad a (by omega)
        rw [(wr q a e).trans (if_pos z), if_pos z, if_pos (by rw [eq32_iff] <;> omega)]
        exact ⟨M', g1, fun h => by omega, fun _ => g2⟩
      · obtain ⟨M', g1, g2, g3⟩ := good
        have la := ok.2 a e
        rw [(wr q a e).trans (if_neg z), if_neg z, if_neg (by decide)]
        exact ⟨M', g1, fun _ => ⟨by omega, g2, g3⟩, fun h => absurd rfl h⟩
theorem m_ru42 (hx : ∀ i, i < 80 → -128 ≤ tx i ∧ tx i ≤ 127) : ∀ (m k : Nat) (M : pM), k + m = L → L ≤ 40 → (∀ i, i < 80 → M 68 i = tx i) → (∀ i, i < k → M 71 i = tx i) → ∃ M', xE D 193 42 [.inr 62, .inl (L : Int), .inl (k : Int)] [] M = rI 0 M' ∧ M' 60 25 = (L : Int) ∧ ∀ i, i < L → M' 71 i = tx i
  | 0, k, M, hk, hL, h68, h71 => by
    rw [L_M_rule_42, if_pos (by rw [le32_iff] <;> omega)]
    exact ⟨_, rfl, pset_eq, fun i hi => by rw [pset_ne (by decide)]; exact h71 i (by omega)⟩
  | m + 1, k, M, hk, hL, h68, h71 => by
    have r := hx k (by omega)
    rw [L_M_rule_42, if_neg (by rw [le32_iff] <;> omega), if_pos (by omega), if_pos (by omega), Int.toNat_natCast, h68 k (by omega), jb_id (by omega) (by omega), show ((k : Int) + 1) = ((k + 1 : Nat) : Int) by omega]
    exact m_ru42 hx m (k + 1) _ (by omega) hL (fun i hi => by rw [pset_ne (by decide)]; exact h68 i hi) (fun i hi => by
      by_cases z : i = k
      · rw [z, pset_eq]
      · rw [pset_ne2 z]; exact h71 i (by omega))
theorem m_rule (hd : 360 ≤ d) (hM : gM gAll M) (h14 : M 60 14 = (L : Int)) (hL : L ≤ 80) (ht : ∀ i, i < 80 → M 68 i = tx i) (hx : ∀ i, i < 80 → -128 ≤ tx i ∧ tx i ≤ 127) : ∃ M', xF d 193 [.inr 62] M = rI (ruA tx L) M' ∧ (ruA tx L = 0 → M' 60 25 = (L : Int) ∧ ∀ i, i < L → M' 71 i = tx i) ∧ (ruA tx L ≠ 0 → M' 60 25 = M 60 25 ∧ ∀ i, M' 71 i = M 71 i) := by
  obtain ⟨D, rfl, hD⟩ := dsucc (show 1 ≤ d by omega)
  obtain ⟨D', rfl, hD'⟩ := dsucc (show 1 ≤ D by omega)
  have k14 : pset M 60 17 0 60 14 = (L : Int) := by rw [pset_ne2 (by decide)]; exact h14
  have gB : gM gAll (pset (pset (pset (pset (pset (pset (pset (pset M 60 17 0) 60 18 70) 60 19 (L : Int)) 60 20 40) 60 21 0) 60 22 (-1)) 60 14 0) 60 26 (-1)) := gM_f (gM_f (gM_f (gM_f (gM_f (gM_f (gM_f (gM_thr hM) (lo := 0) (hi := 200) (by decide +kernel) (by omega) (by omega)) (lo := 0) (hi := 80) (by decide +kernel) (by omega) (by omega)) (lo := 0) (hi := 80) (by decide +kernel) (by omega) (by omega)) (lo := 0) (hi := 80) (by decide +kernel) (by omega) (by omega)) (lo := -1) (hi := 80) (by decide +kernel) (by omega) (by omega)) (lo := 0) (hi := 80) (by decide +kernel) (by omega) (by omega)) (lo := -1) (hi := 9) (by decide +kernel) (by omega) (by omega)
  have fB : ∀ o i, ¬ (o = 60 ∧ (i = 14 ∨ i = 17 ∨ i = 18 ∨ i = 19 ∨ i = 20 ∨ i = 21 ∨ i = 22 ∨ i = 26)) → pset (pset (pset (pset (pset (pset (pset (pset M 60 17 0) 60 18 70) 60 19 (L : Int)) 60 20 40) 60 21 0) 60 22 (-1)) 60 14 0) 60 26 (-1) o i = M o i := fun o i h => by
    unfold pset
    rw [if_neg (fun z => h ⟨z.1, by omega⟩), if_neg (fun z => h ⟨z.1, by omega⟩), if_neg (fun z => h ⟨z.1, by omega⟩), if_neg (fun z => h ⟨z.1, by omega⟩), if_neg (fun z => h ⟨z.1, by omega⟩), if_neg (fun z => h ⟨z.1, by omega⟩), if_neg (fun z => h ⟨z.1, by omega⟩), if_neg (fun z => h ⟨z.1, by omega⟩)]
  have RB : RSq tx L 70 (pset (pset (pset (pset (pset (pset (pset (pset M 60 17 0) 60 18 70) 60 19 (L : Int)) 60 20 40) 60 21 0) 60 22 (-1)) 60 14 0) 60 26 (-1)) (.inr 0) := by
    refine ⟨?_, ?_, ?_, hL, Or.inl rfl, fun i hi => ⟨fun _ => by rw [fB 68 i (by omega)]; exact ht i hi, fun z => by cases z⟩, hx, ?_, ?_, ?_, Nat.zero_le _, ?_⟩
    · rw [pset_ne2 (by decide), pset_ne2 (by decide), pset_ne2 (by decide), pset_ne2 (by decide), pset_ne2 (by decide), pset_ne2 (by decide), pset_eq]; rfl
    · rw [pset_ne2 (by decide), pset_ne2 (by decide), pset_ne2 (by decide), pset_ne2 (by decide), pset_ne2 (by decide), pset_eq]
    · rw [pset_ne2 (by decide), pset_ne2 (by decide), pset_ne2 (by decide), pset_ne2 (by decide), pset_eq]
    · rw [pset_ne2 (by decide), pset_ne2 (by decide), pset_ne2 (by decide), pset_eq]; omega
    · rw [pset_ne2 (by decide), pset_ne2 (by decide), pset_ne2 (by decide), pset_eq]; omega
    · rw [pset_ne2 (by decide), pset_ne2 (by decide), pset_ne2 (by decide), pset_eq]; rfl
    · rw [pset_ne2 (by decide), pset_ne2 (by decide), pset_eq]
  rw [T_M_rule, T_M_begin_68, pbN_rV, k14]
  generalize pset (pset (pset (pset (pset (pset (pset (pset M 60 17 0) 60 18 70) 60 19 (L : Int)) 60 20 40) 60 21 0) 60 22 (-1)) 60 14 0) 60 26 (-1) = MB at gB fB RB
  have good : ∀ N : pM, L ≤ 40 → (∀ i, N 68 i = MB 68 i) → ∃ M', xE (D' + 1) 193 42 [.inr 62, .inl (L : Int), .inl 0] [] N = rI 0 M' ∧ M' 60 25 = (L : Int) ∧ ∀ i, i < L → M' 71 i = tx i := fun N h40 h68 => m_ru42 hx L 0 N (by omega) h40 (fun i hi => by rw [h68 i, fB 68 i (by omega)]; exact ht i hi) (fun i hi => absurd hi (Nat.not_lt_zero i))
  unfold ruA
  by_cases q : L = 0
  · rw [if_pos (by rw [le32_iff] <;> omega), if_pos q]
    obtain ⟨M', g1, g2, g3⟩ := good MB (by omega) (fun _ => rfl)
    exact ⟨M', g1, fun _ => ⟨g2, g3⟩, fun h => absurd rfl h⟩
  · rw [if_neg (by rw [le32_iff] <;> omega), if_neg q]
    have mu : rmu (min L 40) 0 (.inr 0 : rgs) = 8 * (min L 40 + 1 - 0) + 4 := rfl
    obtain ⟨lv, H⟩ := z_HLv gB
    obtain ⟨M2, e2, R2, A2⟩ := (RP_all 400 0 (.inr 0) MB (D' + 1) (by decide) RB H).1 (by omega) (by omega)
    have es : (rp tx (min L 40) lv 400 0 0 0 (.inr 0)).1 = ruS tx L := rp_fst 400 0 0 0 0 _
    rw [es] at R2
    have e2 : xF (D' + 1) 188 [.inr 62, .inl 0] MB = rI (rp tx (min L 40) lv 400 0 0 0 (.inr 0)).2 M2 := e2
    have keep : ∀ N : pM, AGr M2 N → N 60 25 = M 60 25 ∧ ∀ i, N 71 i = M 71 i := fun N hN => ⟨by rw [hN 60 25 (by omega), A2 60 25 (by omega), fB 60 25 (by omega)], fun i => by rw [hN 71 i (by omega), A2 71 i (by omega), fB 71 i (by omega)]⟩
    rw [e2, pbI_rI]
    cases e : ruS tx L with
    | inl p =>
      rw [e] at R2
      have k22 := R2.2.2.2.2.2.2.2.2.2.1
      have out : ∃ M', (pbI (xF (D' + 1) 179 [.inr 62] M2) fun v5 M4 => if ¬ eq32 v5 0 then xE (D' + 1) 193 42 [.inr 62, .inl (L : Int), .inl 0] [] M4 else some (some (.inl ((-1) - (M4 60 22))), M4)) = rI (-1 - (p : Int)) M' ∧ (-1 - (p : Int) = 0 → M' 60 25 = (L : Int) ∧ ∀ i, i < L → M' 71 i = tx i) ∧ (-1 - (p : Int) ≠ 0 → M' 60 25 = M 60 25 ∧ ∀ i, M' 71 i = M 71 i) := by
        rw [q_fineB (by omega) R2, pbI_rI, if_neg (fun z => z rfl), k22]
        exact ⟨M2, rfl, fun h => by omega, fun _ => keep M2 AGr_rfl⟩
      dsimp only
      by_cases z : le32 (L : Int) (M2 60 21)
      · rw [if_pos z]; exact out
      · rw [if_neg z, q_faultB (by omega) R2, pbN_rV]; exact out
    | inr a =>
      rw [e] at R2
      have hat := R2.2.2.2.2.2.2.2.2.2.1
      have la := RSq_le R2
      dsimp only
      rw [hat]
      by_cases z : a < L
      · obtain ⟨ef, rf⟩ := q_faultG (d := D' + 1) (by omega) R2 (p := a) (by omega)
        have k22 := rf.2.2.2.2.2.2.2.2.2.1
        rw [if_neg (by rw [le32_iff] <;> omega), ef, pbN_rV, q_fineB (by omega) rf, pbI_rI, if_neg (fun z => z rfl), k22, if_pos z]
        exact ⟨_, rfl, fun h => by omega, fun _ => keep _ (AGr_bad AGr_rfl)⟩
      · obtain ⟨M', g1, g2, g3⟩ := good M2 (by omega) (fun i => A2 68 i (by omega))
        rw [if_pos (by rw [le32_iff] <;> omega), q_fineG (by omega) R2, pbI_rI, if_pos (by decide), if_neg z]
        exact ⟨M', g1, fun _ => ⟨g2, g3⟩, fun h => absurd rfl h⟩
end RUL
/-! the reader of the rule that is kept: as 78a and 85b (by program) -/
def YSt (tx : Nat → Int) (st : Nat) (M : pM) (s : rgs) : Prop := M 30 2 = (st : Int) ∧ st ≤ 76 ∧ (∀ i, i < st → M 29 i = ux (tx i)) ∧ (∀ i, i < 80 → -128 ≤ tx i ∧ tx i ≤ 127) ∧ 0 ≤ M 30 1 ∧ M 30 1 ≤ 80 ∧ (match s with
  | .inl p => M 30 3 = (p : Int) ∧ p ≤ 80
  | .inr a => M 30 1 = (a : Int) ∧ a ≤ st ∧ M 30 3 = -1)
/-- all but where the reader stands is the same -/
def AGyo (M M' : pM) : Prop := ∀ o i, ¬ (o = 30 ∧ (i = 1 ∨ i = 3)) → M' o i = M o i
theorem AGyo_rfl {M : pM} : AGyo M M := fun _ _ _ => rfl
theorem AGyo_tr {M M1 M2 : pM} (h1 : AGyo M M1) (h2 : AGyo M1 M2) : AGyo M M2 := fun o i h => (h2 o i h).trans (h1 o i h)
theorem AGyo_set {M M' : pM} (h : AGyo M M') {k : Nat} {v : Int} (hk : k = 1 ∨ k = 3) : AGyo M (pset M' 30 k v) := fun o i q => by
  unfold pset
  rw [if_neg (fun z => q ⟨z.1, by omega⟩)]
  exact h o i q
section YR
variable {tx : Nat → Int} {st d : Nat} {M : pM}
theorem yh_range {s : rgs} (h : YSt tx st M s) (a : Nat) : -1 ≤ hx tx st a ∧ hx tx st a ≤ 255 := by
  have h4 := h.2.2.2.1
  have h2 := h.2.1
  unfold hx ux
  by_cases q : a < st
  · have := h4 a (by omega)
    rw [if_pos q]; split <;> omega
  · rw [if_neg q]; omega
/-- a sign of 0 to 127 is the same on both sides -/
theorem yh_hc {s : rgs} (h : YSt tx st M s) {a : Nat} {lo hi : Int} (h1 : 0 ≤ lo) (h2 : hi ≤ 127) : (lo ≤ hx tx st a ∧ hx tx st a ≤ hi) ↔ (lo ≤ hc tx st a ∧ hc tx st a ≤ hi) := by
  have h4 := h.2.2.2.1
  have h3 := h.2.1
  unfold hx hc ux
  by_cases q : a < st
  · have := h4 a (by omega)
    rw [if_pos q, if_pos q]; split <;> omega
  · rw [if_neg q, if_neg q]
theorem yh_same {s : rgs} (h : YSt tx st M s) {a : Nat} (h1 : 0 ≤ hc tx st a) : hx tx st a = hc tx st a := by
  unfold hx
  unfold hc at h1 ⊢
  by_cases q : a < st
  · rw [if_pos q] at h1 ⊢
    rw [if_pos q]; unfold ux; rw [if_neg (by omega)]
  · rw [if_neg q, if_neg q]
theorem yh_is {s : rgs} (h : YSt tx st M s) {a : Nat} {c : Int} (h1 : 0 ≤ c) (h2 : c ≤ 127) : hx tx st a = c ↔ hc tx st a = c := by
  have := yh_hc h (a := a) h1 h2
  constructor
  · intro e
    have := this.mp ⟨by omega, by omega⟩; omega
  · intro e
    have := this.mpr ⟨by omega, by omega⟩; omega
theorem yo_peekG (hd : 1 ≤ d) {a : Nat} (h : YSt tx st M (.inr a)) : xF d 133 [.inr 32] M = rI (hx tx st a) M := by
  obtain ⟨D, rfl, -⟩ := dsucc hd
  obtain ⟨h2, h3, h4, h5, h6, h7, h8, h9, h10⟩ := h
  rw [T_Reader_peek_30, h10, h8, h2, if_neg (fun z => z rfl), if_neg (by rw [lt32_iff] <;> omega)]
  unfold hx
  by_cases q : a < st
  · rw [if_neg (by rw [le32_iff] <;> omega), if_neg (by rw [le32_iff] <;> omega), if_pos (by omega), Int.toNat_natCast, h4 a (by omega), if_pos q]
  · rw [if_pos (by rw [le32_iff] <;> omega), if_neg q]
theorem yo_peekB (hd : 1 ≤ d) {p : Nat} (h : YSt tx st M (.inl p)) : xF d 133 [.inr 32] M = rI (-1) M := by
  obtain ⟨D, rfl, -⟩ := dsucc hd
  obtain ⟨h2, h3, h4, h5, h6, h7, h8, h9⟩ := h
  rw [T_Reader_peek_30, h8, if_pos (by rw [eq32_iff] <;> omega)]
theorem yo_goesG (hd : 1 ≤ d) {a : Nat} (h : YSt tx st M (.inr a)) : xF d 134 [.inr 32] M = rI (if a < st then 1 else 0) M := by
  obtain ⟨D, rfl, -⟩ := dsucc hd
  obtain ⟨h2, h3, h4, h5, h6, h7, h8, h9, h10⟩ := h
  rw [T_Reader_goesOn_30, h10, h8, h2, if_neg (fun z => z rfl)]
  by_cases q : a < st
  · rw [if_neg (by rw [le32_iff] <;> omega), if_pos q]
  · rw [if_pos (by rw [le32_iff] <;> omega), if_neg q]
theorem yo_goesB (hd : 1 ≤ d) {p : Nat} (h : YSt tx st M (.inl p)) : xF d 134 [.inr 32] M = rI 0 M := by
  obtain ⟨D, rfl, -⟩ := dsucc hd
  obtain ⟨h2, h3, h4, h5, h6, h7, h8, h9⟩ := h
  rw [T_Reader_goesOn_30, h8, if_pos (by rw [eq32_iff] <;> omega)]
theorem yo_failB (hd : 1 ≤ d) {p : Nat} (h : YSt tx st M (.inl p)) (v : Int) : xF d 135 [.inr 32, .inl v] M = rV M := by
  obtain ⟨D, rfl, -⟩ := dsucc hd
  obtain ⟨h2, h3, h4, h5, h6, h7, h8, h9⟩ := h
  rw [T_Reader_fail_30, h8, if_pos (by rw [eq32_iff] <;> omega)]
theorem yo_failG (hd : 1 ≤ d) {a : Nat} (h : YSt tx st M (.inr a)) {p : Nat} (hp : p ≤ 80) : xF d 135 [.inr 32, .inl (p : Int)] M = rV (pset M 30 3 p) ∧ YSt tx st (pset M 30 3 p) (.inl p) := by
  obtain ⟨D, rfl, -⟩ := dsucc hd
  obtain ⟨h2, h3, h4, h5, h6, h7, h8, h9, h10⟩ := h
  rw [T_Reader_fail_30, h10, if_neg (fun z => z rfl)]
  exact ⟨rfl, by rw [pset_ne2 (by decide)]; exact h2, h3, fun i hi => by rw [pset_ne (by decide)]; exact h4 i hi, h5, by rw [pset_ne2 (by decide)]; exact h6, by rw [pset_ne2 (by decide)]; exact h7, pset_eq, hp⟩
theorem YSt_next {a : Nat} (h : YSt tx st M (.inr a)) (ha : a < st) : YSt tx st (pset M 30 1 ((a : Int) + 1)) (.inr (a + 1)) := by
  obtain ⟨h2, h3, h4, h5, h6, h7, h8, h9, h10⟩ := h
  exact ⟨by rw [pset_ne2 (by decide)]; exact h2, h3, fun i hi => by rw [pset_ne (by decide)]; exact h4 i hi, h5, by rw [pset_eq]; omega, by rw [pset_eq]; omega, by rw [pset_eq]; omega, by omega, by rw [pset_ne2 (by decide)]; exact h10⟩
theorem YSt_at {a : Nat} (h : YSt tx st M (.inr a)) : M 30 1 = (a : Int) := h.2.2.2.2.2.2.1
theorem yo_take (hd : 2 ≤ d) {s : rgs} (h : YSt tx st M s) {c : Int} (hc0 : 0 ≤ c) (hc1 : c ≤ 127) : ∃ M', xF d 137 [.inr 32, .inl c] M = rV M' ∧ YSt tx st M' (sgN tx st c s) ∧ AGyo M M' := by
  obtain ⟨D, rfl, hD⟩ := dsucc hd
  rw [T_Reader_take_30]
  cases s with
  | inl p =>
    have h8 := h.2.2.2.2.2.2.1
    have h9 := h.2.2.2.2.2.2.2
    rw [h8, if_pos (by rw [eq32_iff] <;> omega), yo_failB (by omega) h, pbN_rV]
    exact ⟨M, rfl, h, AGyo_rfl⟩
  | inr a =>
    have h10 := h.2.2.2.2.2.2.2.2
    have ha := h.2.2.2.2.2.2.2.1
    have hr := yh_range h a
    have h3 := h.2.1
    rw [h10, if_neg (fun z => z rfl), yo_peekG (by omega) h, pbI_rI, YSt_at h]
    show ∃ M', _ ∧ YSt tx st M' (if hc tx st a = c then .inr (a + 1) else .inl a) ∧ AGyo M M'
    by_cases q : hc tx st a = c
    · have q2 := (yh_is h hc0 hc1).mpr q
      have hl : a < st := hc_lt (tx := tx) (st := st) (by rw [q]; omega)
      rw [if_neg (fun z => z (by rw [q2])), if_pos q]
      exact ⟨_, rfl, YSt_next h hl, AGyo_set AGyo_rfl (Or.inl rfl)⟩
    · have q2 : hx tx st a ≠ c := fun z => q ((yh_is h hc0 hc1).mp z)
      obtain ⟨e, r⟩ := yo_failG (d := D) (by omega) h (p := a) (by omega)
      rw [if_pos (by rw [eq32_iff] <;> omega), e, pbN_rV, if_neg q]
      exact ⟨_, rfl, r, AGyo_set AGyo_rfl (Or.inr rfl)⟩
/-- a digit of lo to hi: what it is when all is good -/
theorem yo_digit (hd : 3 ≤ d) {s : rgs} (h : YSt tx st M s) {lo hi : Int} (h1 : 0 ≤ lo) (h2 : lo ≤ 9) (h3 : -1 ≤ hi) (h4 : hi ≤ 9) : ∃ v M', xF d 139 [.inr 32, .inl lo, .inl (hi + 1)] M = rI v M' ∧ YSt tx st M' (sgD tx st lo hi s) ∧ AGyo M M' ∧ (-1 ≤ v ∧ v ≤ 9) ∧ (∀ b, sgD tx st lo hi s = .inr b → v = sgV tx st lo hi s) ∧ (∀ p, sgD tx st lo hi s = .inl p → v = -1) := by
  obtain ⟨D, rfl, hD⟩ := dsucc hd
  obtain ⟨D', rfl, hD'⟩ := dsucc (show 1 ≤ D by omega)
  rw [T_Reader_digit_30]
  cases s with
  | inl p =>
    rw [yo_peekB (by omega) h, pbI_rI, T_Reader_counted_30, if_pos (by rw [lt32_iff] <;> omega), yo_failB (by omega) h, pbN_rV, pbI_rI]
    exact ⟨_, M, rfl, h, AGyo_rfl, by decide, fun b hb => (by cases hb), fun _ _ => rfl⟩
  | inr a =>
    have ha := h.2.2.2.2.2.2.2.1
    have hr := yh_range h a
    have hst := h.2.1
    rw [yo_peekG (by omega) h, pbI_rI, T_Reader_counted_30, YSt_at h]
    show ∃ v M', _ ∧ YSt tx st M' (if 48 ≤ hc tx st a ∧ hc tx st a ≤ 57 ∧ lo ≤ hc tx st a - 48 ∧ hc tx st a - 48 ≤ hi then .inr (a + 1) else .inl a) ∧ AGyo M M' ∧ (-1 ≤ v ∧ v ≤ 9) ∧ (∀ b, (if 48 ≤ hc tx st a ∧ hc tx st a ≤ 57 ∧ lo ≤ hc tx st a - 48 ∧ hc tx st a - 48 ≤ hi then (.inr (a + 1) : rgs) else .inl a) = .inr b → v = if 48 ≤ hc tx st a ∧ hc tx st a ≤ 57 ∧ lo ≤ hc tx st a - 48 ∧ hc tx st a - 48 ≤ hi then hc tx st a - 48 else 0) ∧ (∀ p, (if 48 ≤ hc tx st a ∧ hc tx st a ≤ 57 ∧ lo ≤ hc tx st a - 48 ∧ hc tx st a - 48 ≤ hi then (.inr (a + 1) : rgs) else .inl a) = .inl p → v = -1)
    by_cases q : 48 ≤ hc tx st a ∧ hc tx st a ≤ 57 ∧ lo ≤ hc tx st a - 48 ∧ hc tx st a - 48 ≤ hi
    · have q2 := yh_same h (a := a) (by omega)
      have hl : a < st := hc_lt (tx := tx) (st := st) (by omega)
      rw [q2, if_neg (by rw [lt32_iff] <;> omega), if_pos (by rw [lt32_iff] <;> omega), pbI_rI, if_pos q, if_pos q]
      exact ⟨_, _, rfl, YSt_next h hl, AGyo_set AGyo_rfl (Or.inl rfl), by omega, fun _ _ => rfl, fun p hp => (by cases hp)⟩
    · have q2 : ¬ (lo + 48 ≤ hx tx st a ∧ hx tx st a ≤ hi + 48) := fun z => by
        have := (yh_hc h (a := a) (lo := lo + 48) (hi := hi + 48) (by omega) (by omega)).mp z
        omega
      obtain ⟨e, r⟩ := yo_failG (d := D') (by omega) h (p := a) (by omega)
      rw [if_neg q, if_neg q]
      by_cases q3 : hx tx st a - 48 < lo
      · rw [if_pos (by rw [lt32_iff] <;> omega), e, pbN_rV, pbI_rI]
        exact ⟨_, _, rfl, r, AGyo_set AGyo_rfl (Or.inr rfl), by decide, fun b hb => (by cases hb), fun _ _ => rfl⟩
      · rw [if_neg (by rw [lt32_iff] <;> omega), if_neg (by rw [lt32_iff] <;> omega), e, pbN_rV, pbI_rI]
        exact ⟨_, _, rfl, r, AGyo_set AGyo_rfl (Or.inr rfl), by decide, fun b hb => (by cases hb), fun _ _ => rfl⟩
theorem yo_seesG (hd : 2 ≤ d) {a : Nat} (h : YSt tx st M (.inr a)) : xF d 138 [.inr 32] M = rI (if 48 ≤ hc tx st a ∧ hc tx st a ≤ 57 then 1 else 0) M := by
  obtain ⟨D, rfl, hD⟩ := dsucc hd
  have hr := yh_range h a
  have e := yh_hc h (a := a) (lo := 48) (hi := 57) (by decide) (by decide)
  rw [T_Reader_seesDigit_30, yo_peekG (by omega) h, pbI_rI]
  by_cases q : 48 ≤ hc tx st a ∧ hc tx st a ≤ 57
  · have := e.mpr q
    rw [if_neg (by rw [lt32_iff] <;> omega), if_neg (by rw [lt32_iff] <;> omega), if_pos q]
  · have q2 : ¬ (48 ≤ hx tx st a ∧ hx tx st a ≤ 57) := fun z => q (e.mp z)
    rw [if_neg q]
    by_cases q3 : hx tx st a < 48
    · rw [if_pos (by rw [lt32_iff] <;> omega)]
    · rw [if_neg (by rw [lt32_iff] <;> omega), if_pos (by rw [lt32_iff] <;> omega)]
theorem yo_seesB (hd : 2 ≤ d) {p : Nat} (h : YSt tx st M (.inl p)) : xF d 138 [.inr 32] M = rI 0 M := by
  obtain ⟨D, rfl, hD⟩ := dsucc hd
  rw [T_Reader_seesDigit_30, yo_peekB (by omega) h, pbI_rI, if_pos (by decide)]
end YR
section YRU
variable {tx : Nat → Int} {st d D : Nat} {M M' : pM} {lv : Int → Int}
theorem yo_dig1 (hd : 3 ≤ d) {a : Nat} (h : YSt tx st M (.inr a)) (g : 48 ≤ hc tx st a ∧ hc tx st a ≤ 57) : ∃ M', xF d 139 [.inr 32, .inl 0, .inl 10] M = rI (hc tx st a - 48) M' ∧ YSt tx st M' (.inr (a + 1)) ∧ AGyo M M' := by
  obtain ⟨v, M1, e1, r1, a1, -, i1, -⟩ := yo_digit hd h (lo := 0) (hi := 9) (by decide) (by decide) (by decide) (by decide)
  have g1 : sgD tx st 0 9 (.inr a) = .inr (a + 1) := if_pos ⟨g.1, g.2, by omega, by omega⟩
  have g2 : sgV tx st 0 9 (.inr a) = hc tx st a - 48 := if_pos ⟨g.1, g.2, by omega, by omega⟩
  rw [g1] at r1
  have hv := i1 (a + 1) g1
  rw [g2] at hv
  have e1' : xF d 139 [.inr 32, .inl 0, .inl 10] M = rI v M1 := e1
  exact ⟨M1, by rw [e1', hv], r1, a1⟩
theorem yo_nS (hD : 3 ≤ D) {a k : Nat} (hk : k < 3) (h : YSt tx st M (.inr a)) (g : 48 ≤ hc tx st a ∧ hc tx st a ≤ 57) (x2 : Int) : ∃ M', xE D 151 4 [.inr 29, .inr 32, .inl x2, .inl (k : Int)] [] M = xE D 151 4 [.inr 29, .inr 32, .inl (x2 * 10 + (hc tx st a - 48)), .inl ((k + 1 : Nat) : Int)] [] M' ∧ YSt tx st M' (.inr (a + 1)) ∧ AGyo M M' := by
  obtain ⟨M1, e1, r1, a1⟩ := yo_dig1 hD h g
  refine ⟨M1, ?_, r1, a1⟩
  rw [L_Rule_number_30_4, if_neg (by rw [le32_iff] <;> omega), yo_seesG (by omega) h, pbI_rI, if_pos g, if_neg (by decide), e1, pbI_rI, show ((k : Int) + 1) = ((k + 1 : Nat) : Int) by omega]
theorem yo_nT (hD : 3 ≤ D) {a k : Nat} (hk : k ≤ 3) (h : YSt tx st M (.inr a)) (g : k = 3 ∨ ¬ (48 ≤ hc tx st a ∧ hc tx st a ≤ 57)) (x2 : Int) : xE D 151 4 [.inr 29, .inr 32, .inl x2, .inl (k : Int)] [] M = rI x2 M := by
  by_cases z : k = 3
  · rw [L_Rule_number_30_4, if_pos (by rw [le32_iff] <;> omega)]
  · rw [L_Rule_number_30_4, if_neg (by rw [le32_iff] <;> omega), yo_seesG (by omega) h, pbI_rI, if_neg (g.resolve_left z), if_pos (by decide)]
theorem yo_num (hd : 4 ≤ d) {a : Nat} (h : YSt tx st M (.inr a)) (g : 48 ≤ hc tx st a ∧ hc tx st a ≤ 57) : ∃ M', xF d 151 [.inr 29, .inr 32] M = rI (ndV tx st a) M' ∧ YSt tx st M' (.inr (a + ndS tx st a)) ∧ AGyo M M' := by
  obtain ⟨D, rfl, hD⟩ := dsucc hd
  obtain ⟨M1, e1, r1, a1⟩ := yo_nS (D := D) hD (k := 0) (by decide) h g 0
  rw [T_Rule_number_30, show (.inl 0 : pV) = .inl ((0 : Nat) : Int) from rfl]
  have e1 : xE D 151 4 [.inr 29, .inr 32, .inl ((0 : Nat) : Int), .inl ((0 : Nat) : Int)] [] M = xE D 151 4 [.inr 29, .inr 32, .inl (0 * 10 + (hc tx st a - 48)), .inl ((0 + 1 : Nat) : Int)] [] M1 := e1
  rw [e1]
  unfold ndS ndV
  by_cases g1 : 48 ≤ hc tx st (a + 1) ∧ hc tx st (a + 1) ≤ 57
  · obtain ⟨M2, e2, r2, a2⟩ := yo_nS (D := D) hD (k := 0 + 1) (by decide) r1 g1 (0 * 10 + (hc tx st a - 48))
    rw [if_pos g1, if_pos g1, e2]
    by_cases g2 : 48 ≤ hc tx st (a + 2) ∧ hc tx st (a + 2) ≤ 57
    · obtain ⟨M3, e3, r3, a3⟩ := yo_nS (D := D) hD (k := 0 + 1 + 1) (by decide) r2 g2 ((0 * 10 + (hc tx st a - 48)) * 10 + (hc tx st (a + 1) - 48))
      rw [if_pos g2, if_pos g2, e3, yo_nT hD (by decide) r3 (Or.inl rfl)]
      refine ⟨M3, ?_, r3, AGyo_tr a1 (AGyo_tr a2 a3)⟩
      exact congrArg (fun z => rI z M3) (by rw [show a + 1 + 1 = a + 2 from rfl]; omega)
    · rw [if_neg g2, if_neg g2, yo_nT hD (by decide) r2 (Or.inr g2)]
      exact ⟨M2, congrArg (fun z => rI z M2) (by omega), r2, AGyo_tr a1 a2⟩
  · rw [if_neg g1, if_neg g1, yo_nT hD (by decide) r1 (Or.inr g1)]
    exact ⟨M1, congrArg (fun z => rI z M1) (by omega), r1, a1⟩
def Yout (tx : Nat → Int) (st : Nat) (M : pM) (r : Option pR) (p : rgs × Int) : Prop := ∃ M', r = rI p.2 M' ∧ YSt tx st M' p.1 ∧ AGyo M M'
theorem Yout_tr {r : Option pR} {p : rgs × Int} (e : AGyo M M') (h : Yout tx st M' r p) : Yout tx st M r p := by
  obtain ⟨N, h1, h2, h3⟩ := h
  exact ⟨N, h1, h2, AGyo_tr e h3⟩
/-- the letters' values -/
def YHv (lv : Int → Int) (M : pM) : Prop := ∀ c, isL c = true → M 31 (ixc c).toNat = lv c
theorem YHv_ag (h : YHv lv M) (e : AGyo M M') : YHv lv M' := fun c hl => by rw [e 31 _ (by omega)]; exact h c hl
def YPn (n : Nat) : rgs → Prop
  | .inl _ => n ≤ 40
  | .inr a => n ≤ a
theorem YSt_le {a : Nat} (h : YSt tx st M (.inr a)) : a ≤ st := h.2.2.2.2.2.2.2.1
def YRP (tx : Nat → Int) (st : Nat) (lv : Int → Int) (f : Nat) : Prop := ∀ (b : Nat) (s : rgs) (M : pM) (d : Nat), b ≤ 4 → YSt tx st M s → YHv lv M →
  (rmu st 0 s < f → rmu st 0 s + 14 ≤ d → Yout tx st M (xF d 146 [.inr 29, .inr 32, .inl (b : Int)] M) (rp tx st lv f 0 b 0 s)) ∧
  (rmu st 1 s < f → rmu st 1 s + 14 ≤ d → Yout tx st M (xF d 147 [.inr 29, .inr 32, .inl (b : Int)] M) (rp tx st lv f 1 b 0 s)) ∧
  (rmu st 2 s < f → rmu st 2 s + 14 ≤ d → Yout tx st M (xF d 148 [.inr 29, .inr 32, .inl (b : Int)] M) (rp tx st lv f 2 b 0 s)) ∧
  (rmu st 3 s < f → rmu st 3 s + 13 ≤ d → ∀ (n : Nat) (fl : Int), (fl = 0 ∨ fl = 1) → YPn n s → Yout tx st M (xE d 149 4 [.inr 29, .inr 32, .inl (b : Int), .inl fl, .inl (n : Int)] [] M) ((rp tx st lv f 3 b 0 s).1, if fl = 0 then (rp tx st lv f 3 b 0 s).2 else -(rp tx st lv f 3 b 0 s).2)) ∧
  (rmu st 4 s < f → rmu st 4 s + 14 ≤ d → ∀ (x : Int) (n : Nat) (y5 y6 : pV), YPn n s → Yout tx st M (xE d 147 7 [.inr 29, .inr 32, .inl (b : Int), .inl x, .inl (n : Int), y5, y6] [] M) (rp tx st lv f 4 b x s)) ∧
  (rmu st 5 s < f → rmu st 5 s + 14 ≤ d → ∀ (x : Int) (n : Nat) (y5 y6 : pV), YPn n s → Yout tx st M (xE d 148 7 [.inr 29, .inr 32, .inl (b : Int), .inl x, .inl (n : Int), y5, y6] [] M) (rp tx st lv f 5 b x s))
theorem YP_all (h40 : st ≤ 40) : ∀ f, YRP tx st lv f
  | 0 => fun b s M d _ _ _ => ⟨fun h => absurd h (Nat.not_lt_zero _), fun h => absurd h (Nat.not_lt_zero _), fun h => absurd h (Nat.not_lt_zero _), fun h => absurd h (Nat.not_lt_zero _), fun h => absurd h (Nat.not_lt_zero _), fun h => absurd h (Nat.not_lt_zero _)⟩
  | f + 1 => fun b s M d hb R H => by
    have ih := YP_all h40 f
    -- a step on from a good place
    have go : ∀ (m : Nat) (a : Nat) (N : pM), YSt tx st N (.inr a) → a < st → YSt tx st (pset N 30 1 ((a : Int) + 1)) (.inr (a + 1)) ∧ ∀ m', rpk m' ≤ 4 ∧ rmu st m' (.inr (a + 1) : rgs) < rmu st m (.inr a : rgs) := fun m a N r h => ⟨YSt_next r h, fun m' => ⟨by unfold rpk; split <;> omega, by
      have k4 : rpk m' ≤ 4 := by unfold rpk; split <;> omega
      show 8 * (st + 1 - (a + 1)) + rpk m' < 8 * (st + 1 - a) + rpk m
      omega⟩⟩
    have ltc : ∀ {a : Nat} {c : Int}, hc tx st a = c → 0 ≤ c → a < st := fun {a c} h1 h2 => hc_lt (tx := tx) (st := st) (by rw [h1]; omega)
    have at1 : ∀ {N : pM}, AGyo N N := AGyo_rfl
    -- what comes behind something that was read
    have aft : ∀ {g m : Nat} {x : Int} (m' : Nat) {s : rgs} {N N' : pM}, m ≤ 3 → rpk m' < rpk m → YSt tx st N s → YSt tx st N' (rp tx st lv g m b x s).1 → rmu st m' (rp tx st lv g m b x s).1 < rmu st m s := fun {g m x} m' {s N N'} hm hk r1 r2 => rmu_lt hm (fun c e => by rw [e] at r2; exact YSt_le r2) (Or.inl hk) (fun _ _ => hk)
    -- how far the loops' counters are
    have cnt : ∀ {g m n a : Nat} {x : Int}, m ≤ 3 → n < 40 → n ≤ a → YPn (n + 1) (rp tx st lv g m b x (.inr (a + 1))).1 := fun {g m n a x} hm h1 h2 => by
      cases e : (rp tx st lv g m b x (.inr (a + 1))).1 with
      | inl q => exact (show n + 1 ≤ 40 by omega)
      | inr c =>
        obtain ⟨a', ea, h3, h4⟩ := rp_up g m b x _ c e
        cases ea
        exact (show n + 1 ≤ c by omega)
    refine ⟨fun hf hd => ?_, fun hf hd => ?_, fun hf hd => ?_, fun hf hd n fl hfl hn => ?_, fun hf hd x n y5 y6 hn => ?_, fun hf hd x n y5 y6 hn => ?_⟩
    · -- compared
      obtain ⟨D, rfl, hD⟩ := dsucc (show 1 ≤ d by omega)
      have k : rmu st 1 s + 1 = rmu st 0 s := by cases s <;> rfl
      obtain ⟨M1, e1, R1, A1⟩ := (ih b s M D hb R H).2.1 (by omega) (by omega)
      have H1 := YHv_ag H A1
      show Yout tx st M _ (rpH tx st (rp tx st lv f) b s)
      rw [T_Rule_compared_30, e1, pbI_rI]
      unfold rpH
      have lt1 := aft (m := 1) (m' := 2) (g := f) (x := 0) (N := M) (N' := M1) (by decide) (by decide) R R1
      cases e : (rp tx st lv f 1 b 0 s).1 with
      | inl p =>
        rw [e] at R1
        rw [yo_peekB (by omega) R1, pbI_rI, if_neg (by decide), if_neg (by decide), if_neg (by decide)]
        exact ⟨M1, rfl, by rw [e]; exact R1, A1⟩
      | inr a =>
        rw [e] at R1 lt1
        have lt1 : 8 * (st + 1 - a) + 2 < rmu st 1 s := lt1
        have la := YSt_le R1
        have hr := yh_range R1 a
        have hat := YSt_at R1
        dsimp only
        have nx : ∀ c : Int, 0 ≤ c → hc tx st a = c → ∃ M2, xF D 147 [.inr 29, .inr 32, .inl (b : Int)] (pset M1 30 1 ((a : Int) + 1)) = rI (rp tx st lv f 1 b 0 (.inr (a + 1))).2 M2 ∧ YSt tx st M2 (rp tx st lv f 1 b 0 (.inr (a + 1))).1 ∧ AGyo M M2 := fun c c0 hc' => by
          obtain ⟨R2, g2⟩ := go 2 a M1 R1 (ltc hc' c0)
          have g3 : rmu st 1 (.inr (a + 1) : rgs) < 8 * (st + 1 - a) + 2 := (g2 1).2
          obtain ⟨M2, e2, R3, A3⟩ := (ih b (.inr (a + 1)) _ D hb R2 (YHv_ag H1 (AGyo_set at1 (Or.inl rfl)))).2.1 (by omega) (by omega)
          exact ⟨M2, e2, R3, AGyo_tr (AGyo_set A1 (Or.inl rfl)) A3⟩
        rw [yo_peekG (by omega) R1, pbI_rI, hat]
        by_cases k1 : hc tx st a = 60
        · obtain ⟨M2, e2, R2, A2⟩ := nx 60 (by decide) k1
          have q1 := (yh_is R1 (by decide) (by decide)).mpr k1
          rw [q1, if_pos (by decide), if_pos k1, e2, pbI_rI, if_neg (by decide)]
          refine ⟨M2, ?_, R2, A2⟩
          by_cases z : le32 (rp tx st lv f 1 b 0 (.inr (a + 1))).2 (rp tx st lv f 1 b 0 s).2
          · rw [if_pos z, if_pos z, if_pos (by decide)]
          · rw [if_neg z, if_neg z, if_neg (by decide)]
        · have q1 : hx tx st a ≠ 60 := fun z => k1 ((yh_is R1 (by decide) (by decide)).mp z)
          rw [if_neg (by rw [eq32_iff] <;> omega), if_neg k1]
          by_cases k2 : hc tx st a = 62
          · obtain ⟨M2, e2, R2, A2⟩ := nx 62 (by decide) k2
            have q2 := (yh_is R1 (by decide) (by decide)).mpr k2
            rw [q2, if_pos (by decide), if_pos k2, e2, pbI_rI, if_pos (by decide), if_neg (by decide)]
            refine ⟨M2, ?_, R2, A2⟩
            by_cases z : le32 (rp tx st lv f 1 b 0 s).2 (rp tx st lv f 1 b 0 (.inr (a + 1))).2
            · rw [if_pos z, if_pos z, if_pos (by decide)]
            · rw [if_neg z, if_neg z, if_neg (by decide)]
          · have q2 : hx tx st a ≠ 62 := fun z => k2 ((yh_is R1 (by decide) (by decide)).mp z)
            rw [if_neg (by rw [eq32_iff] <;> omega), if_neg k2]
            by_cases k3 : hc tx st a = 61
            · obtain ⟨M2, e2, R2, A2⟩ := nx 61 (by decide) k3
              have q3 := (yh_is R1 (by decide) (by decide)).mpr k3
              rw [q3, if_pos (by decide), if_pos k3, e2, pbI_rI, if_pos (by decide), if_pos (by decide)]
              refine ⟨M2, ?_, R2, A2⟩
              by_cases z : eq32 (rp tx st lv f 1 b 0 s).2 (rp tx st lv f 1 b 0 (.inr (a + 1))).2
              · rw [if_neg (fun w => w z), if_neg (by decide), if_neg (fun w => w z)]
              · rw [if_pos z, if_pos z, if_pos (by decide)]
            · have q3 : hx tx st a ≠ 61 := fun z => k3 ((yh_is R1 (by decide) (by decide)).mp z)
              rw [if_neg (by rw [eq32_iff] <;> omega), if_neg k3]
              exact ⟨M1, rfl, by rw [e]; exact R1, A1⟩
    · -- summed
      obtain ⟨D, rfl, hD⟩ := dsucc (show 1 ≤ d by omega)
      have k : rmu st 2 s + 1 = rmu st 1 s := by cases s <;> rfl
      obtain ⟨M1, e1, R1, A1⟩ := (ih b s M D hb R H).2.2.1 (by omega) (by omega)
      have lt1 := aft (m := 2) (m' := 4) (g := f) (x := 0) (N := M) (N' := M1) (by decide) (by decide) R R1
      rw [T_Rule_summed_30, e1, pbI_rI]
      exact Yout_tr A1 ((ih b _ M1 D hb R1 (YHv_ag H A1)).2.2.2.2.1 (by omega) (by omega) _ 0 _ _ (by
        cases (rp tx st lv f 2 b 0 s).1
        · exact Nat.zero_le _
        · exact Nat.zero_le _))
    · -- multiplied
      obtain ⟨D, rfl, hD⟩ := dsucc (show 1 ≤ d by omega)
      obtain ⟨D', rfl, hD'⟩ := dsucc (show 1 ≤ D by omega)
      have k : rmu st 3 s + 1 = rmu st 2 s := by cases s <;> rfl
      obtain ⟨M1, e1, R1, A1⟩ := (ih b s M D' hb R H).2.2.2.1 (by omega) (by omega) 0 0 (Or.inl rfl) (by
        cases s
        · exact Nat.zero_le _
        · exact Nat.zero_le _)
      have e1 : xE D' 149 4 [.inr 29, .inr 32, .inl (b : Int), .inl 0, .inl 0] [] M = rI (rp tx st lv f 3 b 0 s).2 M1 := e1
      have R1 : YSt tx st M1 (rp tx st lv f 3 b 0 s).1 := R1
      have lt1 := aft (m := 3) (m' := 5) (g := f) (x := 0) (N := M) (N' := M1) (by decide) (by decide) R R1
      rw [T_Rule_multiplied_30, T_Rule_negated_30, e1, pbI_rI]
      exact Yout_tr A1 ((ih b _ M1 (D' + 1) hb R1 (YHv_ag H A1)).2.2.2.2.2 (by omega) (by omega) _ 0 _ _ (by
        cases (rp tx st lv f 3 b 0 s).1
        · exact Nat.zero_le _
        · exact Nat.zero_le _))
    · -- negated
      show Yout tx st M _ ((rpF tx st lv (rp tx st lv f) b s).1, if fl = 0 then (rpF tx st lv (rp tx st lv f) b s).2 else -(rpF tx st lv (rp tx st lv f) b s).2)
      -- a thing without a minus ahead of it
      have sg : (∀ a, s = .inr a → hc tx st a ≠ 45) → Yout tx st M (xF d 150 [.inr 29, .inr 32, .inl (b : Int)] M) (rpF tx st lv (rp tx st lv f) b s) := fun h45 => by
        obtain ⟨D, rfl, hD⟩ := dsucc (show 1 ≤ d by omega)
        cases s with
        | inl p =>
          rw [T_Rule_single_30, yo_peekB (by omega) R, pbI_rI, yo_seesB (by omega) R, pbI_rI, if_pos (by decide), if_neg (by decide), if_pos (by decide), if_pos (by decide), yo_failB (by omega) R, pbN_rV]
          exact ⟨M, rfl, R, AGyo_rfl⟩
        | inr a =>
          have la := YSt_le R
          have hr := yh_range R a
          have hat := YSt_at R
          have m0 : rmu st 3 (.inr a : rgs) = 8 * (st + 1 - a) + 1 := rfl
          have n45 := h45 a rfl
          obtain ⟨ef, rf⟩ := yo_failG (d := D) (by omega) R (p := a) (by omega)
          have bad : AGyo M (pset M 30 3 (a : Int)) := AGyo_set AGyo_rfl (Or.inr rfl)
          unfold rpF
          dsimp only
          rw [T_Rule_single_30, yo_peekG (by omega) R, pbI_rI, yo_seesG (by omega) R, pbI_rI, if_neg n45]
          by_cases k3 : 48 ≤ hc tx st a ∧ hc tx st a ≤ 57
          · obtain ⟨M2, e2, R2, A2⟩ := yo_num (d := D) (by omega) R k3
            rw [if_pos k3, if_neg (by decide), if_neg (show ¬ (hc tx st a = 40 ∧ b < 4) by omega), if_pos k3, e2, pbI_rI]
            exact ⟨M2, rfl, R2, A2⟩
          · rw [if_neg k3, if_pos (by decide)]
            by_cases z : hx tx st a < 0
            · have hn : hc tx st a = -1 := by
                unfold hx at z
                unfold hc
                by_cases y : a < st
                · rw [if_pos y] at z
                  unfold ux at z
                  have := R.2.2.2.1 a (by have := R.2.1; omega)
                  split at z <;> omega
                · rw [if_neg y]
              rw [if_neg (by rw [le32_iff] <;> omega), if_pos (by decide), if_pos (by rw [eq32_iff] <;> omega), hat, ef, pbN_rV, if_neg (by omega), if_neg (by omega), hn, if_neg (by decide)]
              exact ⟨_, rfl, rf, bad⟩
            · rw [if_pos (by rw [le32_iff] <;> omega), s_ix (by omega) (by omega), pbI_rI, hat]
              by_cases k2 : hc tx st a = 40
              · have q2 := (yh_is R (by decide) (by decide)).mpr k2
                rw [q2, show ixc 40 = -1 by decide, if_pos (by decide), if_neg (by decide)]
                by_cases k4 : b < 4
                · obtain ⟨R2, g2⟩ := go 3 a M R (ltc k2 (by decide))
                  have g3 := (g2 0).2
                  have m1 : rmu st 0 (.inr (a + 1) : rgs) = 8 * (st + 1 - (a + 1)) + 4 := rfl
                  have lt := ltc k2 (by decide)
                  obtain ⟨M2, e2, R3, A3⟩ := (ih (b + 1) (.inr (a + 1)) _ D (by omega) R2 (YHv_ag H (AGyo_set at1 (Or.inl rfl)))).1 (by omega) (by omega)
                  obtain ⟨M3, e3, R4, A4⟩ := yo_take (d := D) (by omega) R3 (c := 41) (by decide) (by decide)
                  rw [if_pos (by rw [lt32_iff] <;> omega), if_pos ⟨k2, k4⟩, show ((b : Int) + 1) = ((b + 1 : Nat) : Int) by omega, e2, pbI_rI, e3, pbN_rV]
                  exact ⟨M3, rfl, R4, AGyo_tr (AGyo_tr (AGyo_set AGyo_rfl (Or.inl rfl)) A3) A4⟩
                · rw [if_neg (by rw [lt32_iff] <;> omega), if_neg (fun w => k4 w.2), ef, pbN_rV, if_neg k3, k2, if_neg (by decide)]
                  exact ⟨_, rfl, rf, bad⟩
              · have q2 : hx tx st a ≠ 40 := fun w => k2 ((yh_is R (by decide) (by decide)).mp w)
                rw [if_neg (show ¬ (hc tx st a = 40 ∧ b < 4) from fun w => k2 w.1), if_neg k3]
                have same : isL (hc tx st a) = true → hx tx st a = hc tx st a := fun hl => yh_same R (by
                  have := of_decide_eq_true hl
                  omega)
                rcases ixc_L (hx tx st a) with ⟨l1, l2, l3⟩ | ⟨l1, l2⟩
                · have l4 := of_decide_eq_true l1
                  have e4 : hx tx st a = hc tx st a := by
                    have := (yh_hc R (a := a) (lo := 0) (hi := 127) (by decide) (by decide)).mp (by omega)
                    exact yh_same R this.1
                  have lt : a < st := hc_lt (tx := tx) (st := st) (by rw [← e4]; omega)
                  rw [if_neg (by rw [lt32_iff] <;> omega), if_neg (by rw [le32_iff] <;> omega), if_pos (by omega), pset_ne (by decide), e4]
                  rw [e4] at l1
                  rw [H _ l1, if_pos l1]
                  exact ⟨_, rfl, YSt_next R lt, AGyo_set AGyo_rfl (Or.inl rfl)⟩
                · have l5 : ¬ isL (hc tx st a) = true := fun hl => by
                    rw [same hl] at l1
                    rw [l1] at hl; cases hl
                  rw [l2, if_pos (by decide), if_pos (by rw [eq32_iff] <;> omega), ef, pbN_rV, if_neg l5]
                  exact ⟨_, rfl, rf, bad⟩
      have fin : Yout tx st M (xF d 150 [.inr 29, .inr 32, .inl (b : Int)] M) (rpF tx st lv (rp tx st lv f) b s) → Yout tx st M (pbI (xF d 150 [.inr 29, .inr 32, .inl (b : Int)] M) fun v2 M1 => if eq32 fl 0 then rI v2 M1 else some (some (.inl (-v2)), M1)) ((rpF tx st lv (rp tx st lv f) b s).1, if fl = 0 then (rpF tx st lv (rp tx st lv f) b s).2 else -(rpF tx st lv (rp tx st lv f) b s).2) := fun h => by
        obtain ⟨M2, e2, R2, A2⟩ := h
        rw [e2, pbI_rI]
        rcases hfl with rfl | rfl
        · rw [if_pos (by decide), if_pos rfl]
          exact ⟨M2, rfl, R2, A2⟩
        · rw [if_neg (by decide), if_neg (by decide)]
          exact ⟨M2, rfl, R2, A2⟩
      rw [L_Rule_negated_30_4]
      cases s with
      | inl p =>
        have hn : n ≤ 40 := hn
        by_cases z : n = 40
        · rw [if_pos (by rw [le32_iff] <;> omega)]
          exact fin (sg (fun a h => by cases h))
        · rw [if_neg (by rw [le32_iff] <;> omega), yo_peekB (by omega) R, pbI_rI, if_pos (by decide)]
          exact fin (sg (fun a h => by cases h))
      | inr a =>
        have hn : n ≤ a := hn
        have la := YSt_le R
        have hr := yh_range R a
        by_cases z : n = 40
        · have h1 : hc tx st a = -1 := by
            unfold hc
            rw [if_neg (by omega)]
          rw [if_pos (by rw [le32_iff] <;> omega)]
          exact fin (sg (fun a' h => by cases h; rw [h1]; decide))
        · rw [if_neg (by rw [le32_iff] <;> omega), yo_peekG (by omega) R, pbI_rI]
          by_cases k1 : hc tx st a = 45
          · have q1 := (yh_is R (by decide) (by decide)).mpr k1
            obtain ⟨R2, g2⟩ := go 3 a M R (ltc k1 (by decide))
            have g3 := (g2 3).2
            have cn : YPn (n + 1) (.inr (a + 1) : rgs) := Nat.succ_le_succ hn
            have e3 : rpF tx st lv (rp tx st lv f) b (.inr a) = ((rp tx st lv f 3 b 0 (.inr (a + 1))).1, -(rp tx st lv f 3 b 0 (.inr (a + 1))).2) := by
              unfold rpF
              dsimp only
              rw [if_pos k1]
            rw [q1, if_neg (by decide), YSt_at R, e3, show ((n : Int) + 1) = ((n + 1 : Nat) : Int) by omega]
            have A2 : AGyo M (pset M 30 1 ((a : Int) + 1)) := AGyo_set AGyo_rfl (Or.inl rfl)
            rcases hfl with rfl | rfl
            · obtain ⟨M3, e4, R3, A3⟩ := (ih b (.inr (a + 1)) _ d hb R2 (YHv_ag H A2)).2.2.2.1 (by omega) (by omega) (n + 1) 1 (Or.inr rfl) cn
              rw [if_neg (by decide), e4]
              exact ⟨M3, rfl, R3, AGyo_tr A2 A3⟩
            · obtain ⟨M3, e4, R3, A3⟩ := (ih b (.inr (a + 1)) _ d hb R2 (YHv_ag H A2)).2.2.2.1 (by omega) (by omega) (n + 1) 0 (Or.inl rfl) cn
              rw [if_pos (by decide), e4]
              refine ⟨M3, ?_, R3, AGyo_tr A2 A3⟩
              show rI (rp tx st lv f 3 b 0 (.inr (a + 1))).2 M3 = rI (- -(rp tx st lv f 3 b 0 (.inr (a + 1))).2) M3
              rw [Int.neg_neg]
          · have q1 : hx tx st a ≠ 45 := fun w => k1 ((yh_is R (by decide) (by decide)).mp w)
            rw [if_pos (by rw [eq32_iff] <;> omega)]
            exact fin (sg (fun a' h => by cases h; exact k1))
    · -- on with a sum
      show Yout tx st M _ (rpA tx st (rp tx st lv f) b x s)
      unfold rpA
      rw [L_Rule_summed_30_7]
      cases s with
      | inl p =>
        have hn : n ≤ 40 := hn
        by_cases z : n = 40
        · rw [if_pos (by rw [le32_iff] <;> omega)]
          exact ⟨M, rfl, R, AGyo_rfl⟩
        · rw [if_neg (by rw [le32_iff] <;> omega), yo_peekB (by omega) R, pbI_rI, if_neg (by decide), if_neg (by decide)]
          exact ⟨M, rfl, R, AGyo_rfl⟩
      | inr a =>
        have hn : n ≤ a := hn
        have la := YSt_le R
        have hr := yh_range R a
        have hat := YSt_at R
        have m0 : rmu st 4 (.inr a : rgs) = 8 * (st + 1 - a) := rfl
        dsimp only
        by_cases z : n = 40
        · have h1 : hc tx st a = -1 := by
            unfold hc
            rw [if_neg (by omega)]
          rw [if_pos (by rw [le32_iff] <;> omega), h1, if_neg (by decide), if_neg (by decide)]
          exact ⟨M, rfl, R, AGyo_rfl⟩
        · have nx : ∀ c : Int, 0 ≤ c → hc tx st a = c → ∃ M2, xF d 148 [.inr 29, .inr 32, .inl (b : Int)] (pset M 30 1 ((a : Int) + 1)) = rI (rp tx st lv f 2 b 0 (.inr (a + 1))).2 M2 ∧ ∀ (x : Int) (y5 y6 : pV), Yout tx st M (xE d 147 7 [.inr 29, .inr 32, .inl (b : Int), .inl x, .inl ((n + 1 : Nat) : Int), y5, y6] [] M2) (rp tx st lv f 4 b x (rp tx st lv f 2 b 0 (.inr (a + 1))).1) := fun c c0 hc' => by
            obtain ⟨R2, g2⟩ := go 4 a M R (ltc hc' c0)
            have g3 := (g2 2).2
            have A2 : AGyo M (pset M 30 1 ((a : Int) + 1)) := AGyo_set AGyo_rfl (Or.inl rfl)
            obtain ⟨M2, e2, R3, A3⟩ := (ih b (.inr (a + 1)) _ d hb R2 (YHv_ag H A2)).2.2.1 (by omega) (by omega)
            have lt1 := aft (m := 2) (m' := 4) (g := f) (x := 0) (by decide) (by decide) R2 R3
            have A4 : AGyo M M2 := AGyo_tr A2 A3
            exact ⟨M2, e2, fun x y5 y6 => Yout_tr A4 ((ih b _ M2 d hb R3 (YHv_ag H A4)).2.2.2.2.1 (by omega) (by omega) x (n + 1) y5 y6 (cnt (by decide) (by omega) hn))⟩
          rw [if_neg (by rw [le32_iff] <;> omega), yo_peekG (by omega) R, pbI_rI, hat, show ((n : Int) + 1) = ((n + 1 : Nat) : Int) by omega]
          by_cases k1 : hc tx st a = 43
          · obtain ⟨M2, e2, h2⟩ := nx 43 (by decide) k1
            have q1 := (yh_is R (by decide) (by decide)).mpr k1
            rw [q1, if_pos (by decide), e2, pbI_rI, if_neg (by decide), if_pos k1]
            exact h2 _ _ _
          · have q1 : hx tx st a ≠ 43 := fun w => k1 ((yh_is R (by decide) (by decide)).mp w)
            rw [if_neg (by rw [eq32_iff] <;> omega), if_neg k1]
            by_cases k2 : hc tx st a = 45
            · obtain ⟨M2, e2, h2⟩ := nx 45 (by decide) k2
              have q2 := (yh_is R (by decide) (by decide)).mpr k2
              rw [q2, if_pos (by decide), e2, pbI_rI, if_pos (by decide), if_pos k2]
              exact h2 _ _ _
            · have q2 : hx tx st a ≠ 45 := fun w => k2 ((yh_is R (by decide) (by decide)).mp w)
              rw [if_neg (by rw [eq32_iff] <;> omega), if_neg k2]
              exact ⟨M, rfl, R, AGyo_rfl⟩
    · -- on with a product
      show Yout tx st M _ (rpT tx st (rp tx st lv f) b x s)
      unfold rpT
      rw [L_Rule_multiplied_30_7]
      cases s with
      | inl p =>
        have hn : n ≤ 40 := hn
        by_cases z : n = 40
        · rw [if_pos (by rw [le32_iff] <;> omega)]
          exact ⟨M, rfl, R, AGyo_rfl⟩
        · rw [if_neg (by rw [le32_iff] <;> omega), yo_peekB (by omega) R, pbI_rI, if_neg (by decide), if_neg (by decide)]
          exact ⟨M, rfl, R, AGyo_rfl⟩
      | inr a =>
        have hn : n ≤ a := hn
        have la := YSt_le R
        have hr := yh_range R a
        have hat := YSt_at R
        have m0 : rmu st 5 (.inr a : rgs) = 8 * (st + 1 - a) := rfl
        dsimp only
        by_cases z : n = 40
        · have h1 : hc tx st a = -1 := by
            unfold hc
            rw [if_neg (by omega)]
          rw [if_pos (by rw [le32_iff] <;> omega), h1, if_neg (by decide), if_neg (by decide)]
          exact ⟨M, rfl, R, AGyo_rfl⟩
        · have nx : ∀ c : Int, 0 ≤ c → hc tx st a = c → ∃ M2, xF d 149 [.inr 29, .inr 32, .inl (b : Int)] (pset M 30 1 ((a : Int) + 1)) = rI (rp tx st lv f 3 b 0 (.inr (a + 1))).2 M2 ∧ ∀ (x : Int) (y5 y6 : pV), Yout tx st M (xE d 148 7 [.inr 29, .inr 32, .inl (b : Int), .inl x, .inl ((n + 1 : Nat) : Int), y5, y6] [] M2) (rp tx st lv f 5 b x (rp tx st lv f 3 b 0 (.inr (a + 1))).1) := fun c c0 hc' => by
            obtain ⟨R2, g2⟩ := go 5 a M R (ltc hc' c0)
            have g3 := (g2 3).2
            have A2 : AGyo M (pset M 30 1 ((a : Int) + 1)) := AGyo_set AGyo_rfl (Or.inl rfl)
            obtain ⟨D, hDd, -⟩ := dsucc (show 1 ≤ d by omega)
            obtain ⟨M2, e2, R3, A3⟩ := (ih b (.inr (a + 1)) _ D hb R2 (YHv_ag H A2)).2.2.2.1 (by omega) (by omega) 0 0 (Or.inl rfl) (Nat.zero_le _)
            have e2 : xE D 149 4 [.inr 29, .inr 32, .inl (b : Int), .inl 0, .inl 0] [] (pset M 30 1 ((a : Int) + 1)) = rI (rp tx st lv f 3 b 0 (.inr (a + 1))).2 M2 := e2
            have R3 : YSt tx st M2 (rp tx st lv f 3 b 0 (.inr (a + 1))).1 := R3
            have lt1 := aft (m := 3) (m' := 5) (g := f) (x := 0) (by decide) (by decide) R2 R3
            have A4 : AGyo M M2 := AGyo_tr A2 A3
            refine ⟨M2, ?_, fun x y5 y6 => Yout_tr A4 ((ih b _ M2 d hb R3 (YHv_ag H A4)).2.2.2.2.2 (by omega) (by omega) x (n + 1) y5 y6 (cnt (by decide) (by omega) hn))⟩
            rw [hDd, T_Rule_negated_30, e2]
          rw [if_neg (by rw [le32_iff] <;> omega), yo_peekG (by omega) R, pbI_rI, hat, show ((n : Int) + 1) = ((n + 1 : Nat) : Int) by omega]
          by_cases k1 : hc tx st a = 42
          · obtain ⟨M2, e2, h2⟩ := nx 42 (by decide) k1
            have q1 := (yh_is R (by decide) (by decide)).mpr k1
            rw [q1, if_pos (by decide), e2, pbI_rI, if_neg (by decide), if_pos k1]
            exact h2 _ _ _
          · have q1 : hx tx st a ≠ 42 := fun w => k1 ((yh_is R (by decide) (by decide)).mp w)
            rw [if_neg (by rw [eq32_iff] <;> omega), if_neg k1]
            by_cases k2 : hc tx st a = 47
            · obtain ⟨M2, e2, h2⟩ := nx 47 (by decide) k2
              have q2 := (yh_is R (by decide) (by decide)).mpr k2
              rw [q2, if_pos (by decide), e2, pbI_rI, if_pos (by decide), if_pos k2]
              by_cases z : eq32 (rp tx st lv f 3 b 0 (.inr (a + 1))).2 0
              · rw [if_neg (fun w => w z), if_pos z]
                exact h2 _ _ _
              · rw [if_pos z, if_neg z, if_neg z]
                exact h2 _ _ _
            · have q2 : hx tx st a ≠ 47 := fun w => k2 ((yh_is R (by decide) (by decide)).mp w)
              rw [if_neg (by rw [eq32_iff] <;> omega), if_neg k2]
              exact ⟨M, rfl, R, AGyo_rfl⟩
end YRU
/-! what a thing is worth in a room, on both sides -/
def lvG (G : pM) (t r : Nat) (c : Int) : Int := if c = 105 then (t : Int) else if c = 98 then G 3 t else if c = 119 then G 4 t else if c = 103 then G 5 t else if c = 107 then ((popc (sOf G t) : Nat) : Int) else if c = 114 then (r : Int) else if c = 122 then G 1 r else if c = 100 then ((popc (nxt G 1 r) : Nat) : Int) else if G 6 t = (r : Int) then 1 else 0
noncomputable def wvG (G : pM) (tx : Nat → Int) (L t r : Nat) : Int := if L = 0 then 0 else jmax (-999) (jmin 999 (rp tx L (lvG G t r) 400 0 0 0 (.inr 0)).2)
section WOR
variable {tx : Nat → Int} {d D L : Nat} {M M' M1 M2 N G : pM} {w1 w2 : List (Nat × Nat)} {v y : Int} {lv : Int → Int}
theorem sOf_1024 (W : WF G) (t : Nat) : sOf G t < 1024 := Nat.lt_of_lt_of_le (sOf_lt t) (show 2 ^ hS G ≤ 2 ^ 10 from Nat.pow_le_pow_right (by decide) (by have := W.2.2.1; omega))
theorem nxt_1024 (W : WF G) (w : Int) (r : Nat) : nxt G w r < 1024 := Nat.lt_of_lt_of_le (bitsOf_lt _ _) (show 2 ^ hR G ≤ 2 ^ 10 from Nat.pow_le_pow_right (by decide) (by have := W.1; omega))
def WOf (M M' : pM) : Prop := ∀ o i, ¬ (o = 60 ∧ (i = 18 ∨ i = 19 ∨ i = 20 ∨ i = 21 ∨ i = 22 ∨ i = 26 ∨ i = 27)) → M' o i = M o i
theorem MH_wof (f : WOf M M') (X : MH M G) : MH M' G := MH_c (fun o i _ h => f o i (by omega)) X
theorem x_own (hd : 350 ≤ d) (hL : L ≤ 40) (h0 : L ≠ 0) (h28 : N 28 1 = (L : Int)) (h29 : ∀ i, i < L → N 29 i = ux (tx i)) (hx : ∀ i, i < 80 → -128 ≤ tx i ∧ tx i ≤ 127) (H : YHv lv N) : ∃ M', (pbN (xF d 132 [.inr 32, .inl 40] N) fun M13 => pbI (xF d 145 [.inr 29, .inr 32] M13) fun v15 M14 => some (some (.inl (jmax (-999) (jmin 999 v15))), M14)) = rI (jmax (-999) (jmin 999 (rp tx L lv 400 0 0 0 (.inr 0)).2)) M' ∧ ∀ o i, o ≠ 30 → M' o i = N o i := by
  obtain ⟨D, rfl, hD⟩ := dsucc (show 1 ≤ d by omega)
  have e28 : pset (pset N 30 1 0) 30 3 (-1) 28 1 = (L : Int) := by rw [pset_ne (by decide), pset_ne (by decide)]; exact h28
  have em : jmin (L : Int) 40 = (L : Int) := by
    rw [jmin_eq (by omega) (by omega) (by omega) (by omega)]
    omega
  have R1 : YSt tx L (pset (pset (pset N 30 1 0) 30 3 (-1)) 30 2 (L : Int)) (.inr 0) := by
    refine ⟨pset_eq, by omega, fun i hi => by rw [pset_ne (by decide), pset_ne (by decide), pset_ne (by decide)]; exact h29 i hi, hx, ?_, ?_, ?_, Nat.zero_le _, ?_⟩
    · rw [pset_ne2 (by decide), pset_ne2 (by decide), pset_eq]; omega
    · rw [pset_ne2 (by decide), pset_ne2 (by decide), pset_eq]; omega
    · rw [pset_ne2 (by decide), pset_ne2 (by decide), pset_eq]; rfl
    · rw [pset_ne2 (by decide), pset_eq]
  have f1 : ∀ o i, o ≠ 30 → pset (pset (pset N 30 1 0) 30 3 (-1)) 30 2 (L : Int) o i = N o i := fun o i h => by rw [pset_ne h, pset_ne h, pset_ne h]
  rw [T_Reader_start_30, pbN_rV, e28, em]
  generalize pset (pset (pset N 30 1 0) 30 3 (-1)) 30 2 (L : Int) = N1 at R1 f1
  have H1 : YHv lv N1 := fun c hl => by rw [f1 31 _ (by decide)]; exact H c hl
  have mu : rmu L 0 (.inr 0 : rgs) = 8 * (L + 1 - 0) + 4 := rfl
  obtain ⟨M2, e2, R2, A2⟩ := (YP_all (tx := tx) (lv := lv) hL 400 0 (.inr 0) N1 D (by decide) R1 H1).1 (by omega) (by omega)
  have e2 : xF D 146 [.inr 29, .inr 32, .inl 0] N1 = rI (rp tx L lv 400 0 0 0 (.inr 0)).2 M2 := e2
  have f2 : ∀ o i, o ≠ 30 → M2 o i = N o i := fun o i h => by rw [A2 o i (fun z => h z.1), f1 o i h]
  rw [T_Rule_whole_30, e2, pbI_rI]
  cases e : (rp tx L lv 400 0 0 0 (.inr 0)).1 with
  | inl p =>
    rw [e] at R2
    rw [yo_goesB (by omega) R2, pbI_rI, if_pos (by decide), pbI_rI]
    exact ⟨M2, rfl, f2⟩
  | inr a =>
    rw [e] at R2
    have la := YSt_le R2
    rw [yo_goesG (by omega) R2, pbI_rI]
    by_cases z : a < L
    · obtain ⟨ef, rf⟩ := yo_failG (d := D) (by omega) R2 (p := a) (by omega)
      rw [if_pos z, if_neg (by decide), YSt_at R2, ef, pbN_rV, pbI_rI]
      exact ⟨_, rfl, fun o i h => by rw [pset_ne h, f2 o i h]⟩
    · rw [if_neg z, if_pos (by decide), pbI_rI]
      exact ⟨M2, rfl, f2⟩
theorem x_value (hd : 360 ≤ d) (W : WF G) (X : XH M G) {t r : Nat} (ht : t < hT G) (hr : r < hR G) (hL : L ≤ 40) (h28 : M 28 1 = (L : Int)) (h29 : ∀ i, i < L → M 29 i = ux (tx i)) (hx : ∀ i, i < 80 → -128 ≤ tx i ∧ tx i ≤ 127) : ∃ M', xF d 144 [.inr 29, .inr 9, .inl (t : Int), .inl (r : Int)] M = rI (wvG G tx L t r) M' ∧ ∀ o i, o ≠ 30 → o ≠ 31 → M' o i = M o i := by
  obtain ⟨D, rfl, hD⟩ := dsucc (show 1 ≤ d by omega)
  have w1 := W.1
  have w2 := W.2.1
  have wr := (W.2.2.2.2.2.2.2.1 t ht).2.2.2
  have xt := X.2.2.2.2.2.1 t ht
  rw [T_Rule_value, h28]
  unfold wvG
  by_cases q : L = 0
  · rw [if_pos (by rw [q]; decide), if_pos q]
    exact ⟨M, rfl, fun _ _ _ _ => rfl⟩
  · have r1 : pset M 31 0 (t : Int) 10 t = G 3 t := by rw [pset_ne (by decide)]; exact xt.1
    have r2 : pset (pset M 31 0 (t : Int)) 31 1 (G 3 t) 11 t = G 4 t := by rw [pset_ne (by decide), pset_ne (by decide)]; exact xt.2.1
    have r3 : pset (pset (pset M 31 0 (t : Int)) 31 1 (G 3 t)) 31 2 (G 4 t) 12 t = G 5 t := by rw [pset_ne (by decide), pset_ne (by decide), pset_ne (by decide)]; exact xt.2.2.1
    rw [if_neg (by rw [eq32_iff] <;> omega), if_neg q, c_isThing7 (by omega) W X (by omega) (by omega), pbI_rI, ite01p, if_pos (by omega), c_isRoom7 (by omega) W X (by omega) (by omega), pbI_rI, ite01pn, if_pos (by omega), if_pos (by omega), if_pos (by omega), if_pos (by omega)]
    simp only [Int.toNat_natCast]
    rw [r1, r2, r3]
    have f4 : ∀ o i, o ≠ 31 → pset (pset (pset (pset M 31 0 (t : Int)) 31 1 (G 3 t)) 31 2 (G 4 t)) 31 3 (G 5 t) o i = M o i := fun o i h => by rw [pset_ne h, pset_ne h, pset_ne h, pset_ne h]
    have v0 : pset (pset (pset (pset M 31 0 (t : Int)) 31 1 (G 3 t)) 31 2 (G 4 t)) 31 3 (G 5 t) 31 0 = (t : Int) := by rw [pset_ne2 (by decide), pset_ne2 (by decide), pset_ne2 (by decide), pset_eq]
    have v1 : pset (pset (pset (pset M 31 0 (t : Int)) 31 1 (G 3 t)) 31 2 (G 4 t)) 31 3 (G 5 t) 31 1 = G 3 t := by rw [pset_ne2 (by decide), pset_ne2 (by decide), pset_eq]
    have v2 : pset (pset (pset (pset M 31 0 (t : Int)) 31 1 (G 3 t)) 31 2 (G 4 t)) 31 3 (G 5 t) 31 2 = G 4 t := by rw [pset_ne2 (by decide), pset_eq]
    have v3 : pset (pset (pset (pset M 31 0 (t : Int)) 31 1 (G 3 t)) 31 2 (G 4 t)) 31 3 (G 5 t) 31 3 = G 5 t := pset_eq
    generalize pset (pset (pset (pset M 31 0 (t : Int)) 31 1 (G 3 t)) 31 2 (G 4 t)) 31 3 (G 5 t) = M4 at f4 v0 v1 v2 v3
    have X4 : XH M4 G := XH_eq X (fun o i _ _ _ => f4 o i (by omega))
    have r8 : pset (pset M4 31 4 ((popc (sOf G t) : Nat) : Int)) 31 5 (r : Int) 8 r = G 1 r := by rw [pset_ne (by decide), pset_ne (by decide)]; exact X4.2.2.2.1 r hr
    rw [c_setsOf (by omega) W X4 (by omega), pbI_rI, j_bitCount (by omega) (sOf_1024 W t), pbI_rI, if_pos (by omega), r8]
    have f7 : ∀ o i, o ≠ 31 → pset (pset (pset M4 31 4 ((popc (sOf G t) : Nat) : Int)) 31 5 (r : Int)) 31 6 (G 1 r) o i = M o i := fun o i h => by rw [pset_ne h, pset_ne h, pset_ne h, f4 o i h]
    have X7 : XH (pset (pset (pset M4 31 4 ((popc (sOf G t) : Nat) : Int)) 31 5 (r : Int)) 31 6 (G 1 r)) G := XH_eq X (fun o i _ _ _ => f7 o i (by omega))
    rw [c_nextTo (by omega) W X7 (by omega) (by decide) (by decide), pbI_rI, j_bitCount (by omega) (nxt_1024 W 1 r), pbI_rI, if_pos (by omega)]
    have r13 : pset (pset (pset (pset M4 31 4 ((popc (sOf G t) : Nat) : Int)) 31 5 (r : Int)) 31 6 (G 1 r)) 31 7 ((popc (nxt G 1 r) : Nat) : Int) 13 t = G 6 t := by rw [pset_ne (by decide), f7 13 t (by decide)]; exact xt.2.2.2
    -- the values stand
    have go : ∀ z : Int, (z = if G 6 t = (r : Int) then 1 else 0) → ∃ M', (pbN (xF D 132 [.inr 32, .inl 40] (pset (pset (pset (pset (pset M4 31 4 ((popc (sOf G t) : Nat) : Int)) 31 5 (r : Int)) 31 6 (G 1 r)) 31 7 ((popc (nxt G 1 r) : Nat) : Int)) 31 8 z)) fun M13 => pbI (xF D 145 [.inr 29, .inr 32] M13) fun v15 M14 => some (some (.inl (jmax (-999) (jmin 999 v15))), M14)) = rI (jmax (-999) (jmin 999 (rp tx L (lvG G t r) 400 0 0 0 (.inr 0)).2)) M' ∧ ∀ o i, o ≠ 30 → o ≠ 31 → M' o i = M o i := fun z hz => by
      have f9 : ∀ o i, o ≠ 31 → pset (pset (pset (pset (pset M4 31 4 ((popc (sOf G t) : Nat) : Int)) 31 5 (r : Int)) 31 6 (G 1 r)) 31 7 ((popc (nxt G 1 r) : Nat) : Int)) 31 8 z o i = M o i := fun o i h => by rw [pset_ne h, pset_ne h, f7 o i h]
      have lo : ∀ i, i < 4 → pset (pset (pset (pset (pset M4 31 4 ((popc (sOf G t) : Nat) : Int)) 31 5 (r : Int)) 31 6 (G 1 r)) 31 7 ((popc (nxt G 1 r) : Nat) : Int)) 31 8 z 31 i = M4 31 i := fun i hi => by rw [pset_ne2 (by omega), pset_ne2 (by omega), pset_ne2 (by omega), pset_ne2 (by omega), pset_ne2 (by omega)]
      have n4 : pset (pset (pset (pset (pset M4 31 4 ((popc (sOf G t) : Nat) : Int)) 31 5 (r : Int)) 31 6 (G 1 r)) 31 7 ((popc (nxt G 1 r) : Nat) : Int)) 31 8 z 31 4 = ((popc (sOf G t) : Nat) : Int) := by rw [pset_ne2 (by decide), pset_ne2 (by decide), pset_ne2 (by decide), pset_ne2 (by decide), pset_eq]
      have n5 : pset (pset (pset (pset (pset M4 31 4 ((popc (sOf G t) : Nat) : Int)) 31 5 (r : Int)) 31 6 (G 1 r)) 31 7 ((popc (nxt G 1 r) : Nat) : Int)) 31 8 z 31 5 = (r : Int) := by rw [pset_ne2 (by decide), pset_ne2 (by decide), pset_ne2 (by decide), pset_eq]
      have n6 : pset (pset (pset (pset (pset M4 31 4 ((popc (sOf G t) : Nat) : Int)) 31 5 (r : Int)) 31 6 (G 1 r)) 31 7 ((popc (nxt G 1 r) : Nat) : Int)) 31 8 z 31 6 = G 1 r := by rw [pset_ne2 (by decide), pset_ne2 (by decide), pset_eq]
      have n7 : pset (pset (pset (pset (pset M4 31 4 ((popc (sOf G t) : Nat) : Int)) 31 5 (r : Int)) 31 6 (G 1 r)) 31 7 ((popc (nxt G 1 r) : Nat) : Int)) 31 8 z 31 7 = ((popc (nxt G 1 r) : Nat) : Int) := by rw [pset_ne2 (by decide), pset_eq]
      have n8 : pset (pset (pset (pset (pset M4 31 4 ((popc (sOf G t) : Nat) : Int)) 31 5 (r : Int)) 31 6 (G 1 r)) 31 7 ((popc (nxt G 1 r) : Nat) : Int)) 31 8 z 31 8 = z := pset_eq
      generalize pset (pset (pset (pset (pset M4 31 4 ((popc (sOf G t) : Nat) : Int)) 31 5 (r : Int)) 31 6 (G 1 r)) 31 7 ((popc (nxt G 1 r) : Nat) : Int)) 31 8 z = N at f9 lo n4 n5 n6 n7 n8
      have H : YHv (lvG G t r) N := fun c hl => by
        have hl := of_decide_eq_true hl
        rcases hl with rfl | rfl | rfl | rfl | rfl | rfl | rfl | rfl | rfl
        · exact (lo 0 (by decide)).trans v0
        · exact (lo 1 (by decide)).trans v1
        · exact (lo 2 (by decide)).trans v2
        · exact (lo 3 (by decide)).trans v3
        · exact n4
        · exact n5
        · exact n6
        · exact n7
        · exact n8.trans hz
      obtain ⟨M', e, f⟩ := x_own (d := D) (by omega) hL q (by rw [f9 28 1 (by decide)]; exact h28) (fun i hi => by rw [f9 29 i (by decide)]; exact h29 i hi) hx H
      exact ⟨M', e, fun o i a b => by rw [f o i a, f9 o i b]⟩
    by_cases z : G 6 t = (r : Int)
    · rw [if_neg (fun w => w (by rw [r13, z]))]
      exact go 1 (by rw [if_pos z])
    · rw [if_pos (by rw [r13, eq32_iff] <;> omega)]
      exact go 0 (by rw [if_neg z])
/-- the rule that is kept is the same on both sides -/
def TR (M : pM) : Prop := ∃ L : Nat, L ≤ 40 ∧ M 28 1 = (L : Int) ∧ M 60 25 = (L : Int) ∧ ∀ i, i < L → M 29 i = ux (M 71 i)
def ct (o i : Nat) : Bool := (Nat.beq o 28 && Nat.beq i 1) || Nat.beq o 29 || (Nat.beq o 60 && Nat.beq i 25) || Nat.beq o 71
def ctq (o : Nat) : Bool := Nat.beq o 28 || Nat.beq o 29 || Nat.beq o 60 || Nat.beq o 71
theorem ct_o (o i : Nat) (h : ct o i = true) : ctq o = true := by
  unfold ct at h
  unfold ctq
  simp only [Bool.or_eq_true, Bool.and_eq_true] at h ⊢
  rcases h with ((h | h) | h) | h
  · exact Or.inl (Or.inl (Or.inl h.1))
  · exact Or.inl (Or.inl (Or.inr h))
  · exact Or.inl (Or.inr h.1)
  · exact Or.inr h
theorem ct_71 (i : Nat) : ct 71 i = true := by
  unfold ct
  simp
theorem ct_29 (i : Nat) : ct 29 i = true := by
  unfold ct
  simp
theorem TR_Fr (f : Fr w1 M M1) (h : okW ct ctq w1 = true) (T : TR M) : TR M1 := by
  have e : ∀ o i, ct o i = true → M1 o i = M o i := fun o i q => f o i (okW_no ct_o h q)
  obtain ⟨L, t1, t2, t3, t4⟩ := T
  exact ⟨L, t1, by rw [e 28 1 rfl]; exact t2, by rw [e 60 25 rfl]; exact t3, fun i hi => by rw [e 29 i (ct_29 i), e 71 i (ct_71 i)]; exact t4 i hi⟩
theorem kc_ruleT (R : RI0 M) (T : TI M) (U : TR M) (R1 : RI0 M1) (e1 : xF 1000 3 [.inr 2] M = rI v M1) (f1 : Fr w1 M M1) (k5 : wOK w1 60 14 = false) (k6 : ∀ i, wOK w1 68 i = false) (k7 : wOK w1 60 25 = false) (k8 : ∀ i, wOK w1 71 i = false) (e2 : xF 1000 193 [.inr 62] M1 = rI y M2) (f2 : Fr w2 M1 M2) (k9 : wOK w2 28 1 = false) (k10 : ∀ i, wOK w2 29 i = false) : v = y ∧ TR M2 := by
  have b0 := gm_i R.1 1 1 (lo := 0) (hi := 80) (by decide +kernel) (by decide +kernel)
  obtain ⟨L, hL⟩ := natI b0.1
  have htx : ∀ i, i < 80 → -128 ≤ M 68 i ∧ M 68 i ≤ 127 := fun i hi => gm_r R.1 (o := 68) (lo := -128) (hi := 127) (by decide +kernel) (by decide +kernel) (show i < 80 from hi)
  obtain ⟨N1, t1, a1, a2⟩ := x_rule (tx := fun i => M 68 i) (L := L) (M := M) (d := 1000) (by decide) hL (by omega) T.2 htx
  obtain ⟨N2, t2, b1, b2⟩ := m_rule (tx := fun i => M 68 i) (L := L) (M := M1) (d := 1000) (by decide) R1.1 (by rw [f1 60 14 k5, ← T.1]; exact hL) (by omega) (fun i _ => f1 68 i (k6 i)) htx
  obtain ⟨rfl, rfl⟩ := rI_inj (e1.symm.trans t1)
  obtain ⟨rfl, rfl⟩ := rI_inj (e2.symm.trans t2)
  refine ⟨rfl, ?_⟩
  by_cases z : ruA (fun i => M 68 i) L = 0
  · obtain ⟨l40, c1, c2⟩ := a1 z
    obtain ⟨d1, d2⟩ := b1 z
    exact ⟨L, l40, by rw [f2 28 1 k9]; exact c1, d1, fun i hi => by rw [f2 29 i (k10 i), c2 i (by omega), d2 i hi]⟩
  · have c := a2 z
    obtain ⟨d1, d2⟩ := b2 z
    obtain ⟨L', u1, u2, u3, u4⟩ := U
    exact ⟨L', u1, by rw [f2 28 1 k9, (c 1).1]; exact u2, by rw [d1, f1 60 25 k7]; exact u3, fun i hi => by rw [f2 29 i (k10 i), (c i).2, d2 i, f1 71 i (k8 i)]; exact u4 i hi⟩
/-- the signs of the rule that is kept -/
def trT (M : pM) (i : Nat) : Int := if i < 40 then M 71 i else 0
theorem trT_range (g : gM gAll M) : ∀ i, i < 80 → -128 ≤ trT M i ∧ trT M i ≤ 127 := fun i _ => by
  unfold trT
  by_cases z : i < 40
  · rw [if_pos z]
    exact gm_r g (o := 71) (lo := -128) (hi := 127) (by decide +kernel) (by decide +kernel) (show i < 40 from z)
  · rw [if_neg z]; omega
end WOR
/-! thing: what it answers, on both sides -/
section THI
variable {tx : Nat → Int} {d D L : Nat} {M M' M1 M2 N G : pM} {w1 : List (Nat × Nat)} {v y : Int}
end THI
/-! best: what it answers, on both sides -/
section BES
variable {tx : Nat → Int} {d D L : Nat} {M M' M1 M2 N G : pM} {w1 : List (Nat × Nat)} {v y : Int}
theorem wv_range (tx : Nat → Int) (L t r : Nat) : -999 ≤ wvG G tx L t r ∧ wvG G tx L t r ≤ 999 := by
  unfold wvG
  by_cases q : L = 0
  · rw [if_pos q]; omega
  · rw [if_neg q]
    generalize (rp tx L (lvG G t r) 400 0 0 0 (.inr 0)).2 = x
    have h : -2147483648 ≤ jmin 999 x ∧ jmin 999 x ≤ 999 := by
      unfold jmin
      by_cases q : lt32 x 999
      · rw [if_pos q]
        have q2 : (iI x).toInt < (iI 999).toInt := Int32.lt_iff_toInt_lt.mp q
        have e9 : (iI 999).toInt = 999 := toI_id (by decide) (by decide)
        have := r32a (iI x)
        omega
      · rw [if_neg q]
        have e9 : (iI 999).toInt = 999 := toI_id (by decide) (by decide)
        omega
    rw [jmax_eq (by decide) (by decide) (by omega) (by omega)]
    omega
def bdB (n : Nat) (M : pM) : Prop := ∀ i, i < 60 → -(999 * (n : Int)) ≤ M 37 i ∧ M 37 i ≤ 999 * (n : Int)
def BEf (M M' : pM) : Prop := ∀ o i, o ≠ 37 → o ≠ 30 → o ≠ 31 → M' o i = M o i
theorem x_be23 (hd : 362 ≤ d) (W : WF G) (hL : L ≤ 40) (hx : ∀ i, i < 80 → -128 ≤ tx i ∧ tx i ≤ 127) {k : Nat} (hk : k < hT G) : ∀ m r n (M : pM), r + m = hR G → n + m ≤ 60 → XH M G → CL M G → M 28 1 = (L : Int) → (∀ i, i < L → M 29 i = ux (tx i)) → bdB n M → ∃ M', xE d 23 23 [.inr 2, .inl (k : Int), .inl (r : Int)] [] M = xE d 23 16 [.inr 2, .inl ((k + 1 : Nat) : Int), .inl (hR G : Int)] [] M' ∧ bdB (n + m) M' ∧ BEf M M'
  | 0, r, n, M, hr, hn, X, C, h28, h29, b => by
    have w1 := W.1
    have er : r = hR G := by omega
    rw [L_X_best_23, X.1, if_pos (by rw [le32_iff] <;> omega), show ((k : Int) + 1) = ((k + 1 : Nat) : Int) by omega, er]
    exact ⟨M, rfl, b, fun _ _ _ _ _ => rfl⟩
  | m + 1, r, n, M, hr, hn, X, C, h28, h29, b => by
    have w1 := W.1
    have w2 := W.2.1
    have n10 := nC_le W
    have ok := (oOf_in W hk).1
    obtain ⟨D, eD, hD⟩ := dsucc (show 1 ≤ d by omega)
    obtain ⟨M1, e1, f1⟩ := x_value (d := d) (by omega) W X hk (show r < hR G by omega) hL h28 h29 hx
    have wr := wv_range (G := G) tx L k r
    have b1 : ∀ i, i < 60 → -(999 * (n : Int)) ≤ M1 37 i ∧ M1 37 i ≤ 999 * (n : Int) := fun i hi => by rw [f1 37 i (by decide) (by decide)]; exact b i hi
    have f2 : BEf M (pset M1 37 (6 * oOf G k + r) (M1 37 (6 * oOf G k + r) + wvG G tx L k r)) := fun o i h1 h2 h3 => by rw [pset_ne h1, f1 o i h2 h3]
    obtain ⟨M', e2, b2, f3⟩ := x_be23 hd W hL hx hk m (r + 1) (n + 1) (pset M1 37 (6 * oOf G k + r) (M1 37 (6 * oOf G k + r) + wvG G tx L k r)) (by omega) (by omega) (XH_eq X (fun o i _ _ _ => f2 o i (by omega) (by omega) (by omega))) (by
      obtain ⟨c1, c2, c3⟩ := C
      exact ⟨by rw [f2 7 12 (by decide) (by decide) (by decide)]; exact c1, fun i hi => by rw [f2 15 i (by decide) (by decide) (by decide)]; exact c2 i hi, fun t ht => by rw [f2 16 t (by decide) (by decide) (by decide)]; exact c3 t ht⟩) (by rw [f2 28 1 (by decide) (by decide) (by decide)]; exact h28) (fun i hi => by rw [f2 29 i (by decide) (by decide) (by decide)]; exact h29 i hi) (fun i hi => by
      have := b1 i hi
      by_cases z : i = 6 * oOf G k + r
      · rw [z, pset_eq]
        rw [z] at this
        omega
      · rw [pset_ne2 z]
        omega)
    subst eD
    refine ⟨M', ?_, by rw [show n + (m + 1) = n + 1 + m by omega]; exact b2, fun o i h1 h2 h3 => by rw [f3 o i h1 h2 h3, f2 o i h1 h2 h3]⟩
    rw [L_X_best_23, X.1, if_neg (by rw [le32_iff] <;> omega), if_pos (by omega), e1, pbI_rI, Int.toNat_natCast, show M 16 k = (oOf G k : Int) from C.2.2 k hk, T_Walk_add, if_neg (by rw [lt32_iff] <;> omega), if_neg (by rw [le32_iff] <;> omega), if_neg (by rw [lt32_iff] <;> omega), if_neg (by rw [le32_iff] <;> omega), if_pos (by omega), if_pos (by omega), show ((oOf G k : Int) * 6 + (r : Int)).toNat = 6 * oOf G k + r by omega, pbN_rV, show ((r : Int) + 1) = ((r + 1 : Nat) : Int) by omega]
    exact e2
theorem x_be16 (hd : 362 ≤ d) (W : WF G) (hL : L ≤ 40) (hx : ∀ i, i < 80 → -128 ≤ tx i ∧ tx i ≤ 127) : ∀ m k n (y2 : pV) (M : pM), k + m = hT G → n + 6 * m ≤ 60 → XH M G → CL M G → M 28 1 = (L : Int) → (∀ i, i < L → M 29 i = ux (tx i)) → bdB n M → ∃ (y2' : pV) (M' : pM), xE d 23 16 [.inr 2, .inl (k : Int), y2] [] M = xE d 23 16 [.inr 2, .inl (hT G : Int), y2'] [] M' ∧ bdB 60 M' ∧ BEf M M'
  | 0, k, n, y2, M, hk, hn, X, C, h28, h29, b => by
    have ek : k = hT G := by omega
    rw [ek]
    exact ⟨y2, M, rfl, fun i hi => by have := b i hi; omega, fun _ _ _ _ _ => rfl⟩
  | m + 1, k, n, y2, M, hk, hn, X, C, h28, h29, b => by
    have w1 := W.1
    have w2 := W.2.1
    obtain ⟨M1, e1, b1, f1⟩ := x_be23 hd W hL hx (show k < hT G by omega) (hR G) 0 n M (by omega) (by omega) X C h28 h29 b
    obtain ⟨y2', M', e2, b2, f2⟩ := x_be16 hd W hL hx m (k + 1) (n + hR G) (.inl (hR G : Int)) M1 (by omega) (by omega) (XH_eq X (fun o i _ _ _ => f1 o i (by omega) (by omega) (by omega))) (by
      obtain ⟨c1, c2, c3⟩ := C
      exact ⟨by rw [f1 7 12 (by decide) (by decide) (by decide)]; exact c1, fun i hi => by rw [f1 15 i (by decide) (by decide) (by decide)]; exact c2 i hi, fun t ht => by rw [f1 16 t (by decide) (by decide) (by decide)]; exact c3 t ht⟩) (by rw [f1 28 1 (by decide) (by decide) (by decide)]; exact h28) (fun i hi => by rw [f1 29 i (by decide) (by decide) (by decide)]; exact h29 i hi) b1
    refine ⟨y2', M', ?_, b2, fun o i h1 h2 h3 => by rw [f2 o i h1 h2 h3, f1 o i h1 h2 h3]⟩
    rw [L_X_best_16, X.2.1, if_neg (by rw [le32_iff] <;> omega)]
    exact e1.trans e2
theorem x_be (hd : 362 ≤ d) (W : WF G) (B : WB0 (hR G) (nC G) (G 1) (bkG G)) (hL : L ≤ 40) (hx : ∀ i, i < 80 → -128 ≤ tx i ∧ tx i ≤ 127) (X : XH N G) (C : CL N G) (h28 : N 28 1 = (L : Int)) (h29 : ∀ i, i < L → N 29 i = ux (tx i)) (K : WK N (hR G) (nC G) (G 1) (bkG G)) (F : WF0 N (hR G) (nC G)) (t0 : ∀ i, i < 60 → N 37 i = 0) (y2 : pV) (e : xE d 23 16 [.inr 2, .inl ((0 : Nat) : Int), y2] [] N = rI v M') : v = if cntTo (fnG G) (hR G ^ nC G) = 0 then -2 else 1 := by
  have w1 := W.1
  have w2 := W.2.1
  obtain ⟨y2', N2, e1, b2, f2⟩ := x_be16 hd W hL hx (hT G) 0 0 y2 N (by omega) (by omega) X C h28 h29 (fun i hi => by rw [t0 i hi]; omega)
  have K2 : WK N2 (hR G) (nC G) (G 1) (bkG G) := by
    obtain ⟨k1, k2, k3, k4⟩ := K
    exact ⟨by rw [f2 32 6 (by decide) (by decide) (by decide)]; exact k1, by rw [f2 32 7 (by decide) (by decide) (by decide)]; exact k2, fun r hr => by rw [f2 33 r (by decide) (by decide) (by decide)]; exact k3 r hr, fun j hj => by rw [f2 35 j (by decide) (by decide) (by decide)]; exact k4 j hj⟩
  have F2 : WF0 N2 (hR G) (nC G) := by
    obtain ⟨k1, k2, k3, k4⟩ := F
    exact ⟨by rw [f2 32 8 (by decide) (by decide) (by decide)]; exact k1, by rw [f2 32 9 (by decide) (by decide) (by decide)]; exact k2, fun j hj => by rw [f2 36 j (by decide) (by decide) (by decide)]; exact k3 j hj, fun r hr => by rw [f2 34 r (by decide) (by decide) (by decide)]; exact k4 r hr⟩
  have X2 : XH N2 G := XH_eq X (fun o i _ _ _ => f2 o i (by omega) (by omega) (by omega))
  have C2 : CL N2 G := by
    obtain ⟨c1, c2, c3⟩ := C
    exact ⟨by rw [f2 7 12 (by decide) (by decide) (by decide)]; exact c1, fun i hi => by rw [f2 15 i (by decide) (by decide) (by decide)]; exact c2 i hi, fun t ht => by rw [f2 16 t (by decide) (by decide) (by decide)]; exact c3 t ht⟩
  have hv : ∀ c, -100000000 ≤ svT (hR G) (nC G) (N2 37) c ∧ svT (hR G) (nC G) (N2 37) c ≤ 100000000 := fun c => by
    have n10 := nC_le W
    rcases Nat.eq_zero_or_pos (hR G) with z | z
    · have t0 := R0_T0 W z
      have c0 : nC G = 0 := by have := nC_T G; omega
      unfold svT
      rw [c0]
      show -100000000 ≤ (0 : Int) ∧ (0 : Int) ≤ 100000000
      omega
    · have s := sumTo_range (f := fun j => N2 37 (6 * j + dg (hR G) (nC G) c j)) (lo := -(999 * 60)) (hi := 999 * 60) (n := nC G) (fun j hj => by
        have dl := dg_lt (R := hR G) (C := nC G) (code := c) z j
        exact b2 _ (by omega))
      have s : ((nC G : Nat) : Int) * (-(999 * 60)) ≤ svT (hR G) (nC G) (N2 37) c ∧ svT (hR G) (nC G) (N2 37) c ≤ (nC G : Int) * (999 * 60) := s
      omega
  obtain ⟨N3, c1, c2, c3⟩ := x_choose (d := d) (by omega) B hv K2 F2 (fun i _ => rfl)
  have cn : (chF (fnW (hR G) (nC G) (G 1) (bkG G)) (svT (hR G) (nC G) (N2 37)) (hR G ^ nC G)).1 = cntTo (fnG G) (hR G ^ nC G) := by
    rw [chF_cnt, show fnW (hR G) (nC G) (G 1) (bkG G) = fnG G from funext fnG_bk]
  rw [cn] at c1
  rw [e1, L_X_best_16, X2.2.1, if_pos (by rw [le32_iff] <;> omega), c1, pbI_rI] at e
  by_cases z : cntTo (fnG G) (hR G ^ nC G) = 0
  · rw [if_pos z, if_neg (fun w => w (by decide))] at e
    rw [if_pos z]
    exact (rI_inj e).1.symm
  · rw [if_neg z, if_pos (by decide)] at e
    obtain ⟨_, -, e⟩ := pbN_inv e
    obtain ⟨_, -, e⟩ := pbN_inv e
    obtain ⟨_, -, e⟩ := pbN_inv e
    rw [if_neg z]
    exact (rI_inj e).1.symm
theorem wWo_no {o i : Nat} (h : ¬ (o = 60 ∧ (i = 18 ∨ i = 19 ∨ i = 20 ∨ i = 21 ∨ i = 22 ∨ i = 26 ∨ i = 27))) : wOK wWorth o i = false := by
  cases zz : wOK wWorth o i with
  | false => rfl
  | true =>
    exfalso
    obtain ⟨w, hw, h3⟩ := List.any_eq_true.mp zz
    rw [Bool.and_eq_true, Bool.or_eq_true] at h3
    have k1 := Nat.eq_of_beq_eq_true h3.1
    unfold wWorth at hw
    simp only [List.mem_cons, List.not_mem_nil, or_false] at hw
    rcases hw with rfl | rfl | rfl | rfl | rfl | rfl | rfl
    all_goals
      rcases h3.2 with h4 | h4
      · have k2 := Nat.eq_of_beq_eq_true h4
        exact h ⟨k1.symm, by omega⟩
      · cases h4
theorem SR_wo {a : Nat} (f : Fr wWorth M M') (g : gM gAll M') (S : SR M G a) : SR M' G a := by
  have f : WOf M M' := fun o i h => f o i (wWo_no h)
  obtain ⟨-, s2, s3, s4, s5, s6, s7, s8⟩ := S
  exact ⟨g, MH_wof f s2, by rw [f 60 38 (by omega)]; exact s3, by rw [f 60 30 (by omega)]; exact s4, by rw [f 60 39 (by omega)]; exact s5, by rw [f 60 40 (by omega)]; exact s6, fun t ht => by rw [f 72 t (by omega)]; exact s7 t ht, fun i hi => by rw [f 73 i (by omega)]; exact s8 i hi⟩
theorem m_be14 (hD : 392 ≤ D) (W : WF G) (hW : hR G ^ nC G ≤ 20000) : ∀ m a (x1 x2 : Int) (y3 : pV) (M : pM), hR G ^ nC G - a + 1 ≤ m → a ≤ hR G ^ nC G → SR M G a → ((x1 = 0 ∧ cntTo (fnG G) a = 0) ∨ (x1 = 1 ∧ cntTo (fnG G) a ≠ 0)) → xE D 236 14 [.inr 62, .inl x1, .inl x2, y3] [] M = rI y M2 → y = if cntTo (fnG G) (hR G ^ nC G) = 0 then -2 else 1 := by
  have w1 := W.1
  have w2 := W.2.1
  intro m
  induction m with
  | zero => intro a x1 x2 y3 M hm; omega
  | succ m ih =>
    intro a x1 x2 y3 M hm ha S hx e
    obtain ⟨N, n1, g1, r⟩ := m_nextG (d := D) (by omega) W hW ha S
    rw [L_M_best_14] at e
    rcases r with ⟨r1, c, c1, c2, c3, c4, c5, c6⟩ | ⟨r1, nf⟩
    · have cc : cntTo (fnG G) (c + 1) ≠ 0 := by
        have e1 : cntTo (fnG G) (c + 1) = if fnG G c then cntTo (fnG G) c + 1 else cntTo (fnG G) c := rfl
        rw [e1, c3, if_pos rfl]
        exact Nat.succ_ne_zero _
      obtain ⟨z, N1, e1, g2, f1⟩ := m_worthAll78 (d := D) (by omega) g1 c5.2.1.2.1 w2 (fun t ht => by
        have := dg_lt (R := hR G) (C := nC G) (code := c) (by have := (W.2.2.2.2.2.2.2.1 t ht).2.2.2; omega) (oOf G t)
        rw [c6 t ht]
        unfold plG
        omega)
      have S1 := SR_wo f1 g2 c5
      have tk : ∃ N4, xF D 233 [.inr 62] N1 = rV N4 ∧ SR N4 G (c + 1) := by
        obtain ⟨N2, u1, u2, u3⟩ := u_take (d := D) (by omega) S1.1
        exact ⟨N2, u1, SR_Fr u3 u2 (by decide) S1⟩
      obtain ⟨N4, t1, t2⟩ := tk
      rw [r1, pbI_rI, if_neg (by decide), e1, pbI_rI] at e
      rcases hx with ⟨rfl, hx⟩ | ⟨rfl, hx⟩
      · rw [if_pos (by decide), t1, pbN_rV] at e
        exact ih (c + 1) 1 _ _ N4 (by omega) (by omega) t2 (Or.inr ⟨rfl, cc⟩) e
      · rw [if_neg (by decide)] at e
        split at e
        · rw [t1, pbN_rV] at e
          exact ih (c + 1) 1 _ _ N4 (by omega) (by omega) t2 (Or.inr ⟨rfl, cc⟩) e
        · exact ih (c + 1) 1 _ _ N1 (by omega) (by omega) S1 (Or.inr ⟨rfl, cc⟩) e
    · have to := cnt_to (fine := fnG G) ha nf
      rw [r1, pbI_rI, if_pos (by decide)] at e
      rw [to]
      rcases hx with ⟨rfl, hx⟩ | ⟨rfl, hx⟩
      · rw [if_neg (fun w => w (by decide))] at e
        rw [if_pos hx]
        exact (rI_inj e).1.symm
      · rw [if_pos (by decide)] at e
        obtain ⟨_, -, e⟩ := pbN_inv e
        obtain ⟨_, -, e⟩ := pbN_inv e
        rw [if_neg hx]
        exact (rI_inj e).1.symm
theorem kc_best (R : RI0 M) (C : CI M) (K : CK M) (T : TR M) (R1 : RI0 M1) (e1 : xF 1000 23 [.inr 2] M = rI v M1) (f1 : Fr w1 M M1) (k1 : okW cm cmo w1 = true) (e2 : xF 1000 236 [.inr 62] M1 = rI y M2) : v = y := by
  obtain ⟨G, X, Y⟩ := C
  obtain ⟨W, -⟩ := ci_facts R X Y
  have C := CK_G K X.1
  obtain ⟨L, hL, h28, h25, h29⟩ := T
  have hx := trT_range R.1
  have t1 : xF (998 + 1 + 1) 23 [.inr 2] M = rI v M1 := e1
  have t2 : xF (998 + 1 + 1) 236 [.inr 62] M1 = rI y M2 := e2
  have Y1 := MG_thr (MG_Fr f1 k1 Y)
  have gT := gM_thr R1.1
  obtain ⟨q1, q2⟩ := x_tooMany (d := 998 + 1) (by omega) W X.1 C
  obtain ⟨N, g2, fN, p1, p2⟩ := m_tooMG (d := 998 + 1) (by omega) gT W Y1.1 (by rw [pset_ne2 (by decide)]; exact R1.2.1)
  rw [T_X_best] at t1
  rw [T_M_best] at t2
  rcases Classical.em (tmG G) with q | q
  · rw [q1 q, pbI_rI, if_neg (by decide)] at t1
    rw [p1 q, pbI_rI, if_neg (by decide)] at t2
    rw [← (rI_inj t1).1, ← (rI_inj t2).1]
  · have hW : hR G ^ nC G ≤ 20000 := by unfold tmG at q; omega
    obtain ⟨p3, p4⟩ := p2 q
    obtain ⟨N1, s1, s2, s3, s4, s5⟩ := x_startG (d := 998 + 1) (by omega) W X.1 C
    obtain ⟨v4, M3, z1, z2⟩ := pbI_inv s1
    have lo : ∀ o i, o < 32 → N1 o i = M o i := fun o i ho => s5 o i (by omega)
    rw [q2 q, pbI_rI, if_pos (by decide), z1, pbI_rI, z2, pbN_rV, show (.inl 0 : pV) = .inl ((0 : Nat) : Int) from rfl] at t1
    rw [p3, pbI_rI, if_pos (by decide), T_M_beginRows, pbN_rV] at t2
    rw [x_be (tx := trT M) (d := 998 + 1) (by omega) W (WB_G W q) hL hx (XH_hi lo X.1) (CL_hi lo C) (by rw [lo 28 1 (by decide)]; exact h28) (fun i hi => by
      rw [lo 29 i (by decide), h29 i hi]
      unfold trT
      rw [if_pos (by omega)]) s2 s3 s4 _ t1]
    exact (m_be14 (D := 998 + 1) (by omega) W hW (hR G ^ nC G + 1) 0 0 0 _ _ (by omega) (Nat.zero_le _) p4 (Or.inl ⟨rfl, rfl⟩) t2).symm
end BES
end
section
/-! queue: how many clumps are carried, on both sides -/
section QUA
variable {G : pM} {p q : Nat → Int}
end QUA
section QUM
variable {D d S T R C x1 : Nat} {sv : Nat → Nat} {M M' N G : pM} {p : Nat → Int} {v y : Int}
end QUM
/-! queue: one side's search -/
section QUX
variable {D d : Nat} {M M' M1 N G : pM} {p : Nat → Int} {v y : Int}
end QUX
section QUK
variable {D d : Nat} {M M' M1 M2 N G : pM} {p : Nat → Int} {w1 : List (Nat × Nat)} {v y : Int}
end QUK
/-! the list of the arrangements that are lawful, and what it costs between them -/
section LST
variable {D d : Nat} {M M' N G : pM} {p : Nat → Int} {f g : Nat → Nat} {v y : Int}
end LST
/-! what it costs from one of the list to another, on both sides -/
section CST
variable {D d : Nat} {M M' N G : pM} {p : Nat → Int} {f g : Nat → Nat} {v y : Int}
def c6 (G : pM) (t a b : Nat) : Int := if cst G t a b < 0 then 1000000 else cst G t a b
end CST
/-! the fewest evenings, on one side -/
section FEW
variable {D d : Nat} {M M' M1 N G : pM} {p : Nat → Int} {v y w : Int}
end FEW
/-! the list and its costs on the other side -/
section AIF
variable {D d : Nat} {M M' M1 N G : pM} {p : Nat → Int} {f g : Nat → Nat} {v y w : Int}
end AIF
/-! the fewest evenings on the other side; evenings joined -/
section EVF
variable {D d : Nat} {M M' M1 M2 N G : pM} {p : Nat → Int} {w1 : List (Nat × Nat)} {v y w : Int}
end EVF
/-! evenings: what it answers, on both sides -/
section EVJ
variable {D d : Nat} {M M' M1 M2 N G : pM} {p : Nat → Int} {w1 : List (Nat × Nat)} {v y w : Int}
end EVJ
/-! the least strength, on one side -/
section WEK
variable {D d : Nat} {M M' M1 N G : pM} {p : Nat → Int} {v y w : Int}
end WEK
/-! the least strength, on one side: the search -/
section WEL
variable {D d : Nat} {M M' M1 N N0 G : pM} {p : Nat → Int} {v y w : Int}
end WEL
/-! the least strength, on one side: to its end; what is answered -/
section WEM
variable {D d : Nat} {M M' M1 N N0 G : pM} {p : Nat → Int} {v y w : Int}
end WEM
/-! the least strength on the other side; weakest joined -/
section WEO
variable {D d : Nat} {M M' M1 M2 N G : pM} {p : Nat → Int} {w1 : List (Nat × Nat)} {v y w : Int}
end WEO
end
