/-! keep, again, judge, evening of the reference -/
section RT
variable {D d R T : Nat} {M M' : pM}
def lwB (M : pM) (p : Nat → Int) (S T N : Nat) (sv : Nat → Nat) : Bool := bitsOf (fun s => pdF p (sv s) T) S == 0 && bitsOf (fun r => decide (¬ le32 0 (frF M p r T))) N == 0
theorem bits_ne {c : Nat → Bool} {n : Nat} (hn : n ≤ 10) : (¬ eq32 (bitsOf c n : Nat) 0) ↔ bitsOf c n ≠ 0 := by
  have h := bitsOf_lt c n
  have h2 : 2 ^ n ≤ 2 ^ 10 := Nat.pow_le_pow_right (by decide) hn
  have h3 : (2 : Nat) ^ 10 = 1024 := by decide
  rw [eq32_iff (by omega) (by omega) (by omega) (by omega)]
  omega
theorem m_lawful_66 (hd : 3 ≤ d) {S : Nat} {sv : Nat → Nat} (h : FCx M S T sv) (h0 : M 60 0 = (R : Int)) (hR : R ≤ 6) : xF d 212 [.inr 62, .inr 68] M = rI (if lwB M (M 66) S T R sv then 1 else 0) M := by
  obtain ⟨D, rfl, hD⟩ := dsucc hd
  rw [T_M_isLawful_66, m_parted_66 (by omega) h, pbI_rI]
  unfold lwB
  by_cases q : bitsOf (fun s => pdF (M 66) (sv s) T) S = 0
  · rw [if_neg (fun z => (bits_ne (by have := h.2.1; omega)).mp z q), m_full_66 (by omega) h.2.2.1 h.2.2.2.1 h0 hR, pbI_rI, q]
    by_cases q2 : bitsOf (fun r => decide (¬ le32 0 (frF M (M 66) r T))) R = 0
    · rw [if_neg (fun z => (bits_ne (by omega)).mp z q2), q2]; rfl
    · rw [if_pos ((bits_ne (by omega)).mpr q2), if_neg (by rw [Bool.and_eq_true]; exact fun z => q2 (eq_of_beq z.2))]
  · rw [if_pos ((bits_ne (by have := h.2.1; omega)).mpr q), if_neg (by rw [Bool.and_eq_true]; exact fun z => q (eq_of_beq z.1))]
theorem m_lawful_81 (hd : 3 ≤ d) {S : Nat} {sv : Nat → Nat} (h : FCx M S T sv) (h0 : M 60 0 = (R : Int)) (hR : R ≤ 6) : xF d 212 [.inr 62, .inr 83] M = rI (if lwB M (M 81) S T R sv then 1 else 0) M := by
  obtain ⟨D, rfl, hD⟩ := dsucc hd
  rw [T_M_isLawful_81, m_parted_81 (by omega) h, pbI_rI]
  unfold lwB
  by_cases q : bitsOf (fun s => pdF (M 81) (sv s) T) S = 0
  · rw [if_neg (fun z => (bits_ne (by have := h.2.1; omega)).mp z q), m_full_81 (by omega) h.2.2.1 h.2.2.2.1 h0 hR, pbI_rI, q]
    by_cases q2 : bitsOf (fun r => decide (¬ le32 0 (frF M (M 81) r T))) R = 0
    · rw [if_neg (fun z => (bits_ne (by omega)).mp z q2), q2]; rfl
    · rw [if_pos ((bits_ne (by omega)).mpr q2), if_neg (by rw [Bool.and_eq_true]; exact fun z => q2 (eq_of_beq z.2))]
  · rw [if_pos ((bits_ne (by have := h.2.1; omega)).mpr q), if_neg (by rw [Bool.and_eq_true]; exact fun z => q (eq_of_beq z.1))]
theorem m_law66 (hd : 3 ≤ d) (hM : gM gAll M) : ∃ z, xF d 212 [.inr 62, .inr 68] M = rI z M := by
  have r0 := gm_i hM 60 0 (lo := 0) (hi := 6) (by decide +kernel) (by decide +kernel)
  obtain ⟨R, hR⟩ := natI r0.1
  exact ⟨_, m_lawful_66 hd (fcx_of hM) hR (by omega)⟩
/-- goEvening, evening -/
def wGo : List (Nat × Nat) := [(60, 10), (60, 11), (60, 33)]
theorem m_goEv (hd : 4 ≤ d) (h : RI0 M) : ∃ z M', xF d 217 [.inr 62] M = rI z M' ∧ RI0 M' ∧ Fr wGo M M' ∧ (z = 0 ∨ z = 1) := by
  obtain ⟨D, rfl, hD⟩ := dsucc hd
  obtain ⟨z, e⟩ := m_law66 (d := D) (by omega) h.1
  rw [T_M_goEvening, e, pbI_rI]
  by_cases q : eq32 z 0
  · rw [if_neg (fun y => y q)]
    exact ⟨_, M, rfl, h, Fr_rfl, Or.inl rfl⟩
  · rw [if_pos q]
    exact ⟨_, _, rfl, RI0_33 (RI0_11 (RI0_10 h)) (by decide) (by decide) (fun k hk => by omega), Fr_set (Fr_set (Fr_set Fr_rfl (by decide)) (by decide)) (by decide), Or.inr rfl⟩
def wEv : List (Nat × Nat) := [(60, 10), (60, 11), (60, 16), (60, 17), (60, 33), (69, 999)]
theorem m_tell2 (hD : 1 ≤ D) (h : RI0 M) (h16 : M 60 16 = 0) (v w : Int) : ∃ M1, xF D 172 [.inr 62, .inl v] M = rV M1 ∧ RI0 M1 ∧ Fr [(60, 16), (69, 999)] M M1 ∧ ∃ M2, xF D 172 [.inr 62, .inl w] M1 = rV M2 ∧ RI0 M2 ∧ Fr [(60, 16), (69, 999)] M M2 := by
  obtain ⟨M1, e1, g1, f1, k1⟩ := m_tellS (D := D) (M := M) (n := 0) hD (by decide) h16 h.1 v
  obtain ⟨M2, e2, g2, f2, k2⟩ := m_tellS (D := D) (M := M1) (n := 1) hD (by decide) k1 g1 w
  have r1 : RI0 M1 := RI0_Fr g1 f1 (by decide) h
  exact ⟨M1, e1, r1, f1, M2, e2, RI0_Fr g2 f2 (by decide) r1, Fr_tr f1 f2⟩
theorem r_evening {d : Nat} (hd : 5 ≤ d) (h : RI0 M) : okR d 218 [.inr 62] wEv M := by
  obtain ⟨D, rfl, hD⟩ := dsucc hd
  have ht := RI0_thr h
  have r0 := gm_i ht.1 60 0 (lo := 0) (hi := 6) (by decide +kernel) (by decide +kernel)
  obtain ⟨R, hR⟩ := natI r0.1
  have ft : Fr wEv M (pset M 60 17 0) := Fr_set Fr_rfl (by decide)
  have F := fcx_of ht.1
  unfold okR
  rw [T_M_evening, m_parted_66 (by omega) F, pbI_rI, m_full_66 (by omega) F.2.2.1 F.2.2.2.1 hR (by omega), pbI_rI]
  obtain ⟨M1, e1, r1, f1, M2, e2, r2, f2⟩ := m_tell2 (D := D) (by omega) (RI0_16 ht) pset_eq (bitsOf (fun s => pdF (pset M 60 17 0 66) ((pset M 60 17 0 67 s).toNat) (pset M 60 17 0 60 3).toNat) (pset M 60 17 0 60 8).toNat : Nat) (bitsOf (fun r => decide (¬ le32 0 (frF (pset M 60 17 0) (pset M 60 17 0 66) r (pset M 60 17 0 60 3).toNat))) R : Nat)
  obtain ⟨z, M3, e3, r3, f3, hz⟩ := m_goEv (d := D) (by omega) r2
  have FF : Fr wEv M M3 := Fr_tr ft (Fr_tr (Fr_mono (Fr_tr (Fr_set (w := [(60, 16), (69, 999)]) Fr_rfl (by decide)) f2) (by decide)) (Fr_mono f3 (by decide)))
  rw [e1, pbN_rV, e2, pbN_rV, e3, pbI_rI]
  rcases hz with rfl | rfl
  · rw [if_pos rfl]; exact ⟨_, M3, rfl, r3, FF⟩
  · rw [if_neg (by decide)]; exact ⟨_, M3, rfl, r3, FF⟩
/-- again -/
def wAgain : List (Nat × Nat) := [(60, 10), (60, 11), (60, 17), (60, 33), (66, 999)]
theorem r_again {d : Nat} (hd : 2 ≤ d) {b : Int} (hb1 : -2147483648 ≤ b) (hb2 : b ≤ 2147483647) (h : RI0 M) : okR d 267 [.inr 62, .inl b] wAgain M := by
  obtain ⟨D, rfl, hD⟩ := dsucc hd
  have ht := RI0_thr h
  have t0 := gm_i ht.1 60 3 (lo := 0) (hi := 10) (by decide +kernel) (by decide +kernel)
  have s0 := gm_i ht.1 60 0 (lo := 0) (hi := 6) (by decide +kernel) (by decide +kernel)
  obtain ⟨T, hT⟩ := natI t0.1
  have ft : Fr wAgain M (pset M 60 17 0) := Fr_set Fr_rfl (by decide)
  unfold okR
  rw [T_M_again, m_in (by omega), pbI_rI]
  generalize pset M 60 17 0 = M1 at ht ft hT t0 s0 ⊢
  by_cases q : lt32 b 0 ∨ lt32 1 b
  · rw [if_pos q, if_pos rfl]; exact ⟨_, M1, rfl, ht, ft⟩
  · have n1 : ¬ lt32 b 0 := fun z => q (Or.inl z)
    have n2 : ¬ lt32 1 b := fun z => q (Or.inr z)
    rw [lt32_iff (by omega) (by omega) (by omega) (by omega)] at n1 n2
    obtain ⟨i, rfl⟩ := natI (show 0 ≤ b by omega)
    have hi : i < 2 := by omega
    rw [if_neg q, if_neg (by decide), if_pos (by omega), Int.toNat_natCast]
    by_cases q2 : eq32 (M1 88 i) 0
    · rw [if_pos q2]; exact ⟨_, M1, rfl, ht, ft⟩
    · rw [if_neg q2, if_pos (by omega)]
      by_cases q3 : eq32 (M1 89 i) (M1 60 52)
      · obtain ⟨v1, v2, v3⟩ := ht.2.2.2.2.2.2 i hi (fun z => q2 (by rw [z]))
        have u := ht.2.2.2.2.2.1
        have e : M1 89 i = M1 60 52 := by
          rw [eq32_iff (by omega) (by omega) (by omega) (by omega)] at q3; exact q3
        rw [if_pos q3]
        have key : ∀ (m x : Nat) (M2 : pM), x + m = T → RI0 M2 → Fr [(66, 999)] M1 M2 → ∃ z M', xE D 267 24 [.inr 62, .inl (i : Int), .inl (x : Int)] [] M2 = rI z M' ∧ RI0 M' ∧ Fr wAgain M1 M' := by
          intro m
          induction m with
          | zero =>
            intro x M2 hx g f
            have k3 : M2 60 3 = (T : Int) := by rw [f 60 3 (by decide)]; exact hT
            rw [L_M_again_24, k3, if_pos (by rw [le32_iff] <;> omega), if_pos (by omega), if_pos (by omega)]
            exact ⟨_, _, rfl, RI0_33 (RI0_11 (RI0_10 g)) (by decide) (by decide) (fun k hk => by omega), Fr_set (Fr_set (Fr_set (Fr_mono f (by decide)) (by decide)) (by decide)) (by decide)⟩
          | succ m ih =>
            intro x M2 hx g f
            have k3 : M2 60 3 = (T : Int) := by rw [f 60 3 (by decide)]; exact hT
            have k87 : M2 87 (12 * i + x) = M1 87 (12 * i + x) := f 87 _ (wOK_no (by decide) _)
            have hp : pL 87 = 24 := by decide +kernel
            have b1 : 0 ≤ M1 87 (12 * i + x) ∧ M1 87 (12 * i + x) ≤ 5 := gR0 (by rw [← (g87 i hi).1 x (by omega)]; exact ht.1 87 (12 * i + x) (by omega))
            rw [L_M_again_24, k3, if_neg (by rw [le32_iff] <;> omega), if_pos (by omega), if_pos (by omega), show (12 * (i : Int) + (x : Int)).toNat = 12 * i + x by omega, Int.toNat_natCast, k87, show ((x : Int) + 1) = ((x + 1 : Nat) : Int) by omega]
            exact ih (x + 1) _ (by omega) (RI0_66 g b1.1 (by rw [f 60 0 (by decide)]; exact v3 e x (by omega))) (Fr_set f (wOK_r (by decide) _))
        obtain ⟨z, M', e1, r1, f1⟩ := key T 0 M1 (by omega) ht Fr_rfl
        exact ⟨z, M', e1, r1, Fr_tr ft f1⟩
      · rw [if_neg q3]; exact ⟨_, M1, rfl, ht, ft⟩
/-- keep -/
def wKeep : List (Nat × Nat) := [(60, 17), (87, 999), (88, 999), (89, 999)]
theorem r_keep {d : Nat} (hd : 2 ≤ d) {b : Int} (hb1 : -2147483648 ≤ b) (hb2 : b ≤ 2147483647) (h : RI0 M) : okR d 266 [.inr 62, .inl b] wKeep M := by
  obtain ⟨D, rfl, hD⟩ := dsucc hd
  have ht := RI0_thr h
  have ft : Fr wKeep M (pset M 60 17 0) := Fr_set Fr_rfl (by decide)
  unfold okR
  rw [T_M_keep, m_in (by omega), pbI_rI]
  generalize pset M 60 17 0 = M1 at ht ft ⊢
  by_cases q : lt32 b 0 ∨ lt32 1 b
  · rw [if_pos q, if_neg (fun z => z rfl)]; exact ⟨_, M1, rfl, ht, ft⟩
  · have n1 : ¬ lt32 b 0 := fun z => q (Or.inl z)
    have n2 : ¬ lt32 1 b := fun z => q (Or.inr z)
    rw [lt32_iff (by omega) (by omega) (by omega) (by omega)] at n1 n2
    obtain ⟨i, rfl⟩ := natI (show 0 ≤ b by omega)
    have hi : i < 2 := by omega
    rw [if_neg q, if_pos (by decide), if_pos (by omega), if_pos (by omega), Int.toNat_natCast, pset_ne (show 60 ≠ 88 by decide)]
    have g1 : gM gAll (pset (pset M1 88 i 1) 89 i (M1 60 52)) := gM_r1 (gM_r ht.1 (lo := 0) (hi := 1) (by decide +kernel) (by decide +kernel) (by decide) (by decide)) (by decide +kernel) (by decide +kernel)
    obtain ⟨G, s0, w, u1, u2, u3, u4⟩ := ht
    have hp : pL 87 = 24 := by decide +kernel
    have fin : ∀ (M2 : pM) (y z : Int), gM gAll M2 → (∀ o k, o ≠ 87 → M2 o k = pset (pset M1 88 i 1) 89 i (M1 60 52) o k) → (∀ t, t < 10 → M2 87 (12 * i + t) = M1 66 t) → (∀ p, (p < 12 * i ∨ 12 * i + 12 ≤ p) → M2 87 p = M1 87 p) → RI0 (pset (pset M2 87 (12 * i + 10) y) 87 (12 * i + 11) z) ∧ Fr wKeep M1 (pset (pset M2 87 (12 * i + 10) y) 87 (12 * i + 11) z) := by
      intro M2 y z g2 f2 c2 d2
      have f3 : Fr wKeep M1 (pset (pset M2 87 (12 * i + 10) y) 87 (12 * i + 11) z) := by
        refine Fr_set (Fr_set (fun o k ho => ?_) (wOK_r (by decide) _)) (wOK_r (by decide) _)
        by_cases q87 : o = 87
        · rw [q87, wOK_r (by decide)] at ho; exact absurd ho (by decide)
        · rw [f2 o k q87]
          by_cases q89 : o = 89
          · rw [q89, wOK_r (by decide)] at ho; exact absurd ho (by decide)
          · rw [pset_ne q89]
            by_cases q88 : o = 88
            · rw [q88, wOK_r (by decide)] at ho; exact absurd ho (by decide)
            · rw [pset_ne q88]
      refine ⟨⟨gMs_set (gMs_set g2 (by rw [(g87 i hi).2.1]; exact Or.inr (Or.inl rfl))) (by rw [(g87 i hi).2.2]; exact Or.inr (Or.inl rfl)), by rw [f3 60 38 (by decide)]; exact s0, WM_Fr f3 (by decide) (by decide) (by decide) (by decide) w, ?_⟩, f3⟩
      refine ⟨fun k hk => ?_, by rw [f3 60 52 (by decide)]; exact u2, by rw [f3 60 52 (by decide), f3 60 0 (by decide), f3 60 3 (by decide)]; exact u3, fun j hj hne => ?_⟩
      · rw [f3 60 33 (by decide)] at hk
        rw [f3 75 _ (wOK_no (by decide) _), f3 60 0 (by decide)]; exact u1 k hk
      · have e88 : ∀ k, pset (pset M2 87 (12 * i + 10) y) 87 (12 * i + 11) z 88 k = if k = i then 1 else M1 88 k := fun k => by
          rw [pset_ne (by decide), pset_ne (by decide), f2 88 k (by decide), pset_ne (by decide)]
          by_cases qk : k = i
          · rw [qk, pset_eq, if_pos rfl]
          · rw [pset_ne2 qk, if_neg qk]
        have e89 : ∀ k, pset (pset M2 87 (12 * i + 10) y) 87 (12 * i + 11) z 89 k = if k = i then M1 60 52 else M1 89 k := fun k => by
          rw [pset_ne (by decide), pset_ne (by decide), f2 89 k (by decide)]
          by_cases qk : k = i
          · rw [qk, pset_eq, if_pos rfl]
          · rw [pset_ne2 qk, if_neg qk, pset_ne (by decide)]
        rw [e88] at hne
        rw [e89, f3 60 52 (by decide), f3 60 3 (by decide), f3 60 0 (by decide)]
        by_cases qj : j = i
        · rw [if_pos qj]
          refine ⟨u2, by omega, fun _ t htt => ?_⟩
          have t0 := gm_i G 60 3 (lo := 0) (hi := 10) (by decide +kernel) (by decide +kernel)
          rw [qj, pset_ne2 (show 12 * i + t ≠ 12 * i + 11 by omega), pset_ne2 (show 12 * i + t ≠ 12 * i + 10 by omega), c2 t (by omega)]
          exact (w.2.2.2.1 t htt).2.2.2
        · rw [if_neg qj] at hne ⊢
          obtain ⟨v1, v2, v3⟩ := u4 j hj hne
          refine ⟨v1, v2, fun e t htt => ?_⟩
          have t0 := gm_i G 60 3 (lo := 0) (hi := 10) (by decide +kernel) (by decide +kernel)
          rw [pset_ne2 (show 12 * j + t ≠ 12 * i + 11 by omega), pset_ne2 (show 12 * j + t ≠ 12 * i + 10 by omega), d2 _ (by omega)]
          exact v3 e t htt
    have key : ∀ (m x : Nat) (M2 : pM), x + m = 10 → gM gAll M2 → (∀ o k, o ≠ 87 → M2 o k = pset (pset M1 88 i 1) 89 i (M1 60 52) o k) → (∀ t, t < x → M2 87 (12 * i + t) = M1 66 t) → (∀ p, (p < 12 * i ∨ 12 * i + 12 ≤ p) → M2 87 p = M1 87 p) → ∃ z M', xE D 266 23 [.inr 62, .inl (i : Int), .inl (x : Int)] [] M2 = rI z M' ∧ RI0 M' ∧ Fr wKeep M1 M' := by
      intro m
      induction m with
      | zero =>
        intro x M2 hx g2 f2 c2 d2
        obtain ⟨r, f⟩ := fin M2 (M2 60 10) (pset M2 87 (12 * i + 10) (M2 60 10) 60 11) g2 f2 (fun t htt => c2 t (by omega)) d2
        rw [L_M_keep_23, if_pos (by rw [le32_iff] <;> omega), if_pos (by omega), if_pos (by omega), show (12 * (i : Int) + 10).toNat = 12 * i + 10 by omega, show (12 * (i : Int) + 10 + 1).toNat = 12 * i + 11 by omega]
        exact ⟨_, _, rfl, r, f⟩
      | succ m ih =>
        intro x M2 hx g2 f2 c2 d2
        have k66 : M2 66 x = M1 66 x := by rw [f2 66 x (by decide), pset_ne (by decide), pset_ne (by decide)]
        have b5 := gm_r G (o := 66) (lo := 0) (hi := 5) (by decide +kernel) (by decide +kernel) (k := x) (show x < 10 by omega)
        rw [L_M_keep_23, if_neg (by rw [le32_iff] <;> omega), if_pos (by omega), if_pos (by omega), show (12 * (i : Int) + (x : Int)).toNat = 12 * i + x by omega, Int.toNat_natCast, k66, show ((x : Int) + 1) = ((x + 1 : Nat) : Int) by omega]
        refine ih (x + 1) _ (by omega) (gMs_set g2 (by rw [(g87 i hi).1 x (by omega)]; exact Or.inl ⟨rfl, b5.1, b5.2⟩)) (fun o k ho => by rw [pset_ne ho]; exact f2 o k ho) (fun t htt => ?_) (fun p hp2 => by rw [pset_ne2 (by omega)]; exact d2 p hp2)
        by_cases qt : t = x
        · rw [qt, pset_eq]
        · rw [pset_ne2 (by omega)]; exact c2 t (by omega)
    obtain ⟨z, M', e1, r1, f1⟩ := key 10 0 _ (by omega) g1 (fun o k ho => rfl) (fun t htt => by omega) (fun p _ => by rw [pset_ne (by decide), pset_ne (by decide)])
    exact ⟨z, M', e1, r1, Fr_tr ft f1⟩
end RT
