/-! what both sides hold, told without a machine: G 0 to 7 the house, 8: days, carried, strength, 9: how many undos, 10 to 12: they, 13 to 19: what is kept -/
def XP (M G : pM) : Prop := M 39 3 = G 9 0 ∧ ∀ k : Nat, (k : Int) < G 9 0 → M 40 k = G 10 k ∧ M 41 k = G 11 k ∧ M 42 k = G 12 k
def XK (M G : pM) : Prop := ∀ i, i < 2 → M (44 + 2 * i) 1 = G 13 i ∧ (G 13 i ≠ 0 → M (44 + 2 * i) 2 = G 14 i ∧ M (44 + 2 * i) 3 = G 15 i ∧ M (44 + 2 * i) 4 = G 18 i ∧ M (44 + 2 * i) 5 = G 19 i ∧ ∀ t : Nat, (t : Int) < G 15 i → M (45 + 2 * i) t = G (16 + i) t)
def XD (M G : pM) : Prop := M 0 15 = G 8 0 ∧ M 0 16 = G 8 1 ∧ M 0 17 = G 8 2
def XG (M G : pM) : Prop := XH M G ∧ XD M G ∧ XP M G ∧ XK M G
def MP (M G : pM) : Prop := M 60 33 = G 9 0 ∧ ∀ k : Nat, (k : Int) < G 9 0 → M 75 (3 * k) = G 10 k ∧ M 75 (3 * k + 1) = G 11 k ∧ M 75 (3 * k + 2) = G 12 k
def MK (M G : pM) : Prop := ∀ i, i < 2 → M 88 i = G 13 i ∧ (G 13 i ≠ 0 → M 89 i ≤ M 60 52 ∧ (M 89 i = M 60 52 ↔ G 14 i = hR G ∧ G 15 i = hT G) ∧ G 14 i ≤ hR G ∧ G 15 i ≤ hT G ∧ M 87 (12 * i + 10) = G 18 i ∧ M 87 (12 * i + 11) = G 19 i ∧ ∀ t : Nat, (t : Int) < G 15 i → M 87 (12 * i + t) = G (16 + i) t)
def MD (M G : pM) : Prop := M 60 10 = G 8 0 ∧ M 60 11 = G 8 1 ∧ M 60 12 = G 8 2
def MG (M G : pM) : Prop := MH M G ∧ MD M G ∧ MP M G ∧ MK M G
/-! where they hold it -/
def cx (o i : Nat) : Bool := (Nat.beq o 0 && (Nat.beq i 15 || Nat.beq i 16 || Nat.beq i 17)) || (Nat.beq o 7 && (Nat.beq i 9 || Nat.beq i 10 || Nat.beq i 11)) || (Nat.ble 8 o && Nat.ble o 14) || (Nat.beq o 39 && Nat.beq i 3) || (Nat.ble 40 o && Nat.ble o 42) || (Nat.ble 44 o && Nat.ble o 47)
def cxo (o : Nat) : Bool := Nat.beq o 0 || Nat.beq o 7 || (Nat.ble 8 o && Nat.ble o 14) || Nat.beq o 39 || (Nat.ble 40 o && Nat.ble o 42) || (Nat.ble 44 o && Nat.ble o 47)
def cm (o i : Nat) : Bool := (Nat.beq o 60 && (Nat.beq i 0 || Nat.beq i 3 || Nat.beq i 8 || Nat.beq i 10 || Nat.beq i 11 || Nat.beq i 12 || Nat.beq i 33 || Nat.beq i 52)) || (Nat.ble 61 o && Nat.ble o 67) || Nat.beq o 75 || (Nat.ble 87 o && Nat.ble o 89)
def cmo (o : Nat) : Bool := Nat.beq o 60 || (Nat.ble 61 o && Nat.ble o 67) || Nat.beq o 75 || (Nat.ble 87 o && Nat.ble o 89)
theorem cx_o (o i : Nat) (h : cx o i = true) : cxo o = true := by
  unfold cx at h
  unfold cxo
  simp only [Bool.or_eq_true, Bool.and_eq_true] at h ⊢
  rcases h with ((((h | h) | h) | h) | h) | h
  · exact Or.inl (Or.inl (Or.inl (Or.inl (Or.inl h.1))))
  · exact Or.inl (Or.inl (Or.inl (Or.inl (Or.inr h.1))))
  · exact Or.inl (Or.inl (Or.inl (Or.inr h)))
  · exact Or.inl (Or.inl (Or.inr h.1))
  · exact Or.inl (Or.inr h)
  · exact Or.inr h
theorem cm_o (o i : Nat) (h : cm o i = true) : cmo o = true := by
  unfold cm at h
  unfold cmo
  simp only [Bool.or_eq_true, Bool.and_eq_true] at h ⊢
  rcases h with ((h | h) | h) | h
  · exact Or.inl (Or.inl (Or.inl h.1))
  · exact Or.inl (Or.inl (Or.inr h))
  · exact Or.inl (Or.inr h)
  · exact Or.inr h
def okW (c : Nat → Nat → Bool) (co : Nat → Bool) (w : List (Nat × Nat)) : Bool := w.all fun q => bif Nat.beq q.2 999 then !(co q.1) else !(c q.1 q.2)
theorem okW_no {c : Nat → Nat → Bool} {co : Nat → Bool} {w : List (Nat × Nat)} (hc : ∀ o i, c o i = true → co o = true) (h : okW c co w = true) {o i : Nat} (q : c o i = true) : wOK w o i = false := by
  cases e : wOK w o i with
  | false => rfl
  | true =>
    obtain ⟨r, hr, h2⟩ := List.any_eq_true.mp e
    rw [Bool.and_eq_true, Bool.or_eq_true] at h2
    have k := List.all_eq_true.mp h r hr
    have e1 := Nat.eq_of_beq_eq_true h2.1
    cases z : Nat.beq r.2 999 with
    | true =>
      rw [z, cond_true, e1, hc o i q] at k
      cases k
    | false =>
      rw [z, cond_false] at k
      rcases h2.2 with y | y
      · rw [e1, Nat.eq_of_beq_eq_true y, q] at k; cases k
      · rw [z] at y; cases y
section COR
variable {M M' G h : pM}
theorem XG_ag (e : ∀ o i, cx o i = true → M' o i = M o i) (X : XG M G) : XG M' G := by
  obtain ⟨⟨x1, x2, x3, x4, x5, x6, x7⟩, ⟨d1, d2, d3⟩, ⟨p1, p2⟩, k⟩ := X
  refine ⟨⟨by rw [e 7 9 rfl]; exact x1, by rw [e 7 10 rfl]; exact x2, by rw [e 7 11 rfl]; exact x3, fun r hr => by rw [e 8 r rfl]; exact x4 r hr, fun p hp => by rw [e 9 p rfl]; exact x5 p hp, fun t ht => by rw [e 10 t rfl, e 11 t rfl, e 12 t rfl, e 13 t rfl]; exact x6 t ht, fun s hs => by rw [e 14 s rfl]; exact x7 s hs⟩, ⟨by rw [e 0 15 rfl]; exact d1, by rw [e 0 16 rfl]; exact d2, by rw [e 0 17 rfl]; exact d3⟩, ⟨by rw [e 39 3 rfl]; exact p1, fun j hj => by rw [e 40 j rfl, e 41 j rfl, e 42 j rfl]; exact p2 j hj⟩, fun i hi => ?_⟩
  have a : ∀ j, M' (44 + 2 * i) j = M (44 + 2 * i) j := fun j => by
    rcases (show i = 0 ∨ i = 1 by omega) with rfl | rfl
    · exact e 44 j rfl
    · exact e 46 j rfl
  have b : ∀ j, M' (45 + 2 * i) j = M (45 + 2 * i) j := fun j => by
    rcases (show i = 0 ∨ i = 1 by omega) with rfl | rfl
    · exact e 45 j rfl
    · exact e 47 j rfl
  simp only [a, b]
  exact k i hi
theorem MG_ag (e : ∀ o i, cm o i = true → M' o i = M o i) (X : MG M G) : MG M' G := by
  obtain ⟨⟨x1, x2, x3, x4, x5, x6, x7⟩, ⟨d1, d2, d3⟩, ⟨p1, p2⟩, k⟩ := X
  refine ⟨⟨by rw [e 60 0 rfl]; exact x1, by rw [e 60 3 rfl]; exact x2, by rw [e 60 8 rfl]; exact x3, fun r hr => by rw [e 61 r rfl]; exact x4 r hr, fun p hp => by rw [e 62 p rfl]; exact x5 p hp, fun t ht => by rw [e 63 t rfl, e 64 t rfl, e 65 t rfl, e 66 t rfl]; exact x6 t ht, fun s hs => by rw [e 67 s rfl]; exact x7 s hs⟩, ⟨by rw [e 60 10 rfl]; exact d1, by rw [e 60 11 rfl]; exact d2, by rw [e 60 12 rfl]; exact d3⟩, ⟨by rw [e 60 33 rfl]; exact p1, fun j hj => by rw [e 75 _ rfl, e 75 _ rfl, e 75 _ rfl]; exact p2 j hj⟩, fun i hi => ?_⟩
  have a : ∀ j, M' 87 j = M 87 j := fun j => e 87 j rfl
  have b : ∀ j, M' 88 j = M 88 j := fun j => e 88 j rfl
  have c : ∀ j, M' 89 j = M 89 j := fun j => e 89 j rfl
  simp only [a, b, c, e 60 52 rfl]
  exact k i hi
theorem XG_Fr {w : List (Nat × Nat)} (f : Fr w M M') (h : okW cx cxo w = true) (X : XG M G) : XG M' G := XG_ag (fun o i q => f o i (okW_no cx_o h q)) X
theorem MG_Fr {w : List (Nat × Nat)} (f : Fr w M M') (h : okW cm cmo w = true) (X : MG M G) : MG M' G := MG_ag (fun o i q => f o i (okW_no cm_o h q)) X
/-- what the reference holds is a house -/
theorem WF_MH (hM : gM gAll M) (w : WM M) (X : MH M h) : WF h := by
  obtain ⟨y1, y2, y3, y4, y5, y6, y7, y8, y9⟩ := WF_of hM w
  obtain ⟨x1, x2, x3, x4, x5, x6, x7⟩ := X
  have e0 : hR (hOf M) = hR h := by show (M 60 0).toNat = hR h; omega
  have e3 : hT (hOf M) = hT h := by show (M 60 3).toNat = hT h; omega
  have e8 : hS (hOf M) = hS h := by show (M 60 8).toNat = hS h; omega
  rw [e0] at y1 y4 y7 y8
  rw [e3] at y2 y8 y9
  rw [e8] at y3 y9
  refine ⟨y1, y2, y3, fun r hr => ?_, fun p hp => ?_, fun a b ha hb => ?_, fun a b ha hb hh => ?_, fun t ht => ?_, fun s hs => ?_⟩
  · rw [← x4 r hr]; exact y4 r hr
  · rw [← x5 p hp]; exact y5 p hp
  · rw [← x5 _ (by omega), ← x5 _ (by omega)]; exact y6 a b ha hb
  · rw [← x5 _ (by omega)]; exact y7 a b ha hb hh
  · obtain ⟨z1, z2, z3, z4⟩ := x6 t ht
    rw [← z1, ← z2, ← z3, ← z4]; exact y8 t ht
  · have := y9 s hs
    have z := x7 s hs
    have e : me (hOf M) s = me h s := by show (M 67 s).toNat = me h s; omega
    rw [← e]; exact this
end COR
/-! widen, sheet, breaks: what both sides hold then -/
section COS
variable {D d : Nat} {M M' G G' h : pM}
theorem XG_new (X : XG M G) (H : XH M' G') (eM : ∀ o i, (o < 7 ∨ 15 ≤ o) → cx o i = true → M' o i = M o i) (eG : ∀ o i, 8 ≤ o → G' o i = G o i) : XG M' G' := by
  obtain ⟨-, ⟨d1, d2, d3⟩, ⟨p1, p2⟩, k⟩ := X
  refine ⟨H, ⟨by rw [eM 0 15 (by decide) rfl, eG 8 0 (by decide)]; exact d1, by rw [eM 0 16 (by decide) rfl, eG 8 1 (by decide)]; exact d2, by rw [eM 0 17 (by decide) rfl, eG 8 2 (by decide)]; exact d3⟩, ⟨by rw [eM 39 3 (by decide) rfl, eG 9 0 (by decide)]; exact p1, fun j hj => ?_⟩, fun i hi => ?_⟩
  · rw [eG 9 0 (by decide)] at hj
    rw [eM 40 j (by decide) rfl, eM 41 j (by decide) rfl, eM 42 j (by decide) rfl, eG 10 j (by decide), eG 11 j (by decide), eG 12 j (by decide)]
    exact p2 j hj
  · have a : ∀ j, M' (44 + 2 * i) j = M (44 + 2 * i) j := fun j => by
      rcases (show i = 0 ∨ i = 1 by omega) with rfl | rfl
      · exact eM 44 j (by decide) rfl
      · exact eM 46 j (by decide) rfl
    have b : ∀ j, M' (45 + 2 * i) j = M (45 + 2 * i) j := fun j => by
      rcases (show i = 0 ∨ i = 1 by omega) with rfl | rfl
      · exact eM 45 j (by decide) rfl
      · exact eM 47 j (by decide) rfl
    have c : ∀ j, G' (16 + i) j = G (16 + i) j := fun j => eG _ j (by omega)
    simp only [a, b, c, eG 13 i (by decide), eG 14 i (by decide), eG 15 i (by decide), eG 18 i (by decide), eG 19 i (by decide)]
    exact k i hi
theorem MG_new (X : MG M G) (H : MH M' G') (eM : ∀ o i, (o < 61 ∨ 67 < o) → cm o i = true → M' o i = M o i) (eG : ∀ o i, 8 ≤ o → G' o i = G o i) (eR : hR G' = hR G) (eT : hT G' = hT G) : MG M' G' := by
  obtain ⟨-, ⟨d1, d2, d3⟩, ⟨p1, p2⟩, k⟩ := X
  refine ⟨H, ⟨by rw [eM 60 10 (by decide) rfl, eG 8 0 (by decide)]; exact d1, by rw [eM 60 11 (by decide) rfl, eG 8 1 (by decide)]; exact d2, by rw [eM 60 12 (by decide) rfl, eG 8 2 (by decide)]; exact d3⟩, ⟨by rw [eM 60 33 (by decide) rfl, eG 9 0 (by decide)]; exact p1, fun j hj => ?_⟩, fun i hi => ?_⟩
  · rw [eG 9 0 (by decide)] at hj
    rw [eM 75 _ (by decide) rfl, eM 75 _ (by decide) rfl, eM 75 _ (by decide) rfl, eG 10 j (by decide), eG 11 j (by decide), eG 12 j (by decide)]
    exact p2 j hj
  · have a : ∀ j, M' 87 j = M 87 j := fun j => eM 87 j (by decide) rfl
    have b : ∀ j, M' 88 j = M 88 j := fun j => eM 88 j (by decide) rfl
    have c : ∀ j, M' 89 j = M 89 j := fun j => eM 89 j (by decide) rfl
    have z : ∀ j, G' (16 + i) j = G (16 + i) j := fun j => eG _ j (by omega)
    simp only [a, b, c, z, eM 60 52 (by decide) rfl, eG 13 i (by decide), eG 14 i (by decide), eG 15 i (by decide), eG 18 i (by decide), eG 19 i (by decide), eR, eT]
    exact k i hi
theorem MG_thr (X : MG M G) : MG (pset M 60 17 0) G := MG_Fr (w := [(60, 17)]) (Fr_set Fr_rfl (by decide)) (by decide) X
/-! a door -/
def wdC (G : pM) (b c e : Int) : Prop := ((0 ≤ b ∧ b < hR G) ∧ (0 ≤ c ∧ c < hR G) ∧ b ≠ c) ∧ 0 ≤ e ∧ e ≤ 9
theorem x_makeDoor7 (hd : 3 ≤ d) (W : WF h) (X : XH M h) {a b : Nat} (ha : a < hR h) (hb : b < hR h) (hab : a ≠ b) (w : Int) : xF d 73 [.inr 9, .inl (a : Int), .inl (b : Int), .inl w] M = rV (pset (pset M 9 (6 * a + b) w) 9 (6 * b + a) w) := by
  obtain ⟨D, rfl, hD⟩ := dsucc hd
  have w1 := W.1
  rw [T_House_makeDoor_7, c_unlike7 (by omega) W X (by omega) (by omega) (by omega) (by omega), pbI_rI, ite01p, if_pos (by omega), if_pos (by omega), if_pos (by omega), show ((a : Int) * 6 + (b : Int)).toNat = 6 * a + b by omega, show ((b : Int) * 6 + (a : Int)).toNat = 6 * b + a by omega]
theorem addD_2 (a b : Nat) (w : Int) (N : pM) (e : ∀ p, p < 36 → M 9 p = N 2 p) (p : Nat) (hp : p < 36) : pset (pset M 9 (6 * a + b) w) 9 (6 * b + a) w 9 p = addD N a b w 2 p := by
  unfold addD
  by_cases q : p = 6 * b + a
  · rw [q, pset_eq, pset_eq]
  · rw [pset_ne2 q, pset_ne2 q]
    by_cases q2 : p = 6 * a + b
    · rw [q2, pset_eq, pset_eq]
    · rw [pset_ne2 q2, pset_ne2 q2]; exact e p hp
theorem addD_62 (a b : Nat) (w : Int) (N : pM) (e : ∀ p, p < 36 → M 62 p = N 2 p) (p : Nat) (hp : p < 36) : pset (pset M 62 (6 * a + b) w) 62 (6 * b + a) w 62 p = addD N a b w 2 p := by
  unfold addD
  by_cases q : p = 6 * b + a
  · rw [q, pset_eq, pset_eq]
  · rw [pset_ne2 q, pset_ne2 q]
    by_cases q2 : p = 6 * a + b
    · rw [q2, pset_eq, pset_eq]
    · rw [pset_ne2 q2, pset_ne2 q2]; exact e p hp
theorem addD_ne {a b o i : Nat} {w : Int} (ho : o ≠ 2) : addD h a b w o i = h o i := by
  unfold addD
  rw [pset_ne ho, pset_ne ho]
theorem XH_addD (X : XH M h) (a b : Nat) (w : Int) : XH (pset (pset M 9 (6 * a + b) w) 9 (6 * b + a) w) (addD h a b w) := by
  obtain ⟨x1, x2, x3, x4, x5, x6, x7⟩ := X
  have eM : ∀ o i, o ≠ 9 → pset (pset M 9 (6 * a + b) w) 9 (6 * b + a) w o i = M o i := fun o i ho => by rw [pset_ne ho, pset_ne ho]
  exact ⟨by rw [eM 7 9 (by decide)]; exact x1, by rw [eM 7 10 (by decide)]; exact x2, by rw [eM 7 11 (by decide)]; exact x3, fun r hr => by rw [eM 8 r (by decide), addD_ne (by decide)]; exact x4 r hr, fun p hp => addD_2 a b w h x5 p hp, fun t ht => by rw [eM 10 t (by decide), eM 11 t (by decide), eM 12 t (by decide), eM 13 t (by decide), addD_ne (by decide), addD_ne (by decide), addD_ne (by decide), addD_ne (by decide)]; exact x6 t ht, fun s hs => by rw [eM 14 s (by decide)]; exact x7 s hs⟩
theorem MH_addD (X : MH M h) (a b : Nat) (w : Int) : MH (pset (pset M 62 (6 * a + b) w) 62 (6 * b + a) w) (addD h a b w) := by
  obtain ⟨x1, x2, x3, x4, x5, x6, x7⟩ := X
  have eM : ∀ o i, o ≠ 62 → pset (pset M 62 (6 * a + b) w) 62 (6 * b + a) w o i = M o i := fun o i ho => by rw [pset_ne ho, pset_ne ho]
  exact ⟨by rw [eM 60 0 (by decide)]; exact x1, by rw [eM 60 3 (by decide)]; exact x2, by rw [eM 60 8 (by decide)]; exact x3, fun r hr => by rw [eM 61 r (by decide), addD_ne (by decide)]; exact x4 r hr, fun p hp => addD_62 a b w h x5 p hp, fun t ht => by rw [eM 63 t (by decide), eM 64 t (by decide), eM 65 t (by decide), eM 66 t (by decide), addD_ne (by decide), addD_ne (by decide), addD_ne (by decide), addD_ne (by decide)]; exact x6 t ht, fun s hs => by rw [eM 67 s (by decide)]; exact x7 s hs⟩
theorem x_widen (hd : 4 ≤ d) (W : WF G) (X : XG M G) {b c e : Int} (hb : -2147483648 ≤ b ∧ b ≤ 2147483647) (hc : -2147483648 ≤ c ∧ c ≤ 2147483647) (he : -2147483648 ≤ e ∧ e ≤ 2147483647) {v : Int} (ee : xF d 8 [.inr 2, .inl b, .inl c, .inl e] M = rI v M') : (wdC G b c e → v = G 2 (6 * b.toNat + c.toNat) ∧ XG M' (addD G b.toNat c.toNat e)) ∧ (¬ wdC G b c e → v = -1 ∧ XG M' G) := by
  obtain ⟨D, rfl, hD⟩ := dsucc hd
  have no : ¬ wdC G b c e → rI (-1) M = rI v M' → (wdC G b c e → v = G 2 (6 * b.toNat + c.toNat) ∧ XG M' (addD G b.toNat c.toNat e)) ∧ (¬ wdC G b c e → v = -1 ∧ XG M' G) := fun n z => ⟨fun y => absurd y n, fun _ => by
    obtain ⟨z1, z2⟩ := rI_inj z
    rw [← z1, ← z2]; exact ⟨rfl, X⟩⟩
  rw [T_X_widen, c_unlike7 (by omega) W X.1 (by omega) (by omega) (by omega) (by omega), pbI_rI, ite01p] at ee
  by_cases q : (0 ≤ b ∧ b < hR G) ∧ (0 ≤ c ∧ c < hR G) ∧ b ≠ c
  · rw [if_pos q] at ee
    by_cases q1 : e < 0
    · rw [if_pos (by rw [lt32_iff] <;> omega)] at ee
      exact no (fun z => by have := z.2; omega) ee
    · rw [if_neg (by rw [lt32_iff] <;> omega)] at ee
      by_cases q2 : e ≤ 9
      · obtain ⟨x, rfl⟩ := natI q.1.1
        obtain ⟨y, rfl⟩ := natI q.2.1.1
        have w1 := W.1
        have hxy : x ≠ y := by omega
        rw [if_pos (by rw [le32_iff] <;> omega), c_doorWidth7n (by omega) W X.1 (by omega) (by omega), pbI_rI, x_makeDoor7 (by omega) W X.1 (by omega) (by omega) hxy, pbN_rV] at ee
        refine ⟨fun _ => ?_, fun z => absurd ⟨q, by omega, q2⟩ z⟩
        obtain ⟨z1, z2⟩ := rI_inj ee
        rw [← z1, ← z2, Int.toNat_natCast, Int.toNat_natCast]
        refine ⟨rfl, XG_new X (XH_addD X.1 x y e) (fun o i ho _ => ?_) (fun o i ho => addD_ne (by omega))⟩
        rw [pset_ne (by omega), pset_ne (by omega)]
      · rw [if_neg (by rw [le32_iff] <;> omega)] at ee
        exact no (fun z => by have := z.2; omega) ee
  · rw [if_neg q] at ee
    exact no (fun z => q z.1) ee
theorem m_widen (hd : 4 ≤ d) (W : WF G) (X : MG M G) {b c e : Int} (hb : -2147483648 ≤ b ∧ b ≤ 2147483647) (hc : -2147483648 ≤ c ∧ c ≤ 2147483647) (he : -2147483648 ≤ e ∧ e ≤ 2147483647) {v : Int} (ee : xF d 204 [.inr 62, .inl b, .inl c, .inl e] M = rI v M') : (wdC G b c e → v = G 2 (6 * b.toNat + c.toNat) ∧ MG M' (addD G b.toNat c.toNat e)) ∧ (¬ wdC G b c e → v = -1 ∧ MG M' G) := by
  obtain ⟨D, rfl, hD⟩ := dsucc hd
  have w1 := W.1
  have X1 := MG_thr X
  rw [T_M_widen] at ee
  generalize pset M 60 17 0 = M1 at X1 ee
  have no : ¬ wdC G b c e → rI (-1) M1 = rI v M' → (wdC G b c e → v = G 2 (6 * b.toNat + c.toNat) ∧ MG M' (addD G b.toNat c.toNat e)) ∧ (¬ wdC G b c e → v = -1 ∧ MG M' G) := fun n z => ⟨fun y => absurd y n, fun _ => by
    obtain ⟨z1, z2⟩ := rI_inj z
    rw [← z1, ← z2]; exact ⟨rfl, X1⟩⟩
  rw [m_isRoom (by omega) X1.1.1 (by omega) (by omega) (by omega), pbI_rI] at ee
  by_cases q1 : 0 ≤ b ∧ b < (hR G : Int)
  · rw [if_pos q1, if_neg (by decide), m_isRoom (by omega) X1.1.1 (by omega) (by omega) (by omega), pbI_rI] at ee
    by_cases q2 : 0 ≤ c ∧ c < (hR G : Int)
    · rw [if_pos q2, if_neg (by decide)] at ee
      by_cases q3 : eq32 b c
      · rw [if_pos q3] at ee
        rw [eq32_iff (by omega) (by omega) (by omega) (by omega)] at q3
        exact no (fun z => z.1.2.2 q3) ee
      · rw [if_neg q3, m_in (by omega), pbI_rI] at ee
        rw [eq32_iff (by omega) (by omega) (by omega) (by omega)] at q3
        by_cases q4 : lt32 e 0 ∨ lt32 9 e
        · rw [if_pos q4, if_neg (fun z => z rfl)] at ee
          rw [lt32_iff (by omega) (by omega) (by omega) (by omega), lt32_iff (by omega) (by omega) (by omega) (by omega)] at q4
          exact no (fun z => by have := z.2; omega) ee
        · obtain ⟨x, rfl⟩ := natI q1.1
          obtain ⟨y, rfl⟩ := natI q2.1
          obtain ⟨D', rfl, -⟩ := dsucc (show 1 ≤ D by omega)
          rw [if_neg q4, if_pos (by decide), if_pos (by omega), T_M_put, if_pos (by omega), if_pos (by omega), pbN_rV, show (6 * (x : Int) + (y : Int)).toNat = 6 * x + y by omega, show (6 * (y : Int) + (x : Int)).toNat = 6 * y + x by omega] at ee
          rw [lt32_iff (by omega) (by omega) (by omega) (by omega), lt32_iff (by omega) (by omega) (by omega) (by omega)] at q4
          refine ⟨fun _ => ?_, fun z => absurd ⟨⟨q1, q2, q3⟩, by omega, by omega⟩ z⟩
          obtain ⟨z1, z2⟩ := rI_inj ee
          rw [← z1, ← z2, Int.toNat_natCast, Int.toNat_natCast]
          refine ⟨X1.1.2.2.2.2.1 _ (by omega), MG_new X1 (MH_addD X1.1 x y e) (fun o i ho _ => ?_) (fun o i ho => addD_ne (by omega)) ?_ ?_⟩
          · rw [pset_ne (by omega), pset_ne (by omega)]
          · unfold hR; rw [addD_ne (by decide)]
          · unfold hT; rw [addD_ne (by decide)]
    · rw [if_neg q2, if_pos rfl] at ee
      exact no (fun z => q2 z.1.2.1) ee
  · rw [if_neg q1, if_pos rfl] at ee
    exact no (fun z => q1 z.1.1) ee
/-! weights -/
noncomputable def gSh (G : pM) (k n f s : Int) : pM := fun o i => if o = 5 then shZ k n f s (hT G) (G 5) i else G o i
theorem gSh_ne {k n f s : Int} {o i : Nat} (ho : o ≠ 5) : gSh G k n f s o i = G o i := if_neg ho
theorem shZ_cg {k n f s : Int} {T : Nat} {p q : Nat → Int} {i : Nat} (e : p i = q i) : shZ k n f s T p i = shZ k n f s T q i := by
  unfold shZ
  rw [e]
theorem xg_sheet (hd : 2 ≤ d) (W : WF G) (X : XG M G) {k n f s : Int} (hk : -2147483648 ≤ k ∧ k ≤ 2147483647) (hn : -2147483648 ≤ n ∧ n ≤ 2147483647) {v : Int} (ee : xF d 10 [.inr 2, .inl k, .inl n, .inl f, .inl s] M = rI v M') : v = shA k n f s (hT G) ∧ XG M' (gSh G k n f s) := by
  obtain ⟨M1, e, r1, r2⟩ := x_sheet (d := d) hd (f := f) (s := s) W.2.1 hk hn X.1.2.1
  obtain ⟨rfl, rfl⟩ := rI_inj (ee.symm.trans e)
  obtain ⟨x1, x2, x3, x4, x5, x6, x7⟩ := X.1
  refine ⟨rfl, XG_new X ⟨by rw [r2 7 9 (by decide)]; exact x1, by rw [r2 7 10 (by decide)]; exact x2, by rw [r2 7 11 (by decide)]; exact x3, fun r hr => by rw [r2 8 r (by decide), gSh_ne (by decide)]; exact x4 r hr, fun p hp => by rw [r2 9 p (by decide), gSh_ne (by decide)]; exact x5 p hp, fun t ht => ?_, fun s hs => by rw [r2 14 s (by decide)]; exact x7 s hs⟩ (fun o i ho _ => r2 o i (by omega)) (fun o i ho => gSh_ne (by omega))⟩
  obtain ⟨y1, y2, y3, y4⟩ := x6 t ht
  rw [r2 10 t (by decide), r2 11 t (by decide), r2 13 t (by decide), r1 t, gSh_ne (show 3 ≠ 5 by decide), gSh_ne (show 4 ≠ 5 by decide), gSh_ne (show 6 ≠ 5 by decide)]
  exact ⟨y1, y2, shZ_cg y3, y4⟩
theorem mg_sheet (hd : 2 ≤ d) (W : WF G) (X : MG M G) {k n f s : Int} (hk : -2147483648 ≤ k ∧ k ≤ 2147483647) (hn : -2147483648 ≤ n ∧ n ≤ 2147483647) {v : Int} (ee : xF d 206 [.inr 62, .inl k, .inl n, .inl f, .inl s] M = rI v M') : v = shA k n f s (hT G) ∧ MG M' (gSh G k n f s) := by
  obtain ⟨M1, e, r1, r2⟩ := m_sheet (d := d) hd (f := f) (s := s) W.2.1 hk hn X.1.2.1
  obtain ⟨rfl, rfl⟩ := rI_inj (ee.symm.trans e)
  obtain ⟨x1, x2, x3, x4, x5, x6, x7⟩ := X.1
  refine ⟨rfl, MG_new X ⟨by rw [r2 60 0 (by decide) (by decide)]; exact x1, by rw [r2 60 3 (by decide) (by decide)]; exact x2, by rw [r2 60 8 (by decide) (by decide)]; exact x3, fun r hr => by rw [r2 61 r (by decide) (fun z => by cases z.1), gSh_ne (by decide)]; exact x4 r hr, fun p hp => by rw [r2 62 p (by decide) (fun z => by cases z.1), gSh_ne (by decide)]; exact x5 p hp, fun t ht => ?_, fun s hs => by rw [r2 67 s (by decide) (fun z => by cases z.1)]; exact x7 s hs⟩ (fun o i ho hc => r2 o i (by omega) (fun z => by rw [z.1, z.2] at hc; cases hc)) (fun o i ho => gSh_ne (by omega)) rfl rfl⟩
  obtain ⟨y1, y2, y3, y4⟩ := x6 t ht
  rw [r2 63 t (by decide) (fun z => by cases z.1), r2 64 t (by decide) (fun z => by cases z.1), r2 66 t (by decide) (fun z => by cases z.1), r1 t, gSh_ne (show 3 ≠ 5 by decide), gSh_ne (show 4 ≠ 5 by decide), gSh_ne (show 6 ≠ 5 by decide)]
  exact ⟨y1, y2, shZ_cg y3, y4⟩
end COS
/-! breaks, carry: what both sides hold then -/
def gBr (G : pM) (b : Nat) : pM := fun o i => if o = 7 ∧ i < hS G then ((nan (me G i) (2 ^ b) : Nat) : Int) else G o i
section COB
variable {D d : Nat} {M M' G : pM}
theorem gBr_ne {b o i : Nat} (ho : o ≠ 7) : gBr G b o i = G o i := if_neg (fun z => ho z.1)
theorem gBr_me {b s : Nat} (hs : s < hS G) : me (gBr G b) s = nan (me G s) (2 ^ b) := by
  show (gBr G b 7 s).toNat = _
  unfold gBr
  rw [if_pos ⟨rfl, hs⟩, Int.toNat_natCast]
theorem brk_v {t v : Nat} (ht : t < 10) (hv : v < 1024) : jand (v : Int) (jxor (jshl 1 (t : Int)) (-1)) = ((nan v (2 ^ t) : Nat) : Int) := by
  have hp : 2 ^ t < 1024 := show 2 ^ t < 2 ^ 10 from Nat.pow_lt_pow_right (by decide) (by omega)
  rw [jshl_one t (by omega), jxor_m1 (by omega), jand_not (by omega) (by omega)]
theorem x_leave (W : WF G) {t : Nat} (ht : t < 10) : ∀ (m s : Nat) (M : pM), s + m = hS G → gM gAll M → M 7 11 = hS G → (∀ i, i < hS G → M 14 i = ((if i < s then nan (me G i) (2 ^ t) else me G i : Nat) : Int)) → ∃ M', xE D 95 2 [.inr 9, .inl (t : Int), .inl (s : Int)] [] M = rV M' ∧ gM gAll M' ∧ (∀ i, i < hS G → M' 14 i = ((nan (me G i) (2 ^ t) : Nat) : Int)) ∧ ∀ o i, o ≠ 14 → M' o i = M o i := by
  have w3 := W.2.2.1
  intro m
  induction m with
  | zero =>
    intro s M hs hM h11 hi
    rw [L_House_leaveSets_2, h11, if_pos (by rw [le32_iff] <;> omega)]
    exact ⟨M, rfl, hM, fun i h => by rw [hi i h, if_pos (by omega)], fun _ _ _ => rfl⟩
  | succ m ih =>
    intro s M hs hM h11 hi
    have hm := Nat.lt_of_lt_of_le (W.2.2.2.2.2.2.2.2 s (by omega)) (p_T W)
    have e := hi s (by omega)
    rw [if_neg (Nat.lt_irrefl s)] at e
    have hn := nan_le (me G s) (2 ^ t)
    rw [L_House_leaveSets_2, h11, if_neg (by rw [le32_iff] <;> omega), if_pos (by omega), if_pos (by omega), Int.toNat_natCast, e, brk_v ht hm, show ((s : Int) + 1) = ((s + 1 : Nat) : Int) by omega]
    obtain ⟨M', e1, r1, r2, r3⟩ := ih (s + 1) (pset M 14 s ((nan (me G s) (2 ^ t) : Nat) : Int)) (by omega) (gM_r hM (lo := 0) (hi := 1023) (by decide +kernel) (by decide +kernel) (by omega) (by omega)) (by rw [pset_ne (by decide)]; exact h11) (fun i h => by
      by_cases q : i = s
      · rw [q, pset_eq, if_pos (Nat.lt_succ_self s)]
      · rw [pset_ne2 q, hi i h]
        by_cases q2 : i < s
        · rw [if_pos q2, if_pos (by omega)]
        · rw [if_neg q2, if_neg (by omega)])
    exact ⟨M', e1, r1, r2, fun o i ho => by rw [r3 o i ho, pset_ne ho]⟩
theorem XG_gBr (X : XG M G) {t : Nat} (e14 : ∀ i, i < hS G → M' 14 i = ((nan (me G i) (2 ^ t) : Nat) : Int)) (eM : ∀ o i, o ≠ 14 → cx o i = true → M' o i = M o i) : XG M' (gBr G t) := by
  obtain ⟨x1, x2, x3, x4, x5, x6, x7⟩ := X.1
  refine XG_new X ⟨by rw [eM 7 9 (by decide) rfl]; exact x1, by rw [eM 7 10 (by decide) rfl]; exact x2, by rw [eM 7 11 (by decide) rfl]; exact x3, fun r hr => by rw [eM 8 r (by decide) rfl, gBr_ne (by decide)]; exact x4 r hr, fun p hp => by rw [eM 9 p (by decide) rfl, gBr_ne (by decide)]; exact x5 p hp, fun t ht => ?_, fun s hs => ?_⟩ (fun o i ho hc => eM o i (by omega) hc) (fun o i ho => gBr_ne (by omega))
  · rw [eM 10 t (by decide) rfl, eM 11 t (by decide) rfl, eM 12 t (by decide) rfl, eM 13 t (by decide) rfl, gBr_ne (by decide), gBr_ne (by decide), gBr_ne (by decide), gBr_ne (by decide)]
    exact x6 t ht
  · have hs : s < hS G := hs
    rw [gBr_me hs]; exact e14 s hs
theorem MG_gBr (X : MG M G) {t : Nat} (e67 : ∀ i, i < hS G → M' 67 i = ((nan (me G i) (2 ^ t) : Nat) : Int)) (eM : ∀ o i, o ≠ 67 → cm o i = true → M' o i = M o i) : MG M' (gBr G t) := by
  obtain ⟨x1, x2, x3, x4, x5, x6, x7⟩ := X.1
  refine MG_new X ⟨by rw [eM 60 0 (by decide) rfl]; exact x1, by rw [eM 60 3 (by decide) rfl]; exact x2, by rw [eM 60 8 (by decide) rfl]; exact x3, fun r hr => by rw [eM 61 r (by decide) rfl, gBr_ne (by decide)]; exact x4 r hr, fun p hp => by rw [eM 62 p (by decide) rfl, gBr_ne (by decide)]; exact x5 p hp, fun t ht => ?_, fun s hs => ?_⟩ (fun o i ho hc => eM o i (by omega) hc) (fun o i ho => gBr_ne (by omega)) rfl rfl
  · rw [eM 63 t (by decide) rfl, eM 64 t (by decide) rfl, eM 65 t (by decide) rfl, eM 66 t (by decide) rfl, gBr_ne (by decide), gBr_ne (by decide), gBr_ne (by decide), gBr_ne (by decide)]
    exact x6 t ht
  · have hs : s < hS G := hs
    rw [gBr_me hs]; exact e67 s hs
theorem xg_breaks (hd : 4 ≤ d) (W : WF G) (hM : gM gAll M) (X : XG M G) {b : Int} (hb : -2147483648 ≤ b ∧ b ≤ 2147483647) {v : Int} (ee : xF d 19 [.inr 2, .inl b] M = rI v M') : (0 ≤ b ∧ b < hT G → XG M' (gBr G b.toNat)) ∧ (¬ (0 ≤ b ∧ b < hT G) → v = -1 ∧ XG M' G) := by
  obtain ⟨D, rfl, hD⟩ := dsucc hd
  obtain ⟨D', rfl, -⟩ := dsucc (show 1 ≤ D by omega)
  have w2 := W.2.1
  rw [T_X_breaks, c_isThing7 (by omega) W X.1 (by omega) (by omega), pbI_rI, ite01pn] at ee
  by_cases q : 0 ≤ b ∧ b < hT G
  · obtain ⟨t, rfl⟩ := natI q.1
    obtain ⟨M1, e1, g1, r1, f1⟩ := x_leave (D := D') W (t := t) (by omega) (hS G) 0 M (by omega) hM X.1.2.2.1 (fun i hi => by rw [X.1.2.2.2.2.2.2 i hi, if_neg (Nat.not_lt_zero i)])
    obtain ⟨M2, e2, g2, f2⟩ := v_hang (d := D' + 1) (by omega) g1
    rw [if_pos q, T_House_leaveSets, show (.inl 0 : pV) = .inl ((0 : Nat) : Int) from rfl, e1, pbN_rV, e2, pbN_rV] at ee
    refine ⟨fun _ => ?_, fun z => absurd q z⟩
    rw [← (rI_inj ee).2, Int.toNat_natCast]
    have f2' : ∀ o i, cx o i = true → M2 o i = M1 o i := fun o i h => f2 o i (okW_no cx_o (by decide) h)
    exact XG_gBr X (fun i hi => by rw [f2' 14 i rfl]; exact r1 i hi) (fun o i ho hc => by rw [f2' o i hc, f1 o i ho])
  · rw [if_neg q] at ee
    refine ⟨fun z => absurd z q, fun _ => ?_⟩
    obtain ⟨z1, z2⟩ := rI_inj ee
    rw [← z1, ← z2]; exact ⟨rfl, X⟩
theorem m_leave (W : WF G) {t : Nat} (ht : t < 10) : ∀ (m s : Nat) (M : pM), s + m = hS G → gM gAll M → M 60 8 = hS G → (∀ i, i < hS G → M 67 i = ((if i < s then nan (me G i) (2 ^ t) else me G i : Nat) : Int)) → ∃ M', xE D 226 11 [.inr 62, .inl (t : Int), .inl (s : Int)] [] M = xE D 226 11 [.inr 62, .inl (t : Int), .inl (hS G : Int)] [] M' ∧ gM gAll M' ∧ (∀ i, i < hS G → M' 67 i = ((nan (me G i) (2 ^ t) : Nat) : Int)) ∧ ∀ o i, o ≠ 67 → M' o i = M o i := by
  have w3 := W.2.2.1
  intro m
  induction m with
  | zero =>
    intro s M hs hM h11 hi
    have e : s = hS G := by omega
    rw [e]
    exact ⟨M, rfl, hM, fun i h => by rw [hi i h, if_pos (by omega)], fun _ _ _ => rfl⟩
  | succ m ih =>
    intro s M hs hM h11 hi
    have hm := Nat.lt_of_lt_of_le (W.2.2.2.2.2.2.2.2 s (by omega)) (p_T W)
    have e := hi s (by omega)
    rw [if_neg (Nat.lt_irrefl s)] at e
    have hn := nan_le (me G s) (2 ^ t)
    rw [L_M_breaks_11, h11, if_neg (by rw [le32_iff] <;> omega), if_pos (by omega), if_pos (by omega), Int.toNat_natCast, e, brk_v ht hm, show ((s : Int) + 1) = ((s + 1 : Nat) : Int) by omega]
    obtain ⟨M', e1, r1, r2, r3⟩ := ih (s + 1) (pset M 67 s ((nan (me G s) (2 ^ t) : Nat) : Int)) (by omega) (gM_r hM (lo := 0) (hi := 1023) (by decide +kernel) (by decide +kernel) (by omega) (by omega)) (by rw [pset_ne (by decide)]; exact h11) (fun i h => by
      by_cases q : i = s
      · rw [q, pset_eq, if_pos (Nat.lt_succ_self s)]
      · rw [pset_ne2 q, hi i h]
        by_cases q2 : i < s
        · rw [if_pos q2, if_pos (by omega)]
        · rw [if_neg q2, if_neg (by omega)])
    exact ⟨M', e1, r1, r2, fun o i ho => by rw [r3 o i ho, pset_ne ho]⟩
theorem mg_breaks (hd : 3 ≤ d) (W : WF G) (hM : gM gAll M) (X : MG M G) {b : Int} (hb : -2147483648 ≤ b ∧ b ≤ 2147483647) {v : Int} (ee : xF d 226 [.inr 62, .inl b] M = rI v M') : (0 ≤ b ∧ b < hT G → MG M' (gBr G b.toNat)) ∧ (¬ (0 ≤ b ∧ b < hT G) → v = -1 ∧ MG M' G) := by
  obtain ⟨D, rfl, hD⟩ := dsucc hd
  have w2 := W.2.1
  have w3 := W.2.2.1
  have X1 := MG_thr X
  have hM1 := gM_thr hM
  rw [T_M_breaks] at ee
  generalize pset M 60 17 0 = M1 at X1 hM1 ee
  rw [m_isThing (by omega) X1.1.2.1 (by omega) (by omega) (by omega), pbI_rI] at ee
  by_cases q : 0 ≤ b ∧ b < (hT G : Int)
  · obtain ⟨t, rfl⟩ := natI q.1
    obtain ⟨M2, e1, g1, r1, f1⟩ := m_leave (D := D) W (t := t) (by omega) (hS G) 0 M1 (by omega) hM1 X1.1.2.2.1 (fun i hi => by rw [X1.1.2.2.2.2.2.2 i hi, if_neg (Nat.not_lt_zero i)])
    obtain ⟨M3, e2, g2, f2, -⟩ := m_findClumps (d := D) (ns := 0) (g := 0) (by omega) g1 (fcx_of g1) (by decide) (by decide)
    rw [if_pos q, if_pos (by decide), show (.inl 0 : pV) = .inl ((0 : Nat) : Int) from rfl, e1, L_M_breaks_11, f1 60 8 (by decide), X1.1.2.2.1, if_pos (by rw [le32_iff] <;> omega), show (.inl 0 : pV) = .inl ((0 : Nat) : Int) from rfl, e2, pbN_rV] at ee
    refine ⟨fun _ => ?_, fun z => absurd q z⟩
    rw [← (rI_inj ee).2, Int.toNat_natCast]
    have f2' : ∀ o i, cm o i = true → M3 o i = M2 o i := fun o i h => f2 o i (okW_no cm_o (by decide) h)
    exact MG_gBr X1 (fun i hi => by rw [f2' 67 i rfl]; exact r1 i hi) (fun o i ho hc => by rw [f2' o i hc, f1 o i ho])
  · rw [if_neg q, if_neg (fun z => z rfl)] at ee
    refine ⟨fun z => absurd z q, fun _ => ?_⟩
    obtain ⟨z1, z2⟩ := rI_inj ee
    rw [← z1, ← z2]; exact ⟨rfl, X1⟩
end COB
/-! carry: what both sides hold then -/
def pqN (n : Int) : Int := if n < 20 then n + 1 else 20
def pqF (n : Int) (f : Nat → Int) (v : Int) (k : Nat) : Int := if n < 20 then (if (k : Int) = n then v else f k) else (if k = 19 then v else f (k + 1))
theorem pqF_cg {n : Int} {f g : Nat → Int} {v : Int} {k : Nat} (hn : 0 ≤ n ∧ n ≤ 20) (hk : (k : Int) < pqN n) (e : ∀ j : Nat, (j : Int) < n → f j = g j) : pqF n f v k = pqF n g v k := by
  unfold pqN at hk
  unfold pqF
  by_cases q : n < 20
  · rw [if_pos q] at hk
    rw [if_pos q, if_pos q]
    by_cases q2 : (k : Int) = n
    · rw [if_pos q2, if_pos q2]
    · rw [if_neg q2, if_neg q2, e k (by omega)]
  · rw [if_neg q] at hk
    rw [if_neg q, if_neg q]
    by_cases q2 : k = 19
    · rw [if_pos q2, if_pos q2]
    · rw [if_neg q2, if_neg q2, e (k + 1) (by omega)]
/-- one more that can be undone -/
def gPush (G : pM) (b v w : Int) : pM := fun o i => if o = 9 ∧ i = 0 then pqN (G 9 0) else if o = 10 then pqF (G 9 0) (G 10) b i else if o = 11 then pqF (G 9 0) (G 11) v i else if o = 12 then pqF (G 9 0) (G 12) w i else G o i
/-- a thing is carried -/
def gCarry (G : pM) (b c : Nat) : pM := fun o i => if o = 6 ∧ i = b then (c : Int) else if o = 8 ∧ i = 1 then G 8 1 + cst G b (G 6 b).toNat c else gPush G b (G 6 b) (G 8 1) o i
def att (G : pM) (p : Nat → Int) (e : Int) (b c : Nat) : Int := if cst G b (p b).toNat c < 0 then -2 else if le32 (e + cst G b (p b).toNat c) (G 8 2) then cst G b (p b).toNat c else -3
/-- what it costs to carry a thing, or why not -/
def attF (G : pM) (p : Nat → Int) (e b c : Int) : Int := if (0 ≤ b ∧ b < hT G) ∧ (0 ≤ c ∧ c < hR G) then att G p e b.toNat c.toNat else -1
section COC
variable {D d : Nat} {M M' G G' : pM} {p : Nat → Int}
theorem att_range (W : WF G) {b : Nat} (hb : b < hT G) (e : Int) (c : Nat) : -3 ≤ att G p e b c ∧ att G p e b c ≤ 45 := by
  have := cst_range W hb (p b).toNat c
  unfold att
  split
  · omega
  · split <;> omega
theorem attF_range (W : WF G) (e b c : Int) : -3 ≤ attF G p e b c ∧ attF G p e b c ≤ 45 := by
  unfold attF
  by_cases q : (0 ≤ b ∧ b < hT G) ∧ (0 ≤ c ∧ c < hR G)
  · rw [if_pos q]; exact att_range W (by omega) e _
  · rw [if_neg q]; omega
theorem attF_room {e b c : Int} (h : 0 ≤ attF G p e b c) : ((0 ≤ b ∧ b < hT G) ∧ (0 ≤ c ∧ c < hR G)) ∧ 0 ≤ cst G b.toNat (p b.toNat).toNat c.toNat ∧ le32 (e + cst G b.toNat (p b.toNat).toNat c.toNat) (G 8 2) ∧ attF G p e b c = cst G b.toNat (p b.toNat).toNat c.toNat := by
  unfold attF at h ⊢
  by_cases q : (0 ≤ b ∧ b < hT G) ∧ (0 ≤ c ∧ c < hR G)
  · rw [if_pos q] at h ⊢
    unfold att at h ⊢
    by_cases q2 : cst G b.toNat (p b.toNat).toNat c.toNat < 0
    · rw [if_pos q2] at h; omega
    · rw [if_neg q2] at h ⊢
      by_cases q3 : le32 (e + cst G b.toNat (p b.toNat).toNat c.toNat) (G 8 2)
      · rw [if_pos q3]; exact ⟨q, by omega, q3, rfl⟩
      · rw [if_neg q3] at h; omega
  · rw [if_neg q] at h; omega
theorem x_att13 (hd : 5 ≤ d) (W : WF G) (X : XG M G) {b c : Int} (hb : -2147483648 ≤ b ∧ b ≤ 2147483647) (hc : -2147483648 ≤ c ∧ c ≤ 2147483647) (e : Int) : xF d 51 [.inr 2, .inl b, .inl c, .inr 15, .inl e] M = rI (attF G (G 6) e b c) M := by
  obtain ⟨D, rfl, hD⟩ := dsucc hd
  have w1 := W.1
  have w2 := W.2.1
  rw [T_X_attempt_13, c_isThing7 (by omega) W X.1 (by omega) (by omega), pbI_rI, ite01p]
  unfold attF
  by_cases q1 : 0 ≤ b ∧ b < (hT G : Int)
  · rw [if_pos q1, c_isRoom7 (by omega) W X.1 (by omega) (by omega), pbI_rI, ite01pn]
    by_cases q2 : 0 ≤ c ∧ c < (hR G : Int)
    · obtain ⟨x, rfl⟩ := natI q1.1
      obtain ⟨y, rfl⟩ := natI q2.1
      have hx := (X.1.2.2.2.2.2.1 x (by omega)).2.2.2
      have hw := (W.2.2.2.2.2.2.2.1 x (by omega)).2.2.2
      obtain ⟨z, hz⟩ := natI hw.1
      have cr := cst_range W (t := x) (by omega) z y
      rw [if_pos q2, if_pos ⟨q1, q2⟩, c_numberAt_13n (by omega) (by omega), pbI_rI, hx, hz, c_cost (by omega) W X.1 (by omega) (by omega) (by omega), pbI_rI]
      unfold att
      rw [Int.toNat_natCast, Int.toNat_natCast, hz, Int.toNat_natCast]
      by_cases q3 : cst G x z y < 0
      · rw [if_neg (by rw [le32_iff] <;> omega), if_pos q3]
      · rw [if_pos (by rw [le32_iff] <;> omega), if_neg q3, X.2.1.2.2]
        by_cases q4 : le32 (e + cst G x z y) (G 8 2)
        · rw [if_pos q4, if_pos q4]
        · rw [if_neg q4, if_neg q4]
    · rw [if_neg q2, if_neg (fun z => q2 z.2)]
  · rw [if_neg q1, if_neg (fun z => q1 z.1)]
/-! undos -/
theorem x_drop : ∀ (m x : Nat) (M1 : pM), x + m = 20 → 1 ≤ x → (∀ k, k < 20 → M1 40 k = (if k + 1 < x then M 40 (k + 1) else M 40 k) ∧ M1 41 k = (if k + 1 < x then M 41 (k + 1) else M 41 k) ∧ M1 42 k = (if k + 1 < x then M 42 (k + 1) else M 42 k)) → ∃ M', xE D 131 2 [.inr 41, .inl (x : Int)] [] M1 = rV M' ∧ (∀ k, k < 19 → M' 40 k = M 40 (k + 1) ∧ M' 41 k = M 41 (k + 1) ∧ M' 42 k = M 42 (k + 1)) ∧ M' 39 3 = 19 ∧ ∀ o i, ¬ (o = 39 ∧ i = 3) → o ≠ 40 → o ≠ 41 → o ≠ 42 → M' o i = M1 o i := by
  intro m
  induction m with
  | zero =>
    intro x M1 hx h1 hk
    have e : x = 20 := by omega
    rw [L_Past_dropFirst_2, e, if_pos (by decide)]
    refine ⟨_, rfl, fun k h => ?_, pset_eq, fun o i a _ _ _ => ?_⟩
    · obtain ⟨a, b, c⟩ := hk k (by omega)
      rw [if_pos (by omega)] at a b c
      rw [pset_ne (by decide), pset_ne (by decide), pset_ne (by decide)]
      exact ⟨a, b, c⟩
    · unfold pset
      rw [if_neg (fun z => a z)]
  | succ m ih =>
    intro x M1 hx h1 hk
    have i0 : (0 : Int) ≤ (x : Int) ∧ (x : Int) < 20 := by omega
    have i1 : (0 : Int) ≤ (x : Int) - 1 ∧ (x : Int) - 1 < 20 := by omega
    obtain ⟨y, rfl⟩ : ∃ y, x = y + 1 := ⟨x - 1, by omega⟩
    have ey : (((y + 1 : Nat) : Int) - 1).toNat = y := by omega
    obtain ⟨a, b, c⟩ := hk (y + 1) (by omega)
    rw [if_neg (by omega)] at a b c
    rw [L_Past_dropFirst_2, if_neg (by rw [le32_iff] <;> omega)]
    simp only [if_pos i0, if_pos i1, ey, Int.toNat_natCast, pset_ne (show 41 ≠ 40 by decide), pset_ne (show 42 ≠ 40 by decide), pset_ne (show 42 ≠ 41 by decide)]
    rw [a, b, c, show ((((y + 1 : Nat) : Int)) + 1) = ((y + 1 + 1 : Nat) : Int) by omega]
    obtain ⟨M', e1, r1, r2, r3⟩ := ih (y + 1 + 1) (pset (pset (pset M1 40 y (M 40 (y + 1))) 41 y (M 41 (y + 1))) 42 y (M 42 (y + 1))) (by omega) (by omega) (fun k h => by
      rw [pset_ne (show 40 ≠ 42 by decide), pset_ne (show 40 ≠ 41 by decide), pset_ne (show 41 ≠ 42 by decide)]
      obtain ⟨u1, u2, u3⟩ := hk k h
      by_cases q : k = y
      · rw [q, pset_eq, pset_eq, pset_eq, if_pos (by omega), if_pos (by omega), if_pos (by omega)]
        exact ⟨rfl, rfl, rfl⟩
      · rw [pset_ne2 q, pset_ne2 q, pset_ne2 q, pset_ne (show 41 ≠ 40 by decide), pset_ne (show 42 ≠ 41 by decide), pset_ne (show 42 ≠ 40 by decide), u1, u2, u3]
        by_cases q2 : k + 1 < y + 1
        · rw [if_pos q2, if_pos q2, if_pos q2, if_pos (by omega), if_pos (by omega), if_pos (by omega)]
          exact ⟨rfl, rfl, rfl⟩
        · rw [if_neg q2, if_neg q2, if_neg q2, if_neg (by omega), if_neg (by omega), if_neg (by omega)]
          exact ⟨rfl, rfl, rfl⟩)
    exact ⟨M', e1, r1, r2, fun o i h1 h2 h3 h4 => by rw [r3 o i h1 h2 h3 h4, pset_ne h4, pset_ne h3, pset_ne h2]⟩
theorem x_push (hd : 2 ≤ d) (hn : 0 ≤ M 39 3 ∧ M 39 3 ≤ 20) (b v w : Int) : ∃ M', xF d 130 [.inr 41, .inl b, .inl v, .inl w] M = rV M' ∧ M' 39 3 = pqN (M 39 3) ∧ (∀ k : Nat, (k : Int) < pqN (M 39 3) → M' 40 k = pqF (M 39 3) (M 40) b k ∧ M' 41 k = pqF (M 39 3) (M 41) v k ∧ M' 42 k = pqF (M 39 3) (M 42) w k) ∧ ∀ o i, ¬ (o = 39 ∧ i = 3) → o ≠ 40 → o ≠ 41 → o ≠ 42 → M' o i = M o i := by
  obtain ⟨D, rfl, hD⟩ := dsucc hd
  obtain ⟨D', rfl, -⟩ := dsucc (show 1 ≤ D by omega)
  have a1 : ∀ (M : pM) (i : Nat) (v : Int), pset M 40 i v 39 3 = M 39 3 := fun _ _ _ => pset_ne (by decide)
  have a2 : ∀ (M : pM) (i : Nat) (v : Int), pset M 41 i v 39 3 = M 39 3 := fun _ _ _ => pset_ne (by decide)
  have a3 : ∀ (M : pM) (i : Nat) (v : Int), pset M 42 i v 39 3 = M 39 3 := fun _ _ _ => pset_ne (by decide)
  have fin : ∀ (M1 : pM) (n : Nat), n < 20 → M1 39 3 = (n : Int) → (∀ o i, ¬ (o = 39 ∧ i = 3) → o ≠ 40 → o ≠ 41 → o ≠ 42 → M1 o i = M o i) → ((n + 1 : Nat) : Int) = pqN (M 39 3) → (∀ k : Nat, k < n → M1 40 k = pqF (M 39 3) (M 40) b k ∧ M1 41 k = pqF (M 39 3) (M 41) v k ∧ M1 42 k = pqF (M 39 3) (M 42) w k) → b = pqF (M 39 3) (M 40) b n → v = pqF (M 39 3) (M 41) v n → w = pqF (M 39 3) (M 42) w n → (pset (pset (pset (pset M1 40 n b) 41 n v) 42 n w) 39 3 ((n : Int) + 1)) 39 3 = pqN (M 39 3) ∧ (∀ k : Nat, (k : Int) < pqN (M 39 3) → (pset (pset (pset (pset M1 40 n b) 41 n v) 42 n w) 39 3 ((n : Int) + 1)) 40 k = pqF (M 39 3) (M 40) b k ∧ (pset (pset (pset (pset M1 40 n b) 41 n v) 42 n w) 39 3 ((n : Int) + 1)) 41 k = pqF (M 39 3) (M 41) v k ∧ (pset (pset (pset (pset M1 40 n b) 41 n v) 42 n w) 39 3 ((n : Int) + 1)) 42 k = pqF (M 39 3) (M 42) w k) ∧ ∀ o i, ¬ (o = 39 ∧ i = 3) → o ≠ 40 → o ≠ 41 → o ≠ 42 → (pset (pset (pset (pset M1 40 n b) 41 n v) 42 n w) 39 3 ((n : Int) + 1)) o i = M o i := by
    intro M1 n hn1 h3 ho hq hk e1 e2 e3
    refine ⟨by rw [pset_eq, ← hq]; omega, fun k h => ?_, fun o i h1 h2 h3 h4 => ?_⟩
    · rw [pset_ne (show 40 ≠ 39 by decide), pset_ne (show 41 ≠ 39 by decide), pset_ne (show 42 ≠ 39 by decide), pset_ne (show 40 ≠ 42 by decide), pset_ne (show 40 ≠ 41 by decide), pset_ne (show 41 ≠ 42 by decide)]
      by_cases q : k = n
      · rw [q, pset_eq, pset_eq, pset_eq]; exact ⟨e1, e2, e3⟩
      · rw [pset_ne2 q, pset_ne2 q, pset_ne2 q, pset_ne (show 41 ≠ 40 by decide), pset_ne (show 42 ≠ 41 by decide), pset_ne (show 42 ≠ 40 by decide)]
        exact hk k (by omega)
    · have e : (pset (pset (pset (pset M1 40 n b) 41 n v) 42 n w) 39 3 ((n : Int) + 1)) o i = M1 o i := by
        unfold pset
        rw [if_neg (fun z => h1 z), if_neg (fun z => h4 z.1), if_neg (fun z => h3 z.1), if_neg (fun z => h2 z.1)]
      rw [e]; exact ho o i h1 h2 h3 h4
  obtain ⟨n, h39⟩ := natI hn.1
  rw [T_Past_add]
  by_cases q : n < 20
  · have i0 : (0 : Int) ≤ (n : Int) ∧ (n : Int) < 20 := by omega
    rw [if_pos (by rw [h39, lt32_iff] <;> omega), if_neg (by rw [h39, lt32_iff] <;> omega), if_neg (by rw [h39, le32_iff] <;> omega)]
    simp only [a1, a2, a3, h39, if_pos i0, Int.toNat_natCast]
    have := fin M n q h39 (fun _ _ _ _ _ _ => rfl) (by unfold pqN; rw [if_pos (by omega)]; omega) (fun k h => by
      unfold pqF
      rw [if_pos (by omega), if_neg (by omega), if_pos (by omega), if_neg (by omega), if_pos (by omega), if_neg (by omega)]
      exact ⟨rfl, rfl, rfl⟩) (by unfold pqF; rw [if_pos (by omega), if_pos (by omega)]) (by unfold pqF; rw [if_pos (by omega), if_pos (by omega)]) (by unfold pqF; rw [if_pos (by omega), if_pos (by omega)])
    rw [h39] at this
    exact ⟨_, rfl, this⟩
  · have e20 : n = 20 := by omega
    have i0 : (0 : Int) ≤ ((19 : Nat) : Int) ∧ ((19 : Nat) : Int) < 20 := by decide
    obtain ⟨M1, e1, r1, r2, r3⟩ := x_drop (D := D') (M := M) 19 1 M (by decide) (by decide) (fun k _ => by rw [if_neg (by omega), if_neg (by omega), if_neg (by omega)]; exact ⟨rfl, rfl, rfl⟩)
    have r2 : M1 39 3 = ((19 : Nat) : Int) := r2
    rw [if_neg (by rw [h39, lt32_iff] <;> omega), T_Past_dropFirst, show (.inl 1 : pV) = .inl ((1 : Nat) : Int) from rfl, e1, pbN_rV, if_neg (by rw [r2, lt32_iff] <;> omega), if_neg (by rw [r2, le32_iff] <;> omega)]
    simp only [a1, a2, a3, r2, if_pos i0, Int.toNat_natCast]
    have := fin M1 19 (by decide) r2 r3 (by unfold pqN; rw [if_neg (by omega)]; rfl) (fun k h => by
      obtain ⟨u1, u2, u3⟩ := r1 k h
      unfold pqF
      rw [if_neg (by omega), if_neg (by omega), if_neg (by omega), if_neg (by omega), if_neg (by omega), if_neg (by omega)]
      exact ⟨u1, u2, u3⟩) (by unfold pqF; rw [if_neg (by omega), if_pos rfl]) (by unfold pqF; rw [if_neg (by omega), if_pos rfl]) (by unfold pqF; rw [if_neg (by omega), if_pos rfl])
    exact ⟨_, rfl, this⟩
end COC
/-! carry on both sides -/
section COE
variable {D d : Nat} {M M' G G' : pM} {p : Nat → Int}
theorem g66_free {b : Nat} {c : Nat} {i : Nat} : gCarry G b c 6 i = if i = b then (c : Int) else G 6 i := by
  unfold gCarry gPush
  by_cases q : i = b
  · rw [if_pos ⟨rfl, q⟩, if_pos q]
  · rw [if_neg (fun z => q z.2), if_neg q, if_neg (by omega), if_neg (by omega), if_neg (by omega), if_neg (by omega), if_neg (by omega)]
theorem gCarry_ne {b c o i : Nat} (h1 : o ≠ 6) (h2 : o ≠ 8) (h3 : o < 9 ∨ 12 < o) : gCarry G b c o i = G o i := by
  unfold gCarry gPush
  rw [if_neg (by omega), if_neg (by omega), if_neg (by omega), if_neg (by omega), if_neg (by omega), if_neg (by omega)]
theorem gCarry_8 {b c i : Nat} : gCarry G b c 8 i = if i = 1 then G 8 1 + cst G b (G 6 b).toNat c else G 8 i := by
  unfold gCarry gPush
  rw [if_neg (by omega)]
  by_cases q : i = 1
  · rw [if_pos ⟨rfl, q⟩, if_pos q]
  · rw [if_neg (fun z => q z.2), if_neg q, if_neg (by omega), if_neg (by omega), if_neg (by omega), if_neg (by omega)]
theorem gCarry_9 {b c : Nat} : gCarry G b c 9 0 = pqN (G 9 0) := by
  unfold gCarry gPush
  rw [if_neg (by omega), if_neg (by omega), if_pos ⟨rfl, rfl⟩]
theorem gCarry_10 {b c k : Nat} : gCarry G b c 10 k = pqF (G 9 0) (G 10) b k := by
  unfold gCarry gPush
  rw [if_neg (by omega), if_neg (by omega), if_neg (by omega), if_pos rfl]
theorem gCarry_11 {b c k : Nat} : gCarry G b c 11 k = pqF (G 9 0) (G 11) (G 6 b) k := by
  unfold gCarry gPush
  rw [if_neg (by omega), if_neg (by omega), if_neg (by omega), if_neg (by omega), if_pos rfl]
theorem gCarry_12 {b c k : Nat} : gCarry G b c 12 k = pqF (G 9 0) (G 12) (G 8 1) k := by
  unfold gCarry gPush
  rw [if_neg (by omega), if_neg (by omega), if_neg (by omega), if_neg (by omega), if_neg (by omega), if_pos rfl]
/-- the class carries -/
theorem XG_carry (W : WF G) (X : XG M G) (hn : 0 ≤ G 9 0 ∧ G 9 0 ≤ 20) {b c : Nat} (hb : b < hT G) (hc : c < hR G) (e13 : ∀ i, M' 13 i = if i = b then (c : Int) else M 13 i) (e16 : M' 0 16 = G 8 1 + cst G b (G 6 b).toNat c) (e39 : M' 39 3 = pqN (M 39 3)) (ek : ∀ k : Nat, (k : Int) < pqN (M 39 3) → M' 40 k = pqF (M 39 3) (M 40) b k ∧ M' 41 k = pqF (M 39 3) (M 41) (G 6 b) k ∧ M' 42 k = pqF (M 39 3) (M 42) (G 8 1) k) (eo : ∀ o i, cx o i = true → o ≠ 13 → ¬ (o = 0 ∧ i = 16) → ¬ (o = 39 ∧ i = 3) → o ≠ 40 → o ≠ 41 → o ≠ 42 → M' o i = M o i) : XG M' (gCarry G b c) := by
  obtain ⟨⟨x1, x2, x3, x4, x5, x6, x7⟩, ⟨d1, d2, d3⟩, ⟨p1, p2⟩, k⟩ := X
  refine ⟨⟨by rw [eo 7 9 rfl (by omega) (by omega) (by omega) (by omega) (by omega) (by omega)]; exact x1, by rw [eo 7 10 rfl (by omega) (by omega) (by omega) (by omega) (by omega) (by omega)]; exact x2, by rw [eo 7 11 rfl (by omega) (by omega) (by omega) (by omega) (by omega) (by omega)]; exact x3, fun r hr => ?_, fun q hq => ?_, fun t ht => ?_, fun s hs => ?_⟩, ⟨?_, ?_, ?_⟩, ⟨?_, fun j hj => ?_⟩, fun i hi => ?_⟩
  · rw [eo 8 r rfl (by omega) (by omega) (by omega) (by omega) (by omega) (by omega), gCarry_ne (by decide) (by decide) (by decide)]; exact x4 r hr
  · rw [eo 9 q rfl (by omega) (by omega) (by omega) (by omega) (by omega) (by omega), gCarry_ne (by decide) (by decide) (by decide)]; exact x5 q hq
  · obtain ⟨y1, y2, y3, y4⟩ := x6 t ht
    rw [eo 10 t rfl (by omega) (by omega) (by omega) (by omega) (by omega) (by omega), eo 11 t rfl (by omega) (by omega) (by omega) (by omega) (by omega) (by omega), eo 12 t rfl (by omega) (by omega) (by omega) (by omega) (by omega) (by omega), e13 t, g66_free, gCarry_ne (show 3 ≠ 6 by decide) (by decide) (by decide), gCarry_ne (show 4 ≠ 6 by decide) (by decide) (by decide), gCarry_ne (show 5 ≠ 6 by decide) (by decide) (by decide), y4]
    exact ⟨y1, y2, y3, rfl⟩
  · rw [eo 14 s rfl (by omega) (by omega) (by omega) (by omega) (by omega) (by omega)]
    have : me (gCarry G b c) s = me G s := by unfold me; rw [gCarry_ne (by decide) (by decide) (by decide)]
    rw [this]; exact x7 s hs
  · rw [eo 0 15 rfl (by omega) (by omega) (by omega) (by omega) (by omega) (by omega), gCarry_8, if_neg (by decide)]; exact d1
  · rw [e16, gCarry_8, if_pos rfl]
  · rw [eo 0 17 rfl (by omega) (by omega) (by omega) (by omega) (by omega) (by omega), gCarry_8, if_neg (by decide)]; exact d3
  · rw [e39, gCarry_9, p1]
  · rw [gCarry_9] at hj
    obtain ⟨u1, u2, u3⟩ := ek j (by rw [p1]; exact hj)
    rw [u1, u2, u3, gCarry_10, gCarry_11, gCarry_12, p1]
    exact ⟨pqF_cg hn hj (fun q hq => (p2 q hq).1), pqF_cg hn hj (fun q hq => (p2 q hq).2.1), pqF_cg hn hj (fun q hq => (p2 q hq).2.2)⟩
  · have a : ∀ j, M' (44 + 2 * i) j = M (44 + 2 * i) j := fun j => by
      rcases (show i = 0 ∨ i = 1 by omega) with rfl | rfl
      · exact eo 44 j rfl (by omega) (by omega) (by omega) (by omega) (by omega) (by omega)
      · exact eo 46 j rfl (by omega) (by omega) (by omega) (by omega) (by omega) (by omega)
    have bb : ∀ j, M' (45 + 2 * i) j = M (45 + 2 * i) j := fun j => by
      rcases (show i = 0 ∨ i = 1 by omega) with rfl | rfl
      · exact eo 45 j rfl (by omega) (by omega) (by omega) (by omega) (by omega) (by omega)
      · exact eo 47 j rfl (by omega) (by omega) (by omega) (by omega) (by omega) (by omega)
    have g : ∀ o j, 12 < o → gCarry G b c o j = G o j := fun o j ho => gCarry_ne (by omega) (by omega) (by omega)
    have g16 : ∀ j, gCarry G b c (16 + i) j = G (16 + i) j := fun j => g _ j (by omega)
    simp only [a, bb, g16, g 13 i (by decide), g 14 i (by decide), g 15 i (by decide), g 18 i (by decide), g 19 i (by decide)]
    exact k i hi
theorem xg_carry (hd : 6 ≤ d) (W : WF G) (X : XG M G) (hn : 0 ≤ G 9 0 ∧ G 9 0 ≤ 20) {b c : Int} (hb : -2147483648 ≤ b ∧ b ≤ 2147483647) (hc : -2147483648 ≤ c ∧ c ≤ 2147483647) {v : Int} (ee : xF d 11 [.inr 2, .inl b, .inl c] M = rI v M') : v = attF G (G 6) (G 8 1) b c ∧ (0 ≤ attF G (G 6) (G 8 1) b c → XG M' (gCarry G b.toNat c.toNat)) ∧ (attF G (G 6) (G 8 1) b c < 0 → XG M' G) := by
  obtain ⟨D, rfl, hD⟩ := dsucc hd
  have w2 := W.2.1
  have ar := attF_range (p := G 6) W (G 8 1) b c
  rw [T_X_carry, x_att13 (by omega) W X hb hc, pbI_rI, X.2.1.2.1] at ee
  by_cases q : attF G (G 6) (G 8 1) b c < 0
  · rw [if_pos (by rw [lt32_iff] <;> omega)] at ee
    obtain ⟨z1, z2⟩ := rI_inj ee
    rw [← z2]
    exact ⟨z1.symm, fun z => by omega, fun _ => X⟩
  · obtain ⟨⟨r1, r2⟩, r3, r4, r5⟩ := attF_room (show 0 ≤ attF G (G 6) (G 8 1) b c by omega)
    rw [if_neg (by rw [lt32_iff] <;> omega)] at ee
    generalize attF G (G 6) (G 8 1) b c = kk at *
    obtain ⟨x, rfl⟩ := natI r1.1
    obtain ⟨y, rfl⟩ := natI r2.1
    obtain ⟨D', rfl, -⟩ := dsucc (show 1 ≤ D by omega)
    rw [Int.toNat_natCast, Int.toNat_natCast] at r3 r4 r5
    have hx := (X.1.2.2.2.2.2.1 x (by omega)).2.2.2
    obtain ⟨M1, e1, p1, p2, p3⟩ := x_push (d := D') (M := M) (by omega) (by rw [X.2.2.1.1]; exact hn) (x : Int) (G 6 x) (G 8 1)
    have i0 : (0 : Int) ≤ (x : Int) ∧ (x : Int) < 10 := by omega
    rw [T_X_bring, c_isThing7 (by omega) W X.1 (by omega) (by omega), pbI_rI, ite01p, if_pos (by omega), if_pos i0, Int.toNat_natCast, hx, X.2.1.2.1, e1, pbN_rV, if_pos i0, pbN_rV] at ee
    obtain ⟨z1, z2⟩ := rI_inj ee
    rw [← z2, Int.toNat_natCast, Int.toNat_natCast]
    refine ⟨z1.symm, fun _ => XG_carry W X hn (by omega) (by omega) (fun i => ?_) ?_ ?_ (fun k hk => ?_) (fun o i hc a1 a2 a3 a4 a5 a6 => ?_), fun z => by omega⟩
    · rw [pset_ne (show 13 ≠ 0 by decide)]
      by_cases q : i = x
      · rw [q, pset_eq, if_pos rfl]
      · rw [pset_ne2 q, if_neg q, p3 13 i (by omega) (by omega) (by omega) (by omega)]
    · rw [pset_eq, pset_ne (show 0 ≠ 13 by decide), p3 0 16 (by omega) (by omega) (by omega) (by omega), X.2.1.2.1, r5]
    · rw [pset_ne (by decide), pset_ne (by decide)]; exact p1
    · rw [pset_ne (by decide), pset_ne (by decide), pset_ne (by decide), pset_ne (by decide), pset_ne (by decide), pset_ne (by decide)]
      exact p2 k hk
    · have e : pset (pset M1 13 x (y : Int)) 0 16 (pset M1 13 x (y : Int) 0 16 + kk) o i = M1 o i := by
        unfold pset
        rw [if_neg (fun z => a2 z), if_neg (fun z => a1 z.1)]
      rw [e]; exact p3 o i a3 a4 a5 a6
/-! the reference carries -/
theorem m_shift : ∀ (m x : Nat) (M1 : pM), x + m = 57 → M1 60 33 = 20 → (∀ k, k < 60 → M1 75 k = if k < x then M 75 (k + 3) else M 75 k) → ∃ M2, (∀ b, xE D 215 6 [.inr 62, .inl b, .inl (x : Int)] [] M1 = xE D 215 6 [.inr 62, .inl b, .inl 57] [] M2) ∧ (∀ k, k < 57 → M2 75 k = M 75 (k + 3)) ∧ ∀ o i, o ≠ 75 → M2 o i = M1 o i := by
  intro m
  induction m with
  | zero =>
    intro x M1 hx h33 hk
    have e : x = 57 := by omega
    rw [e]
    exact ⟨M1, fun _ => rfl, fun k h => by rw [hk k (by omega), if_pos (by omega)], fun _ _ _ => rfl⟩
  | succ m ih =>
    intro x M1 hx h33 hk
    have e3 : M1 75 (x + 3) = M 75 (x + 3) := by rw [hk (x + 3) (by omega), if_neg (by omega)]
    obtain ⟨M2, e, r1, r2⟩ := ih (x + 1) (pset M1 75 x (M 75 (x + 3))) (by omega) (by rw [pset_ne (by decide)]; exact h33) (fun k h => by
      by_cases q : k = x
      · rw [q, pset_eq, if_pos (Nat.lt_succ_self x)]
      · rw [pset_ne2 q, hk k h]
        by_cases q2 : k < x
        · rw [if_pos q2, if_pos (by omega)]
        · rw [if_neg q2, if_neg (by omega)])
    refine ⟨M2, fun b => ?_, r1, fun o i ho => by rw [r2 o i ho, pset_ne ho]⟩
    rw [L_M_remember_6, if_neg (by rw [le32_iff] <;> omega), if_pos (by omega), if_pos (by omega), show ((x : Int) + 3).toNat = x + 3 by omega, Int.toNat_natCast, e3, show ((x : Int) + 1) = ((x + 1 : Nat) : Int) by omega]
    exact e b
theorem m_push (hd : 1 ≤ d) (hn : 0 ≤ M 60 33 ∧ M 60 33 ≤ 20) {b : Nat} (hb : b < 10) : ∃ M', xF d 215 [.inr 62, .inl (b : Int)] M = rV M' ∧ M' 60 33 = pqN (M 60 33) ∧ (∀ k : Nat, (k : Int) < pqN (M 60 33) → M' 75 (3 * k) = pqF (M 60 33) (fun j => M 75 (3 * j)) b k ∧ M' 75 (3 * k + 1) = pqF (M 60 33) (fun j => M 75 (3 * j + 1)) (M 66 b) k ∧ M' 75 (3 * k + 2) = pqF (M 60 33) (fun j => M 75 (3 * j + 2)) (M 60 11) k) ∧ ∀ o i, ¬ (o = 60 ∧ i = 33) → o ≠ 75 → M' o i = M o i := by
  obtain ⟨D, rfl, -⟩ := dsucc hd
  have a1 : ∀ (M : pM) (i : Nat) (v : Int), pset M 75 i v 60 33 = M 60 33 := fun _ _ _ => pset_ne (by decide)
  have a2 : ∀ (M : pM) (i k : Nat) (v : Int), pset M 75 i v 66 k = M 66 k := fun _ _ _ _ => pset_ne (by decide)
  have a3 : ∀ (M : pM) (i : Nat) (v : Int), pset M 75 i v 60 11 = M 60 11 := fun _ _ _ => pset_ne (by decide)
  have n1 : ∀ n : Nat, (3 * (n : Int)).toNat = 3 * n := fun n => by omega
  have n2 : ∀ n : Nat, (3 * (n : Int) + 1).toNat = 3 * n + 1 := fun n => by omega
  have n3 : ∀ n : Nat, (3 * (n : Int) + 2).toNat = 3 * n + 2 := fun n => by omega
  have hb2 : (0 : Int) ≤ (b : Int) ∧ (b : Int) < 10 := by omega
  have fin : ∀ (M1 : pM) (n : Nat) (v w : Int), n < 20 → (∀ o i, ¬ (o = 60 ∧ i = 33) → o ≠ 75 → M1 o i = M o i) → ((n + 1 : Nat) : Int) = pqN (M 60 33) → (∀ k : Nat, k < n → M1 75 (3 * k) = pqF (M 60 33) (fun j => M 75 (3 * j)) b k ∧ M1 75 (3 * k + 1) = pqF (M 60 33) (fun j => M 75 (3 * j + 1)) v k ∧ M1 75 (3 * k + 2) = pqF (M 60 33) (fun j => M 75 (3 * j + 2)) w k) → (b : Int) = pqF (M 60 33) (fun j => M 75 (3 * j)) b n → v = pqF (M 60 33) (fun j => M 75 (3 * j + 1)) v n → w = pqF (M 60 33) (fun j => M 75 (3 * j + 2)) w n → (pset (pset (pset (pset M1 75 (3 * n) (b : Int)) 75 (3 * n + 1) v) 75 (3 * n + 2) w) 60 33 ((n : Int) + 1)) 60 33 = pqN (M 60 33) ∧ (∀ k : Nat, (k : Int) < pqN (M 60 33) → (pset (pset (pset (pset M1 75 (3 * n) (b : Int)) 75 (3 * n + 1) v) 75 (3 * n + 2) w) 60 33 ((n : Int) + 1)) 75 (3 * k) = pqF (M 60 33) (fun j => M 75 (3 * j)) b k ∧ (pset (pset (pset (pset M1 75 (3 * n) (b : Int)) 75 (3 * n + 1) v) 75 (3 * n + 2) w) 60 33 ((n : Int) + 1)) 75 (3 * k + 1) = pqF (M 60 33) (fun j => M 75 (3 * j + 1)) v k ∧ (pset (pset (pset (pset M1 75 (3 * n) (b : Int)) 75 (3 * n + 1) v) 75 (3 * n + 2) w) 60 33 ((n : Int) + 1)) 75 (3 * k + 2) = pqF (M 60 33) (fun j => M 75 (3 * j + 2)) w k) ∧ ∀ o i, ¬ (o = 60 ∧ i = 33) → o ≠ 75 → (pset (pset (pset (pset M1 75 (3 * n) (b : Int)) 75 (3 * n + 1) v) 75 (3 * n + 2) w) 60 33 ((n : Int) + 1)) o i = M o i := by
    intro M1 n v w hn1 ho hq hk e1 e2 e3
    refine ⟨by rw [pset_eq, ← hq]; omega, fun k h => ?_, fun o i h1 h2 => ?_⟩
    · rw [pset_ne (show 75 ≠ 60 by decide), pset_ne (show 75 ≠ 60 by decide), pset_ne (show 75 ≠ 60 by decide)]
      by_cases q : k = n
      · rw [q, pset_ne2 (show 3 * n ≠ 3 * n + 2 by omega), pset_ne2 (show 3 * n ≠ 3 * n + 1 by omega), pset_eq, pset_ne2 (show 3 * n + 1 ≠ 3 * n + 2 by omega), pset_eq, pset_eq]
        exact ⟨e1, e2, e3⟩
      · have z : ∀ i, i ≠ 3 * n → i ≠ 3 * n + 1 → i ≠ 3 * n + 2 → pset (pset (pset M1 75 (3 * n) (b : Int)) 75 (3 * n + 1) v) 75 (3 * n + 2) w 75 i = M1 75 i := fun i b1 b2 b3 => by rw [pset_ne2 b3, pset_ne2 b2, pset_ne2 b1]
        rw [z _ (by omega) (by omega) (by omega), z _ (by omega) (by omega) (by omega), z _ (by omega) (by omega) (by omega)]
        exact hk k (by omega)
    · have e : (pset (pset (pset (pset M1 75 (3 * n) (b : Int)) 75 (3 * n + 1) v) 75 (3 * n + 2) w) 60 33 ((n : Int) + 1)) o i = M1 o i := by
        unfold pset
        rw [if_neg (fun z => h1 z), if_neg (fun z => h2 z.1), if_neg (fun z => h2 z.1), if_neg (fun z => h2 z.1)]
      rw [e]; exact ho o i h1 h2
  obtain ⟨n, h33⟩ := natI hn.1
  rw [T_M_remember]
  by_cases q : n = 20
  · have k20 : M 60 33 = 20 := by rw [h33, q]; rfl
    rw [if_neg (fun z => z (by rw [k20]))]
    obtain ⟨M1, e1, r1, r2⟩ := m_shift (D := D) (M := M) 57 0 M (by decide) k20 (fun k _ => by rw [if_neg (Nat.not_lt_zero k)])
    have e1' := e1 (b : Int)
    rw [show (.inl 0 : pV) = .inl ((0 : Nat) : Int) from rfl, e1', L_M_remember_6, if_pos (by decide), r2 60 33 (by decide), k20, show ((20 : Int) - 1) = ((19 : Nat) : Int) by decide]
    have f33 : (pset M1 60 33 ((19 : Nat) : Int)) 60 33 = ((19 : Nat) : Int) := pset_eq
    have f66 : (pset M1 60 33 ((19 : Nat) : Int)) 66 b = M 66 b := by rw [pset_ne (by decide), r2 66 b (by decide)]
    have f11 : (pset M1 60 33 ((19 : Nat) : Int)) 60 11 = M 60 11 := by rw [pset_ne2 (by decide), r2 60 11 (by decide)]
    have f75 : ∀ k, (pset M1 60 33 ((19 : Nat) : Int)) 75 k = M1 75 k := fun k => pset_ne (by decide)
    have fo : ∀ o i, ¬ (o = 60 ∧ i = 33) → o ≠ 75 → (pset M1 60 33 ((19 : Nat) : Int)) o i = M o i := fun o i h1 h2 => by
      have : (pset M1 60 33 ((19 : Nat) : Int)) o i = M1 o i := by
        unfold pset
        rw [if_neg (fun z => h1 z)]
      rw [this]; exact r2 o i h2
    generalize pset M1 60 33 ((19 : Nat) : Int) = M2 at f33 f66 f11 f75 fo ⊢
    simp only [a1, a2, a3, f33, n1, n2, n3, Int.toNat_natCast]
    rw [if_pos (by decide), if_pos hb2, if_pos (by decide), if_pos (by decide), f66, f11]
    have := fin M2 19 (M 66 b) (M 60 11) (by decide) fo (by unfold pqN; rw [if_neg (by omega)]; rfl) (fun k h => by
      rw [f75, f75, f75, r1 _ (by omega), r1 _ (by omega), r1 _ (by omega)]
      unfold pqF
      rw [if_neg (by omega), if_neg (by omega), if_neg (by omega), if_neg (by omega), if_neg (by omega), if_neg (by omega)]
      exact ⟨by rw [show 3 * k + 3 = 3 * (k + 1) by omega], by rw [show 3 * k + 1 + 3 = 3 * (k + 1) + 1 by omega], by rw [show 3 * k + 2 + 3 = 3 * (k + 1) + 2 by omega]⟩) (by unfold pqF; rw [if_neg (by omega), if_pos rfl]) (by unfold pqF; rw [if_neg (by omega), if_pos rfl]) (by unfold pqF; rw [if_neg (by omega), if_pos rfl])
    rw [k20] at this
    exact ⟨_, rfl, this⟩
  · rw [if_pos (by rw [h33, eq32_iff] <;> omega)]
    simp only [a1, a2, a3, h33, n1, n2, n3, Int.toNat_natCast]
    rw [if_pos (by omega), if_pos hb2, if_pos (by omega), if_pos (by omega)]
    have := fin M n (M 66 b) (M 60 11) (by omega) (fun _ _ _ _ => rfl) (by unfold pqN; rw [if_pos (by omega)]; omega) (fun k h => by
      unfold pqF
      rw [if_pos (by omega), if_neg (by omega), if_pos (by omega), if_neg (by omega), if_pos (by omega), if_neg (by omega)]
      exact ⟨rfl, rfl, rfl⟩) (by unfold pqF; rw [if_pos (by omega), if_pos (by omega)]) (by unfold pqF; rw [if_pos (by omega), if_pos (by omega)]) (by unfold pqF; rw [if_pos (by omega), if_pos (by omega)])
    rw [h33] at this
    exact ⟨_, rfl, this⟩
theorem m_refF (hd : 4 ≤ d) (W : WF G) (X : MG M G) {b c : Int} (hb : -2147483648 ≤ b ∧ b ≤ 2147483647) (hc : -2147483648 ≤ c ∧ c ≤ 2147483647) : ∃ M', xF d 213 [.inr 62, .inl b, .inl c] M = rI (if 0 ≤ attF G (G 6) (G 8 1) b c then 0 else attF G (G 6) (G 8 1) b c) M' ∧ ∀ o i, o ≠ 74 → M' o i = M o i := by
  obtain ⟨D, rfl, hD⟩ := dsucc hd
  have w1 := W.1
  have w2 := W.2.1
  have no : attF G (G 6) (G 8 1) b c = -1 → ∃ M', (rI (-1) M : Option pR) = rI (if 0 ≤ attF G (G 6) (G 8 1) b c then 0 else attF G (G 6) (G 8 1) b c) M' ∧ ∀ o i, o ≠ 74 → M' o i = M o i := fun e => ⟨M, by rw [e]; rfl, fun _ _ _ => rfl⟩
  rw [T_M_refusal, m_isThing (by omega) X.1.2.1 (by omega) (by omega) (by omega), pbI_rI]
  by_cases q1 : 0 ≤ b ∧ b < (hT G : Int)
  · rw [if_pos q1, if_neg (by decide), m_isRoom (by omega) X.1.1 (by omega) (by omega) (by omega), pbI_rI]
    by_cases q2 : 0 ≤ c ∧ c < (hR G : Int)
    · obtain ⟨x, rfl⟩ := natI q1.1
      obtain ⟨y, rfl⟩ := natI q2.1
      obtain ⟨h63, h64, h65, h66⟩ := X.1.2.2.2.2.2.1 x (by omega)
      have hw := W.2.2.2.2.2.2.2.1 x (by omega)
      obtain ⟨z, hz⟩ := natI hw.2.2.2.1
      obtain ⟨M1, e1, f1⟩ := m_stepsF (d := D) (t := x) (a := z) (b := y) (by omega) W (by omega) (by omega) (by omega) h64 X.1.2.2.2.2.1 X.1.1
      have sr := stp_range W (G 4 x) z y
      have i0 : (0 : Int) ≤ (x : Int) ∧ (x : Int) < 10 := by omega
      rw [if_pos q2, if_pos (by decide), if_pos i0, Int.toNat_natCast, h66, hz, e1, pbI_rI]
      have uA : attF G (G 6) (G 8 1) (x : Int) (y : Int) = att G (G 6) (G 8 1) x y := by unfold attF; rw [if_pos ⟨q1, q2⟩, Int.toNat_natCast, Int.toNat_natCast]
      rw [uA]
      unfold att cst fv
      rw [hz, Int.toNat_natCast]
      by_cases q3 : stp G (G 4 x) z y < 0
      · rw [if_pos q3, if_neg (by decide)]
        simp only [if_pos q3]
        exact ⟨M1, rfl, f1⟩
      · have m0 : 0 ≤ stp G (G 4 x) z y * G 5 x := Int.mul_nonneg (by omega) (by omega)
        rw [if_neg q3, if_pos (by rw [lt32_iff] <;> omega), if_pos i0, f1 60 11 (by decide), f1 60 12 (by decide), f1 65 x (by decide), h65, X.2.1.2.1, X.2.1.2.2]
        simp only [if_neg q3, if_neg (show ¬ stp G (G 4 x) z y * G 5 x < 0 by omega)]
        by_cases q4 : le32 (G 8 1 + stp G (G 4 x) z y * G 5 x) (G 8 2)
        · rw [if_pos q4, if_pos q4, if_pos m0]
          exact ⟨M1, rfl, f1⟩
        · rw [if_neg q4, if_neg q4, if_neg (by decide)]
          exact ⟨M1, rfl, f1⟩
    · rw [if_neg q2, if_neg (fun z => z rfl)]
      exact no (by unfold attF; rw [if_neg (fun z => q2 z.2)])
  · rw [if_neg q1, if_pos rfl]
    exact no (by unfold attF; rw [if_neg (fun z => q1 z.1)])
/-- the reference carries -/
theorem MG_carry (W : WF G) (X : MG M G) (hn : 0 ≤ G 9 0 ∧ G 9 0 ≤ 20) {b c : Nat} (hb : b < hT G) (e66 : ∀ i, M' 66 i = if i = b then (c : Int) else M 66 i) (e11 : M' 60 11 = G 8 1 + cst G b (G 6 b).toNat c) (e33 : M' 60 33 = pqN (M 60 33)) (ek : ∀ k : Nat, (k : Int) < pqN (M 60 33) → M' 75 (3 * k) = pqF (M 60 33) (fun j => M 75 (3 * j)) b k ∧ M' 75 (3 * k + 1) = pqF (M 60 33) (fun j => M 75 (3 * j + 1)) (G 6 b) k ∧ M' 75 (3 * k + 2) = pqF (M 60 33) (fun j => M 75 (3 * j + 2)) (G 8 1) k) (eo : ∀ o i, cm o i = true → o ≠ 66 → ¬ (o = 60 ∧ i = 11) → ¬ (o = 60 ∧ i = 33) → o ≠ 75 → M' o i = M o i) : MG M' (gCarry G b c) := by
  obtain ⟨⟨x1, x2, x3, x4, x5, x6, x7⟩, ⟨d1, d2, d3⟩, ⟨p1, p2⟩, k⟩ := X
  have g : ∀ o j, o < 6 ∨ o = 7 ∨ 12 < o → gCarry G b c o j = G o j := fun o j ho => gCarry_ne (by omega) (by omega) (by omega)
  have eR : hR (gCarry G b c) = hR G := by unfold hR; rw [g 0 0 (by decide)]
  have eT : hT (gCarry G b c) = hT G := by unfold hT; rw [g 0 1 (by decide)]
  have eS : hS (gCarry G b c) = hS G := by unfold hS; rw [g 0 2 (by decide)]
  refine ⟨⟨by rw [eo 60 0 rfl (by omega) (by omega) (by omega) (by omega), eR]; exact x1, by rw [eo 60 3 rfl (by omega) (by omega) (by omega) (by omega), eT]; exact x2, by rw [eo 60 8 rfl (by omega) (by omega) (by omega) (by omega), eS]; exact x3, fun r hr => ?_, fun q hq => ?_, fun t ht => ?_, fun s hs => ?_⟩, ⟨?_, ?_, ?_⟩, ⟨?_, fun j hj => ?_⟩, fun i hi => ?_⟩
  · rw [eR] at hr
    rw [eo 61 r rfl (by omega) (by omega) (by omega) (by omega), g 1 r (by decide)]; exact x4 r hr
  · rw [eo 62 q rfl (by omega) (by omega) (by omega) (by omega), g 2 q (by decide)]; exact x5 q hq
  · rw [eT] at ht
    obtain ⟨y1, y2, y3, y4⟩ := x6 t ht
    rw [eo 63 t rfl (by omega) (by omega) (by omega) (by omega), eo 64 t rfl (by omega) (by omega) (by omega) (by omega), eo 65 t rfl (by omega) (by omega) (by omega) (by omega), e66 t, g66_free, g 3 t (by decide), g 4 t (by decide), g 5 t (by decide), y4]
    exact ⟨y1, y2, y3, rfl⟩
  · rw [eS] at hs
    rw [eo 67 s rfl (by omega) (by omega) (by omega) (by omega)]
    have : me (gCarry G b c) s = me G s := by unfold me; rw [g 7 s (by decide)]
    rw [this]; exact x7 s hs
  · rw [eo 60 10 rfl (by omega) (by omega) (by omega) (by omega), gCarry_8, if_neg (by decide)]; exact d1
  · rw [e11, gCarry_8, if_pos rfl]
  · rw [eo 60 12 rfl (by omega) (by omega) (by omega) (by omega), gCarry_8, if_neg (by decide)]; exact d3
  · rw [e33, gCarry_9, p1]
  · rw [gCarry_9] at hj
    obtain ⟨u1, u2, u3⟩ := ek j (by rw [p1]; exact hj)
    rw [u1, u2, u3, gCarry_10, gCarry_11, gCarry_12, p1]
    exact ⟨pqF_cg hn hj (fun q hq => (p2 q hq).1), pqF_cg hn hj (fun q hq => (p2 q hq).2.1), pqF_cg hn hj (fun q hq => (p2 q hq).2.2)⟩
  · have a : ∀ j, M' 87 j = M 87 j := fun j => eo 87 j rfl (by omega) (by omega) (by omega) (by omega)
    have bb : ∀ j, M' 88 j = M 88 j := fun j => eo 88 j rfl (by omega) (by omega) (by omega) (by omega)
    have cc : ∀ j, M' 89 j = M 89 j := fun j => eo 89 j rfl (by omega) (by omega) (by omega) (by omega)
    have g16 : ∀ j, gCarry G b c (16 + i) j = G (16 + i) j := fun j => g _ j (by omega)
    simp only [a, bb, cc, eo 60 52 rfl (by omega) (by omega) (by omega) (by omega), g16, g 13 i (by decide), g 14 i (by decide), g 15 i (by decide), g 18 i (by decide), g 19 i (by decide), eR, eT]
    exact k i hi
/-- remember, then carry -/
theorem m_remCarry (hD : 4 ≤ D) (W : WF G) (X : MG M G) (hn : 0 ≤ G 9 0 ∧ G 9 0 ≤ 20) {b c : Int} (h : 0 ≤ attF G (G 6) (G 8 1) b c) : ∃ M1 M2, xF D 215 [.inr 62, .inl b] M = rV M1 ∧ xF D 214 [.inr 62, .inl b, .inl c] M1 = rI (attF G (G 6) (G 8 1) b c) M2 ∧ MG M2 (gCarry G b.toNat c.toNat) ∧ ∀ o i, ¬ (o = 60 ∧ (i = 33 ∨ i = 11)) → o ≠ 75 → o ≠ 74 → o ≠ 66 → M2 o i = M o i := by
  have w1 := W.1
  have w2 := W.2.1
  obtain ⟨⟨r1, r2⟩, r3, r4, r5⟩ := attF_room h
  generalize attF G (G 6) (G 8 1) b c = kk at *
  obtain ⟨x, rfl⟩ := natI r1.1
  obtain ⟨y, rfl⟩ := natI r2.1
  rw [Int.toNat_natCast, Int.toNat_natCast] at r3 r4 r5
  obtain ⟨h63, h64, h65, h66⟩ := X.1.2.2.2.2.2.1 x (by omega)
  have hw := W.2.2.2.2.2.2.2.1 x (by omega)
  obtain ⟨z, hz⟩ := natI hw.2.2.2.1
  obtain ⟨M1, e1, p1, p2, p3⟩ := m_push (d := D) (M := M) (by omega) (by rw [X.2.2.1.1]; exact hn) (b := x) (by omega)
  obtain ⟨D', rfl, hD'⟩ := dsucc (show 1 ≤ D by omega)
  obtain ⟨M2, e2, f2⟩ := m_stepsF (d := D') (M := M1) (t := x) (a := z) (b := y) (by omega) W (by omega) (by omega) (by omega) (by rw [p3 64 x (by omega) (by decide)]; exact h64) (fun q hq => by rw [p3 62 q (by omega) (by decide)]; exact X.1.2.2.2.2.1 q hq) (by rw [p3 60 0 (by omega) (by decide)]; exact X.1.1)
  have sr := stp_range W (G 4 x) z y
  have i0 : (0 : Int) ≤ (x : Int) ∧ (x : Int) < 10 := by omega
  have ek : fv G (G 4 x) z y * G 5 x = kk := by
    rw [r5, hz, Int.toNat_natCast]
    rw [hz, Int.toNat_natCast] at r3
    unfold fv
    unfold cst at r3 ⊢
    by_cases q : stp G (G 4 x) z y < 0
    · rw [if_pos q] at r3; omega
    · rw [if_neg q, if_neg q]
  have k65 : M2 65 x = G 5 x := by rw [f2 65 x (by decide), p3 65 x (by omega) (by decide), h65]
  refine ⟨M1, pset (pset M2 66 x (y : Int)) 60 11 (pset M2 66 x (y : Int) 60 11 + kk), e1, ?_, ?_, fun o i a1 a2 a3 a4 => ?_⟩
  · rw [T_M_carries, if_pos i0, Int.toNat_natCast, p3 66 x (by omega) (by decide), h66, hz, e2, pbI_rI, if_pos i0, if_pos i0, k65, ek]
  · rw [Int.toNat_natCast, Int.toNat_natCast]
    refine MG_carry W X hn (by omega) (fun i => ?_) ?_ ?_ (fun k hk => ?_) (fun o i hc a1 a2 a3 a4 => ?_)
    · rw [pset_ne (show 66 ≠ 60 by decide)]
      by_cases q : i = x
      · rw [q, pset_eq, if_pos rfl]
      · rw [pset_ne2 q, if_neg q, f2 66 i (by decide), p3 66 i (by omega) (by decide)]
    · rw [pset_eq, pset_ne (show 60 ≠ 66 by decide), f2 60 11 (by decide), p3 60 11 (by omega) (by decide), X.2.1.2.1, r5]
    · rw [pset_ne2 (by decide), pset_ne (by decide), f2 60 33 (by decide)]; exact p1
    · rw [pset_ne (by decide), pset_ne (by decide), pset_ne (by decide), pset_ne (by decide), pset_ne (by decide), pset_ne (by decide), f2 75 _ (by decide), f2 75 _ (by decide), f2 75 _ (by decide)]
      have := p2 k hk
      rw [h66, X.2.1.2.1] at this
      exact this
    · have e : pset (pset M2 66 x (y : Int)) 60 11 (pset M2 66 x (y : Int) 60 11 + kk) o i = M2 o i := by
        unfold pset
        rw [if_neg (fun z => a2 z), if_neg (fun z => a1 z.1)]
      rw [e, f2 o i (fun z => by rw [z] at hc; cases hc), p3 o i (fun z => a3 z) a4]
  · have e : pset (pset M2 66 x (y : Int)) 60 11 (pset M2 66 x (y : Int) 60 11 + kk) o i = M2 o i := by
      unfold pset
      rw [if_neg (fun z => a1 ⟨z.1, Or.inr z.2⟩), if_neg (fun z => a4 z.1)]
    rw [e, f2 o i a3, p3 o i (fun z => a1 ⟨z.1, Or.inl z.2⟩) a2]
theorem mg_carry (hd : 5 ≤ d) (W : WF G) (X : MG M G) (hn : 0 ≤ G 9 0 ∧ G 9 0 ≤ 20) {b c : Int} (hb : -2147483648 ≤ b ∧ b ≤ 2147483647) (hc : -2147483648 ≤ c ∧ c ≤ 2147483647) {v : Int} (ee : xF d 216 [.inr 62, .inl b, .inl c] M = rI v M') : v = attF G (G 6) (G 8 1) b c ∧ (0 ≤ attF G (G 6) (G 8 1) b c → MG M' (gCarry G b.toNat c.toNat)) ∧ (attF G (G 6) (G 8 1) b c < 0 → MG M' G) := by
  obtain ⟨D, rfl, hD⟩ := dsucc hd
  have X1 := MG_thr X
  have ar := attF_range (p := G 6) W (G 8 1) b c
  rw [T_M_carry] at ee
  generalize pset M 60 17 0 = M0 at X1 ee
  obtain ⟨M1, e1, f1⟩ := m_refF (d := D) (by omega) W X1 hb hc
  have X2 : MG M1 G := MG_ag (fun o i q => f1 o i (fun z => by rw [z] at q; cases q)) X1
  rw [e1, pbI_rI] at ee
  by_cases q : 0 ≤ attF G (G 6) (G 8 1) b c
  · obtain ⟨M2, M3, e2, e3, X3, -⟩ := m_remCarry (D := D) (by omega) W X2 hn q
    rw [if_pos q, if_pos (by decide), e2, pbN_rV, e3, pbI_rI] at ee
    obtain ⟨z1, z2⟩ := rI_inj ee
    rw [← z1, ← z2]
    exact ⟨rfl, fun _ => X3, fun z => by omega⟩
  · rw [if_neg q, if_neg (by rw [le32_iff] <;> omega)] at ee
    obtain ⟨z1, z2⟩ := rI_inj ee
    rw [← z1, ← z2]
    exact ⟨rfl, fun z => absurd z q, fun _ => X2⟩
end COE
