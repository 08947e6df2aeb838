/-! a whole method: from its entry and from each place that has a note, to its ends or to places that have notes; a measure falls -/
abbrev aM : Type := Int × List (Int × Nat)
abbrev aAnn : Type := List (Nat × List (eS × aM))
def sg (ls : List pV) (M : pM) (n : Nat) : Int := if n < 64 then (match ls.getD (n - 1) (.inr 0) with
  | .inl z => z
  | .inr _ => 0) else M ((n - 64) / 64) ((n - 64) % 64)
def smM (f : Nat → Int) : List (Int × Nat) → Int
  | [] => 0
  | e :: r => e.1 * f e.2 + smM f r
def mV (m : aM) (f : Nat → Int) : Int := m.1 + smM f m.2
def srcA (gG : Nat → Nat → aV) (S : eS) (n : Nat) : Option aV := bif Nat.ble 1 n && Nat.ble n 63 then
    (bif Nat.ble (S.1.getD (n - 1) aN).1 2 then some (S.1.getD (n - 1) aN) else none)
  else bif Nat.ble 64 n && Nat.ble ((n - 64) % 64 + 1) (pL ((n - 64) / 64)) then some (lkP gG S.2.2 ((n - 64) / 64) ((n - 64) % 64)) else none
section EXPL
variable {E : aE}
theorem srcA_ok (hE : aWF E) {s : Nat → Int} {A0 ls st : List pV} {M : pM} {S : eS} {n : Nat} {a : aV} (h : srcA E.1 S n = some a) (g : gS E s A0 S ls st M) : gR a (sg ls M n) ∧ gY s a (.inl (sg ls M n)) := by
  unfold srcA at h
  cases hb : (Nat.ble 1 n && Nat.ble n 63) with
  | true =>
    rw [hb, cond_true] at h
    rw [Bool.and_eq_true] at hb
    have b1 := Nat.le_of_ble_eq_true hb.1
    have b2 := Nat.le_of_ble_eq_true hb.2
    cases hc : Nat.ble (S.1.getD (n - 1) aN).1 2 with
    | false => rw [hc] at h; cases h
    | true =>
      rw [hc, cond_true] at h
      cases h
      have b3 := Nat.le_of_ble_eq_true hc
      have q := loc_at g.1 (i := n - 1) (by omega)
      obtain ⟨z, e, r⟩ := gW_int q.1 b3
      have e2 : sg ls M n = z := by
        unfold sg
        rw [if_pos (by omega), e]
      rw [e2]
      rw [e] at q
      exact ⟨r, q.2.1⟩
  | false =>
    rw [hb, cond_false] at h
    cases hc : (Nat.ble 64 n && Nat.ble ((n - 64) % 64 + 1) (pL ((n - 64) / 64))) with
    | false => rw [hc] at h; cases h
    | true =>
      rw [hc, cond_true] at h
      cases h
      rw [Bool.and_eq_true] at hc
      have b1 := Nat.le_of_ble_eq_true hc.1
      have b2 := Nat.le_of_ble_eq_true hc.2
      have e2 : sg ls M n = M ((n - 64) / 64) ((n - 64) % 64) := by
        unfold sg
        rw [if_neg (by omega)]
      rw [e2]
      have := lkP_ok hE g.2.2.1 (o := (n - 64) / 64) (k := (n - 64) % 64) g.2.2.2
      exact ⟨this.1 b2, this.2⟩
def loC (c : Int) (a : aV) : Option Int := bif Nat.beq a.1 0 then some (bif decide (0 ≤ c) then c * a.2.1 else c * a.2.2.1) else none
theorem loC_ok {c l z : Int} {a : aV} (h : loC c a = some l) (g : gR a z) : l ≤ c * z := by
  unfold loC at h
  cases hb : Nat.beq a.1 0 with
  | false => rw [hb] at h; cases h
  | true =>
    rw [hb, cond_true] at h
    have e := Nat.eq_of_beq_eq_true hb
    have r : a.2.1 ≤ z ∧ z ≤ a.2.2.1 := by
      rcases g with w | w | w <;> omega
    by_cases q : 0 ≤ c
    · rw [decide_eq_true q, cond_true] at h
      cases h
      exact Int.mul_le_mul_of_nonneg_left r.1 q
    · rw [decide_eq_false q, cond_false] at h
      cases h
      exact Int.mul_le_mul_of_nonpos_left (by omega) r.2
def tkO (c : Int) (n : Nat) : List (Int × Nat) → Option (List (Int × Nat))
  | [] => none
  | e :: r => bif decide (e.1 = c) && Nat.beq e.2 n then some r else (match tkO c n r with
    | some t => some (e :: t)
    | none => none)
theorem tkO_ok {f : Nat → Int} {c : Int} {n : Nat} : ∀ {l l' : List (Int × Nat)}, tkO c n l = some l' → smM f l = c * f n + smM f l'
  | [], _, h => by cases h
  | e :: r, l', h => by
    unfold tkO at h
    cases hb : (decide (e.1 = c) && Nat.beq e.2 n) with
    | true =>
      rw [hb, cond_true] at h
      cases h
      rw [Bool.and_eq_true, decide_eq_true_eq] at hb
      have e2 := Nat.eq_of_beq_eq_true hb.2
      unfold smM
      rw [hb.1, e2]
      cases r <;> rfl
    | false =>
      rw [hb, cond_false] at h
      split at h
      · rename_i t ht
        cases h
        have ih := tkO_ok (f := f) ht
        show e.1 * f e.2 + smM f r = c * f n + (e.1 * f e.2 + smM f t)
        omega
      · cases h
def loS (gG : Nat → Nat → aV) (S : eS) : List (Int × Nat) → Option Int
  | [] => some 0
  | e :: r => match srcA gG S e.2 with
    | none => none
    | some a => match loC e.1 a, loS gG S r with
      | some x, some y => some (x + y)
      | _, _ => none
theorem loS_ok (hE : aWF E) {s : Nat → Int} {A0 ls st : List pV} {M : pM} {S : eS} (g : gS E s A0 S ls st M) : ∀ {m : List (Int × Nat)} {L : Int}, loS E.1 S m = some L → L ≤ smM (sg ls M) m
  | [], _, h => by cases h; exact Int.le_refl _
  | e :: r, L, h => by
    unfold loS at h
    split at h
    · cases h
    · rename_i a ha
      split at h
      · rename_i x y hx hy
        cases h
        have h1 := loC_ok hx (srcA_ok hE ha g).1
        have h2 := loS_ok hE g hy
        show x + y ≤ e.1 * sg ls M e.2 + smM (sg ls M) r
        omega
      · cases h
def dfM (gG : Nat → Nat → aV) (S0 S : eS) : List (Int × Nat) → List (Int × Nat) → Option Int
  | [], m0 => loS gG S0 m0
  | e :: r, m0 => match srcA gG S e.2 with
    | none => none
    | some a => match (bif Nat.beq a.2.2.2.1 0 then none else bif Nat.ble 1000000 a.2.2.2.1 then (bif decide (e.1 ≤ 0) then tkO e.1 (a.2.2.2.1 - 1000000) m0 else none) else tkO e.1 a.2.2.2.1 m0) with
      | some m1 => (match dfM gG S0 S r m1 with
        | some x => some (x - e.1 * a.2.2.2.2.1)
        | none => none)
      | none => match loC (-e.1) a, dfM gG S0 S r m0 with
        | some x, some y => some (x + y)
        | _, _ => none
theorem dfM_ok (hE : aWF E) {A0 A1 ls0 st0 ls st : List pV} {M0 M : pM} {S0 S : eS} (g0 : gS E (sg ls0 M0) A1 S0 ls0 st0 M0) (g : gS E (sg ls0 M0) A0 S ls st M) : ∀ {m m0 : List (Int × Nat)} {L : Int}, dfM E.1 S0 S m m0 = some L → L ≤ smM (sg ls0 M0) m0 - smM (sg ls M) m
  | [], m0, L, h => by
    unfold dfM at h
    have := loS_ok hE g0 h
    show L ≤ smM (sg ls0 M0) m0 - 0
    omega
  | e :: r, m0, L, h => by
    unfold dfM at h
    show L ≤ smM (sg ls0 M0) m0 - (e.1 * sg ls M e.2 + smM (sg ls M) r)
    split at h
    · cases h
    · rename_i a ha
      have hs := srcA_ok hE ha g
      split at h
      · rename_i m1 hm
        split at h
        · rename_i x hx
          cases h
          have ih := dfM_ok hE g0 g hx
          cases hz : Nat.beq a.2.2.2.1 0 with
          | true => rw [hz] at hm; cases hm
          | false =>
            rw [hz, cond_false] at hm
            have hn := Nat.ne_of_beq_eq_false hz
            cases hq : Nat.ble 1000000 a.2.2.2.1 with
            | true =>
              rw [hq, cond_true] at hm
              have hq2 := Nat.le_of_ble_eq_true hq
              by_cases hc : e.1 ≤ 0
              · rw [decide_eq_true hc, cond_true] at hm
                have t := tkO_ok (f := sg ls0 M0) hm
                rcases hs.2 with w | ⟨w, -⟩ | ⟨-, z, e1, w⟩
                · omega
                · omega
                · have e2 : sg ls M e.2 = z := Sum.inl.inj e1
                  have h5 : e.1 * z ≤ e.1 * (sg ls0 M0 (a.2.2.2.1 - 1000000) + a.2.2.2.2.1) := Int.mul_le_mul_of_nonpos_left hc w
                  rw [Int.mul_add] at h5
                  rw [e2, t]
                  omega
              · rw [decide_eq_false hc] at hm; cases hm
            | false =>
              rw [hq, cond_false] at hm
              have t := tkO_ok (f := sg ls0 M0) hm
              rcases hs.2 with w | ⟨-, w⟩ | ⟨w, -⟩
              · rw [w] at hz; cases hz
              · have w2 : sg ls M e.2 = sg ls0 M0 a.2.2.2.1 + a.2.2.2.2.1 := Sum.inl.inj w
                rw [w2, t, Int.mul_add]
                omega
              · rw [Nat.ble_eq_true_of_le w] at hq; cases hq
        · cases h
      · split at h
        · rename_i x y hx hy
          cases h
          have ih := dfM_ok hE g0 g hy
          have h1 := loC_ok hx hs.1
          rw [Int.neg_mul] at h1
          omega
        · cases h
/-! notes -/
def leS1 : List aV → List aV → Bool
  | [], [] => true
  | a :: as, b :: bs => leR a b && (Nat.beq b.2.2.2.2.2 0 || Nat.beq b.2.2.2.2.2 a.2.2.2.2.2) && leS1 as bs
  | _, _ => false
def leS (gG : Nat → Nat → aV) (S T : eS) : Bool := leS1 S.1 T.1 && leL S.2.1 T.2.1 && leP gG S.2.2 T.2.2
def szL : Nat → List aV → List aV
  | _, [] => []
  | i, a :: r => (bif Nat.ble a.1 2 && Nat.ble i 62 then (a.1, a.2.1, a.2.2.1, i + 1, 0, a.2.2.2.2.2) else (a.1, a.2.1, a.2.2.1, 0, 0, a.2.2.2.2.2)) :: szL (i + 1) r
def szE (e : Nat × Nat × aV) : Nat × Nat × aV := (e.1, e.2.1, bif Nat.ble e.2.1 63 && Nat.ble e.1 999 then (e.2.2.1, e.2.2.2.1, e.2.2.2.2.1, 64 + (64 * e.1 + e.2.1), 0, 0) else clA e.2.2)
def szS (T : eS) : eS := (szL 0 T.1, T.2.1.map clA, T.2.2.map szE)
theorem szL_ok {A0 LS : List pV} {M : pM} {s : Nat → Int} : ∀ {as bs : List aV} {vs : List pV} {i : Nat}, (∀ j, vs.getD j (.inr 0) = LS.getD (i + j) (.inr 0)) → leS1 as bs = true → aF2 (fun a v => gW a v ∧ gY s a v ∧ gL A0 a v) as vs → aF2 (fun a v => gW a v ∧ gY (sg LS M) a v ∧ gL A0 a v) (szL i bs) vs
  | [], [], [], _, _, _, _ => trivial
  | [], _ :: _, _, _, _, h, _ => by cases h
  | _ :: _, [], _, _, _, h, _ => by cases h
  | a :: as, b :: bs, v :: vs, i, hj, h, g => by
    unfold leS1 at h
    simp only [Bool.and_eq_true, Bool.or_eq_true] at h
    obtain ⟨⟨h1, h2⟩, h3⟩ := h
    have w := leR_ok h1 g.1.1
    have ol : gL A0 b v := by
      rcases h2 with e | e
      · exact Or.inl (Nat.eq_of_beq_eq_true e)
      · have e := Nat.eq_of_beq_eq_true e
        unfold gL
        rw [e]
        exact g.1.2.2
    refine ⟨?_, szL_ok (i := i + 1) (fun j => ?_) h3 g.2⟩
    · cases hb : (Nat.ble b.1 2 && Nat.ble i 62) with
      | false => exact ⟨w, Or.inl rfl, ol⟩
      | true =>
        rw [Bool.and_eq_true] at hb
        have b2 := Nat.le_of_ble_eq_true hb.2
        obtain ⟨z, e, -⟩ := gW_int w (Nat.le_of_ble_eq_true hb.1)
        refine ⟨w, Or.inr (Or.inl ⟨show i + 1 < 1000000 by omega, ?_⟩), ol⟩
        show v = .inl (sg LS M (i + 1) + 0)
        have e3 := hj 0
        rw [List.getD_cons_zero, Nat.add_zero] at e3
        unfold sg
        rw [if_pos (by omega), Nat.add_sub_cancel, ← e3, e, Int.add_zero]
    · have := hj (j + 1)
      rw [List.getD_cons_succ] at this
      rw [this]
      congr 1
      omega
theorem sg_pl {ls : List pV} {M : pM} {o k : Nat} (h : k ≤ 63) : sg ls M (64 + (64 * o + k)) = M o k := by
  unfold sg
  rw [if_neg (by omega), show (64 + (64 * o + k) - 64) / 64 = o by omega, show (64 + (64 * o + k) - 64) % 64 = k by omega]
theorem szE_ok {ls : List pV} {M : pM} {x : Nat × Nat × aV} (r : gR x.2.2 (M x.1 x.2.1)) : gR (szE x).2.2 (M (szE x).1 (szE x).2.1) ∧ gY (sg ls M) (szE x).2.2 (.inl (M (szE x).1 (szE x).2.1)) := by
  unfold szE
  cases hb : (Nat.ble x.2.1 63 && Nat.ble x.1 999) with
  | false => exact ⟨r, Or.inl rfl⟩
  | true =>
    rw [Bool.and_eq_true] at hb
    have b := Nat.le_of_ble_eq_true hb.1
    have b2 := Nat.le_of_ble_eq_true hb.2
    refine ⟨r, Or.inr (Or.inl ⟨show 64 + (64 * x.1 + x.2.1) < 1000000 by omega, ?_⟩)⟩
    show (Sum.inl (M x.1 x.2.1) : pV) = .inl (sg ls M (64 + (64 * x.1 + x.2.1)) + 0)
    rw [sg_pl b, Int.add_zero]
theorem szS_ok (hE : aWF E) {s : Nat → Int} {A0 ls st : List pV} {M : pM} {S T : eS} (h : leS E.1 S T = true) (g : gS E s A0 S ls st M) : gS E (sg ls M) A0 (szS T) ls st M := by
  unfold leS at h
  simp only [Bool.and_eq_true] at h
  obtain ⟨⟨h1, h2⟩, h3⟩ := h
  refine ⟨szL_ok (i := 0) (fun j => by rw [Nat.zero_add]) h1 g.1, ?_, g.2.2.1, ?_⟩
  · exact aF2_map (f := clA) (fun a v q => ⟨q, Or.inl rfl, Or.inl rfl⟩) (leL_ok h2 (aF2_mono (fun a v q => q.1) g.2.1))
  · intro e he
    obtain ⟨x, hx, rfl⟩ := List.mem_map.mp he
    have r := leP_ok hE g.2.2.1 h3 g.2.2.2 x hx
    unfold szE
    cases hb : (Nat.ble x.2.1 63 && Nat.ble x.1 999) with
    | false => exact ⟨r, Or.inl rfl⟩
    | true =>
      rw [Bool.and_eq_true] at hb
      have b := Nat.le_of_ble_eq_true hb.1
      have b2 := Nat.le_of_ble_eq_true hb.2
      refine ⟨r, Or.inr (Or.inl ⟨show 64 + (64 * x.1 + x.2.1) < 1000000 by omega, ?_⟩)⟩
      show (Sum.inl (M x.1 x.2.1) : pV) = .inl (sg ls M (64 + (64 * x.1 + x.2.1)) + 0)
      unfold sg
      rw [if_neg (by omega), show (64 + (64 * x.1 + x.2.1) - 64) / 64 = x.1 by omega, show (64 + (64 * x.1 + x.2.1) - 64) % 64 = x.2.1 by omega, Int.add_zero]
/-- places that do not become less: since the last note not at all, since the entry by so much they are more -/
def moOK (gG : Nat → Nat → aV) (f : Bool) (mo : List (Nat × Nat × Int)) (S : eS) : Bool := mo.all fun q => let a := lkP gG S.2.2 q.1 q.2.1
  Nat.ble q.2.1 63 && Nat.ble q.1 999 && (Nat.beq a.2.2.2.1 (64 + (64 * q.1 + q.2.1)) || Nat.beq a.2.2.2.1 (1000000 + (64 + (64 * q.1 + q.2.1)))) && decide ((bif f then q.2.2 else 0) ≤ a.2.2.2.2.1)
theorem moOK_ok (hE : aWF E) {s : Nat → Int} {A0 ls st : List pV} {M0 M : pM} {S : eS} {f : Bool} {mo : List (Nat × Nat × Int)} (h : moOK E.1 f mo S = true) (g : gS E s A0 S ls st M) (hb : ∀ q, q ∈ mo → q.2.1 ≤ 63 → M0 q.1 q.2.1 + q.2.2 ≤ s (64 + (64 * q.1 + q.2.1)) + (bif f then q.2.2 else 0)) : ∀ q, q ∈ mo → M0 q.1 q.2.1 + q.2.2 ≤ M q.1 q.2.1 := by
  intro q hq
  have h1 := List.all_eq_true.mp h q hq
  dsimp only at h1
  simp only [Bool.and_eq_true, Bool.or_eq_true, decide_eq_true_eq] at h1
  obtain ⟨⟨⟨h2, h6⟩, h3⟩, h4⟩ := h1
  have k1 := Nat.le_of_ble_eq_true h2
  have k2 := Nat.le_of_ble_eq_true h6
  have h5 := hb q hq k1
  have y := (lkP_ok hE g.2.2.1 (o := q.1) (k := q.2.1) g.2.2.2).2
  rcases h3 with h3 | h3
  · have e := Nat.eq_of_beq_eq_true h3
    rcases y with y | ⟨-, y⟩ | ⟨y, -⟩
    · omega
    · rw [e] at y
      have : M q.1 q.2.1 = s (64 + (64 * q.1 + q.2.1)) + (lkP E.1 S.2.2 q.1 q.2.1).2.2.2.2.1 := Sum.inl.inj y
      omega
    · omega
  · have e := Nat.eq_of_beq_eq_true h3
    rcases y with y | ⟨y, -⟩ | ⟨-, z, y, y2⟩
    · omega
    · omega
    · have : M q.1 q.2.1 = z := Sum.inl.inj y
      rw [e, Nat.add_sub_cancel_left] at y2
      omega
def retOK (gG : Nat → Nat → aV) (f : Bool) (mo : List (Nat × Nat × Int)) (alts : List aA) (q : Option aV) (S : eS) : Bool := alts.any fun t => (match q, t.1 with
    | none, none => true
    | some a, some b => leR a b
    | _, _ => false) && ((List.range t.2.1.length).all fun j => Nat.beq (t.2.1.getD j aN).1 4 || S.1.any fun a => Nat.beq a.2.2.2.2.2 (j + 1) && leR a (t.2.1.getD j aN)) && leP gG S.2.2 t.2.2 && t.2.2.all fun e => Nat.beq e.2.2.2.2.2.1 0 || ((mo.any fun p => Nat.beq p.1 e.1 && Nat.beq p.2.1 e.2.1 && decide (e.2.2.2.2.2.2.1 ≤ p.2.2)) || (f && moOK gG true [(e.1, e.2.1, e.2.2.2.2.2.2.1)] S))
theorem aF2_mem {R : aV → pV → Prop} : ∀ {as : List aV} {vs : List pV}, aF2 R as vs → ∀ a, a ∈ as → ∃ v, R a v
  | [], [], _, _, h => by cases h
  | a :: as, v :: vs, h, b, hb => by
    rcases List.mem_cons.mp hb with rfl | hb
    · exact ⟨v, h.1⟩
    · exact aF2_mem h.2 b hb
theorem retOK_ok (hE : aWF E) {s : Nat → Int} {A0 ls : List pV} {M0 M : pM} {S : eS} {alts : List aA} {q : Option aV} {rv : Option pV} {f : Bool} {mo : List (Nat × Nat × Int)} (hmo : ∀ p, p ∈ mo → M0 p.1 p.2.1 + p.2.2 ≤ M p.1 p.2.1) (hf : f = true → ∀ o k, k ≤ 63 → s (64 + (64 * o + k)) = M0 o k) (h : retOK E.1 f mo alts q S = true) (hq : gQ q rv) (g : gS E s A0 S ls [] M) : ∃ alt, alt ∈ alts ∧ gQ alt.1 rv ∧ (∀ j, j < alt.2.1.length → gW (alt.2.1.getD j aN) (A0.getD j (.inr 0))) ∧ gP1 M0 alt.2.2 M := by
  unfold retOK at h
  rw [List.any_eq_true] at h
  obtain ⟨t, ht, h⟩ := h
  simp only [Bool.and_eq_true] at h
  obtain ⟨⟨⟨h1, h2⟩, h3⟩, h6⟩ := h
  refine ⟨t, ht, ?_, ?_, fun e he => ⟨leP_ok hE g.2.2.1 h3 g.2.2.2 e he, ?_⟩⟩
  rotate_right
  · have h7 := List.all_eq_true.mp h6 e he
    rw [Bool.or_eq_true] at h7
    rcases h7 with h7 | h7
    · exact Or.inl (Nat.eq_of_beq_eq_true h7)
    · rw [Bool.or_eq_true] at h7
      rcases h7 with h7 | h7
      rotate_left
      · rw [Bool.and_eq_true] at h7
        refine Or.inr (moOK_ok hE (M0 := M0) h7.2 g (fun q hq hk => ?_) (e.1, e.2.1, e.2.2.2.2.2.2.1) (List.mem_singleton.mpr rfl))
        rw [hf h7.1 q.1 q.2.1 hk]
        exact Int.le_refl _
      rw [List.any_eq_true] at h7
      obtain ⟨p, hp, h8⟩ := h7
      simp only [Bool.and_eq_true, decide_eq_true_eq] at h8
      have p1 := Nat.eq_of_beq_eq_true h8.1.1
      have p2 := Nat.eq_of_beq_eq_true h8.1.2
      have p3 := hmo p hp
      rw [p1, p2] at p3
      exact Or.inr (by omega)
  · split at h1
    · rename_i e
      rw [e]
      exact hq
    · rename_i a b e
      rw [e]
      cases rv with
      | none => exact hq.elim
      | some v => exact leR_ok h1 hq
    · cases h1
  · intro j hj
    rw [List.all_eq_true] at h2
    have h4 := h2 j (List.mem_range.mpr hj)
    rw [Bool.or_eq_true] at h4
    rcases h4 with h4 | h4
    · exact Or.inr (Or.inr (Nat.eq_of_beq_eq_true h4))
    · rw [List.any_eq_true] at h4
      obtain ⟨a, ha, h5⟩ := h4
      rw [Bool.and_eq_true] at h5
      obtain ⟨v, w1, w2, w3⟩ := aF2_mem g.1 a ha
      have e := Nat.eq_of_beq_eq_true h5.1
      rcases w3 with w3 | w3
      · omega
      · rw [e, Nat.add_sub_cancel] at w3
        rw [w3]
        exact leR_ok h5.2 w1
def lkA : aAnn → Nat → Option (List (eS × aM))
  | [], _ => none
  | e :: r, pc => bif Nat.beq e.1 pc then some e.2 else lkA r pc
theorem lkA_mem : ∀ {ann : aAnn} {pc : Nat} {l : List (eS × aM)}, lkA ann pc = some l → (pc, l) ∈ ann
  | [], _, _, h => by cases h
  | e :: r, pc, l, h => by
    unfold lkA at h
    cases hb : Nat.beq e.1 pc with
    | true =>
      rw [hb, cond_true] at h
      cases h
      have := Nat.eq_of_beq_eq_true hb
      subst this
      exact List.mem_cons_self
    | false =>
      rw [hb, cond_false] at h
      exact List.mem_cons_of_mem _ (lkA_mem h)
def arrOK (gG : Nat → Nat → aV) (b : Option (eS × aM)) (S : eS) (l : List (eS × aM)) : Bool := l.any fun t => leS gG S t.1 && (match b with
  | none => true
  | some u => match dfM gG u.1 S t.2.2 u.2.2 with
    | some L => decide (1 ≤ u.2.1 - t.2.1 + L)
    | none => false)
abbrev aSpl : Type := List (Nat × List (Nat × Int))
def lkS : aSpl → Nat → List (Nat × Int)
  | [], _ => []
  | e :: r, pc => bif Nat.beq e.1 pc then e.2 else lkS r pc
/-- a place where two cases are told apart: what is told is at most v, or more -/
def aSp (gG : Nat → Nat → aV) (S : eS) (q : Nat × Int) : List eS := match srcA gG S q.1 with
    | none => [S]
    | some a => bif Nat.beq a.1 0 && decide (a.2.1 ≤ q.2) && decide (q.2 < a.2.2.1) then [aUpd gG S q.1 (aR a.2.1 q.2), aUpd gG S q.1 (aR (q.2 + 1) a.2.2.1)] else [S]
def aSps (gG : Nat → Nat → aV) : List (Nat × Int) → eS → List eS
  | [], S => [S]
  | q :: qs, S => (aSp gG S q).flatMap (aSps gG qs)
def expl (gG : Nat → Nat → aV) (A : Nat → aF) (ann : aAnn) (spl : aSpl) (mo : List (Nat × Nat × Int)) (alts : List aA) (b : Option (eS × aM)) : Nat → Nat → eS → Bool
  | 0, _, _ => false
  | n + 1, pc, S => (aSps gG (lkS spl pc) S).all fun S1 => match A pc S1 with
    | none => false
    | some outs => outs.all fun o => match o with
      | .inl q => moOK gG b.isNone mo q.2 && retOK gG b.isNone mo alts q.1 q.2
      | .inr q => match lkA ann q.1 with
        | some l => moOK gG b.isNone mo q.2 && arrOK gG b q.2 l
        | none => expl gG A ann spl mo alts b n q.1 q.2
def enL : Nat → List aV → List aV
  | _, [] => []
  | i, a :: r => (a.1, a.2.1, a.2.2.1, 0, 0, i + 1) :: enL (i + 1) r
def enS (nl : Nat) (c : aC) : eS := (enL 0 c.2.1 ++ List.replicate (nl - c.2.1.length) (aRef 0), [], c.2.2.1.map szE)
def moL (alts : List aA) : List (Nat × Nat × Int) := alts.flatMap fun t => (t.2.2.filter fun e => !(Nat.beq e.2.2.2.2.2.1 0)).map fun e => (e.1, e.2.1, e.2.2.2.2.2.2.1)
def chk (gG : Nat → Nat → aV) (A : Nat → aF) (ann : aAnn) (spl : aSpl) (mo : List (Nat × Nat × Int)) (nl fuel : Nat) (c : aC) : Bool := Nat.ble c.2.1.length nl &&
  (match lkA ann 0 with
    | some l => moOK gG true mo (enS nl c) && arrOK gG none (enS nl c) l
    | none => expl gG A ann spl mo c.2.2.2.2 none fuel 0 (enS nl c)) &&
  ann.all fun p => p.2.all fun t => (match loS gG (szS t.1) t.2.2 with
    | some L => decide (0 ≤ t.2.1 + L)
    | none => false) && expl gG A ann spl mo c.2.2.2.2 (some (szS t.1, t.2)) fuel p.1 (szS t.1)
def aGood (E : aE) (alts : List aA) (A0 : List pV) (M0 : pM) (o : Option pR) : Prop := ∃ rv M', o = some (rv, M') ∧ gM E.1 M' ∧ Fr E.2.2.2 M0 M' ∧ ∃ alt, alt ∈ alts ∧ gQ alt.1 rv ∧ (∀ j, j < alt.2.1.length → gW (alt.2.1.getD j aN) (A0.getD j (.inr 0))) ∧ gP1 M0 alt.2.2 M'
section RUN
variable {prog : Nat → Nat → pS} {nL : Nat → Nat}
theorem arr_in {b : Option (eS × aM)} {S : eS} {l : List (eS × aM)} (h : arrOK E.1 b S l = true) : ∃ t, t ∈ l ∧ leS E.1 S t.1 = true ∧ ∀ u, b = some u → ∃ L, dfM E.1 u.1 S t.2.2 u.2.2 = some L ∧ 1 ≤ u.2.1 - t.2.1 + L := by
  unfold arrOK at h
  rw [List.any_eq_true] at h
  obtain ⟨t, ht, h⟩ := h
  rw [Bool.and_eq_true] at h
  refine ⟨t, ht, h.1, fun u e => ?_⟩
  subst e
  have h2 := h.2
  dsimp only at h2
  split at h2
  · rename_i L hL
    exact ⟨L, hL, of_decide_eq_true h2⟩
  · cases h2
theorem aSp_ok (hE : aWF E) {s : Nat → Int} {A0 ls st : List pV} {M : pM} {S : eS} (q : Nat × Int) (g : gS E s A0 S ls st M) : ∃ S1, S1 ∈ aSp E.1 S q ∧ gS E s A0 S1 ls st M := by
  unfold aSp
  · split
    · exact ⟨S, List.mem_singleton.mpr rfl, g⟩
    · rename_i a ha
      cases hb : (Nat.beq a.1 0 && decide (a.2.1 ≤ q.2) && decide (q.2 < a.2.2.1)) with
      | false => exact ⟨S, List.mem_singleton.mpr rfl, g⟩
      | true =>
        have hr := (srcA_ok hE ha g).1
        rw [cond_true]
        simp only [Bool.and_eq_true, decide_eq_true_eq] at hb
        have e := Nat.eq_of_beq_eq_true hb.1.1
        have r : a.2.1 ≤ sg ls M q.1 ∧ sg ls M q.1 ≤ a.2.2.1 := by
          rcases hr with w | w | w <;> omega
        have ho : gO ls M (0, 0, 0, 0, 0, q.1) (.inl (sg ls M q.1)) := by
          unfold srcA at ha
          cases hc : (Nat.ble 1 q.1 && Nat.ble q.1 63) with
          | true =>
            rw [hc, cond_true] at ha
            rw [Bool.and_eq_true] at hc
            have b1 := Nat.le_of_ble_eq_true hc.1
            have b2 := Nat.le_of_ble_eq_true hc.2
            cases hd : Nat.ble (S.1.getD (q.1 - 1) aN).1 2 with
            | false => rw [hd] at ha; cases ha
            | true =>
              have b3 := Nat.le_of_ble_eq_true hd
              have q5 := loc_at g.1 (i := q.1 - 1) (by omega)
              obtain ⟨z, e5, r5⟩ := gW_int q5.1 b3
              refine Or.inr (Or.inl ⟨b1, show q.1 < 64 by omega, ?_⟩)
              show ls.getD (q.1 - 1) (.inr 0) = _
              unfold sg
              rw [if_pos (by omega), e5]
          | false =>
            rw [hc, cond_false] at ha
            cases hd : (Nat.ble 64 q.1 && Nat.ble ((q.1 - 64) % 64 + 1) (pL ((q.1 - 64) / 64))) with
            | false => rw [hd] at ha; cases ha
            | true =>
              rw [Bool.and_eq_true] at hd
              have b1 := Nat.le_of_ble_eq_true hd.1
              refine Or.inr (Or.inr ⟨b1, ?_⟩)
              unfold sg
              rw [if_neg (by omega)]
        by_cases c : sg ls M q.1 ≤ q.2
        · exact ⟨_, List.mem_cons_self, aUpd_ok hE (a := (0, 0, 0, 0, 0, q.1)) g ho (aR_ok r.1 c)⟩
        · exact ⟨_, List.mem_cons_of_mem _ List.mem_cons_self, aUpd_ok hE (a := (0, 0, 0, 0, 0, q.1)) g ho (aR_ok (by omega) r.2)⟩
theorem aSps_ok (hE : aWF E) {s : Nat → Int} {A0 ls st : List pV} {M : pM} : ∀ (qs : List (Nat × Int)) {S : eS}, gS E s A0 S ls st M → ∃ S1, S1 ∈ aSps E.1 qs S ∧ gS E s A0 S1 ls st M
  | [], S, g => ⟨S, List.mem_singleton.mpr rfl, g⟩
  | q :: qs, S, g => by
    obtain ⟨S1, h1, g1⟩ := aSp_ok hE q g
    obtain ⟨S2, h2, g2⟩ := aSps_ok hE qs g1
    exact ⟨S2, List.mem_flatMap.mpr ⟨S1, h1, h2⟩, g2⟩
theorem expl_ok (hF : ∀ k i, pForm (prog k i)) (hE : aWF E) {d k : Nat} {A : Nat → aF} (hA : ∀ pc, aSnd E (prog k pc) (A pc)) (hY : aYK E (pYE prog nL d)) {ann : aAnn} {spl : aSpl} {mo : List (Nat × Nat × Int)} {alts : List aA} {A0 : List pV} {M0 : pM} {b : Option (eS × aM)} {s : Nat → Int} (N : Int)
    (hs0 : b.isNone = true → ∀ o k, k ≤ 63 → s (64 + (64 * o + k)) = M0 o k) (hmb : ∀ q, q ∈ mo → q.2.1 ≤ 63 → M0 q.1 q.2.1 + q.2.2 ≤ s (64 + (64 * q.1 + q.2.1)) + (bif b.isNone then q.2.2 else 0))
    (hb : ∀ u, b = some u → ∃ ls0 st0 M1, s = sg ls0 M1 ∧ gS E s A0 u.1 ls0 st0 M1 ∧ mV u.2 s ≤ N)
    (hI : ∀ pc l t ls st M, (pc, l) ∈ ann → t ∈ l → gS E (sg ls M) A0 (szS t.1) ls st M → Fr E.2.2.2 M0 M → (∀ q, q ∈ mo → M0 q.1 q.2.1 + q.2.2 ≤ M q.1 q.2.1) → (b ≠ none → mV t.2 (sg ls M) < N) → aGood E alts A0 M0 (pE prog nL d k pc ls st M)) :
    ∀ n pc S ls st M, expl E.1 A ann spl mo alts b n pc S = true → gS E s A0 S ls st M → Fr E.2.2.2 M0 M → aGood E alts A0 M0 (pE prog nL d k pc ls st M) := by
  intro n
  induction n with
  | zero => intro pc S ls st M h; cases h
  | succ n ih =>
    intro pc S0 ls st M h g0 f
    unfold expl at h
    rw [List.all_eq_true] at h
    obtain ⟨S, hS, g⟩ := aSps_ok hE (lkS spl pc) g0
    have h := h S hS
    split at h
    · cases h
    · rename_i outs ho
      rw [List.all_eq_true] at h
      obtain ⟨o, hm, M', f2, w⟩ := hA pc S outs ho s A0 ls st M g (pE prog nL d k) (pYE prog nL d) hY
      have h2 := h o hm
      rw [pE_eq prog nL hF]
      rcases w with ⟨q, S', rfl, rv, e, hq, g2⟩ | ⟨pc', S', ls', st', rfl, e, g2⟩
      · rw [Bool.and_eq_true] at h2
        exact ⟨rv, M', e, g2.2.2.1, Fr_tr f f2, retOK_ok hE (moOK_ok hE h2.1 g2 hmb) hs0 h2.2 hq g2⟩
      · rw [e]
        dsimp only at h2
        split at h2
        · rename_i l hl
          rw [Bool.and_eq_true] at h2
          obtain ⟨t, ht, l1, l2⟩ := arr_in h2.2
          refine hI pc' l t ls' st' M' (lkA_mem hl) ht (szS_ok hE l1 g2) (Fr_tr f f2) (moOK_ok hE h2.1 g2 hmb) (fun hne => ?_)
          cases b with
          | none => exact absurd rfl hne
          | some u =>
            obtain ⟨L, e1, e2⟩ := l2 u rfl
            obtain ⟨ls0, st0, M1, e3, g0, e4⟩ := hb u rfl
            subst e3
            have := dfM_ok hE g0 g2 e1
            unfold mV at e4 ⊢
            omega
        · exact ih pc' S' ls' st' M' h2 g2 (Fr_tr f f2)
theorem enL_ok {A0 : List pV} {s : Nat → Int} : ∀ {as : List aV} {vs : List pV} {i : Nat}, (∀ j, vs.getD j (.inr 0) = A0.getD (i + j) (.inr 0)) → aF2 gW as vs → aF2 (fun a v => gW a v ∧ gY s a v ∧ gL A0 a v) (enL i as) vs
  | [], [], _, _, _ => trivial
  | a :: as, v :: vs, i, hj, g => by
    refine ⟨⟨g.1, Or.inl rfl, Or.inr ?_⟩, enL_ok (i := i + 1) (fun j => ?_) g.2⟩
    · have := hj 0
      rw [List.getD_cons_zero, Nat.add_zero] at this
      show A0.getD (i + 1 - 1) (.inr 0) = v
      rw [Nat.add_sub_cancel, this]
    · have := hj (j + 1)
      rw [List.getD_cons_succ] at this
      rw [this]
      congr 1
      omega
theorem rep_ok {R : aV → pV → Prop} {a : aV} {v : pV} (h : R a v) : ∀ n, aF2 R (List.replicate n a) (List.replicate n v)
  | 0 => trivial
  | n + 1 => ⟨h, rep_ok h n⟩
/-- the check of a method is right -/
theorem chk_ok (hF : ∀ k i, pForm (prog k i)) (hE : aWF E) {d k fuel : Nat} {A : Nat → aF} (hA : ∀ pc, aSnd E (prog k pc) (A pc)) (hY : aYK E (pYE prog nL d)) {ann : aAnn} {spl : aSpl} {mo : List (Nat × Nat × Int)} {c : aC} (hw : E.2.2.2 = c.2.2.2.1) (hc : chk E.1 A ann spl mo (nL k) fuel c = true) : cOK E.1 (pYE prog nL (d + 1)) k c := by
  intro A0 M0 ha hm hp
  unfold chk at hc
  simp only [Bool.and_eq_true] at hc
  obtain ⟨⟨c1, c2⟩, c3⟩ := hc
  rw [List.all_eq_true] at c3
  have hlen := aF2_len ha
  have e0 : pYE prog nL (d + 1) k A0 M0 = pE prog nL d k 0 (ppad nL k A0) [] M0 := by
    unfold pYE
    dsimp only
    rw [← hlen, c1, cond_true]
  rw [e0, ← hw]
  show aGood E c.2.2.2.2 A0 M0 _
  -- from the notes
  have key : ∀ N : Nat, ∀ pc l t ls st M, (pc, l) ∈ ann → t ∈ l → gS E (sg ls M) A0 (szS t.1) ls st M → Fr E.2.2.2 M0 M → (∀ q, q ∈ mo → M0 q.1 q.2.1 + q.2.2 ≤ M q.1 q.2.1) → mV t.2 (sg ls M) < (N : Int) → aGood E c.2.2.2.2 A0 M0 (pE prog nL d k pc ls st M) := by
    intro N
    induction N with
    | zero =>
      intro pc l t ls st M h1 h2 g f hmm hN
      exfalso
      have c4 := c3 _ h1
      rw [List.all_eq_true] at c4
      have c5 := c4 t h2
      rw [Bool.and_eq_true] at c5
      have c6 := c5.1
      split at c6
      · rename_i L hL
        have := loS_ok hE g hL
        have c7 := of_decide_eq_true c6
        unfold mV at hN
        omega
      · cases c6
    | succ N ih =>
      intro pc l t ls st M h1 h2 g f hmm hN
      have c4 := c3 _ h1
      rw [List.all_eq_true] at c4
      have c5 := c4 t h2
      rw [Bool.and_eq_true] at c5
      refine expl_ok hF hE hA hY (b := some (szS t.1, t.2)) (s := sg ls M) N (fun w => by cases w) (fun q hq hk => ?_) (fun u e => ?_) (fun pc' l' t' ls' st' M' m1 m2 g' f' m3 q => ih pc' l' t' ls' st' M' m1 m2 g' f' m3 (q (fun w => by cases w))) fuel pc (szS t.1) ls st M c5.2 g f
      · have := hmm q hq
        show _ ≤ sg ls M (64 + (64 * q.1 + q.2.1)) + 0
        rw [sg_pl hk, Int.add_zero]
        exact this
      · cases e
        exact ⟨ls, st, M, rfl, g, by
          show mV t.2 (sg ls M) ≤ N
          omega⟩
  have gE : gS E (sg [] M0) A0 (enS (nL k) c) (ppad nL k A0) [] M0 := by
    refine ⟨?_, trivial, hm, ?_⟩
    · unfold enS ppad
      dsimp only
      rw [hlen]
      exact aF2_app (enL_ok (i := 0) (fun j => by rw [Nat.zero_add]) ha) (rep_ok ⟨Or.inr (Or.inl ⟨rfl, rfl⟩), Or.inl rfl, Or.inl rfl⟩ _)
    · intro e he
      obtain ⟨x, hx, rfl⟩ := List.mem_map.mp he
      exact szE_ok (hp x hx)
  have hm0 : ∀ q : Nat × Nat × Int, q ∈ mo → q.2.1 ≤ 63 → M0 q.1 q.2.1 + q.2.2 ≤ sg [] M0 (64 + (64 * q.1 + q.2.1)) + (bif true then q.2.2 else 0) := fun q _ hk => by
    rw [sg_pl hk]; exact Int.le_refl _
  have fin : ∀ pc l t ls st M, (pc, l) ∈ ann → t ∈ l → gS E (sg ls M) A0 (szS t.1) ls st M → Fr E.2.2.2 M0 M → (∀ q, q ∈ mo → M0 q.1 q.2.1 + q.2.2 ≤ M q.1 q.2.1) → aGood E c.2.2.2.2 A0 M0 (pE prog nL d k pc ls st M) := fun pc l t ls st M h1 h2 g f m => key ((mV t.2 (sg ls M)).toNat + 1) pc l t ls st M h1 h2 g f m (by omega)
  split at c2
  · rename_i l hl
    rw [Bool.and_eq_true] at c2
    obtain ⟨t, ht, l1, -⟩ := arr_in c2.2
    exact fin 0 l t _ _ _ (lkA_mem hl) ht (szS_ok hE l1 gE) Fr_rfl (moOK_ok hE c2.1 gE hm0)
  · exact expl_ok hF hE hA hY (b := none) (s := sg [] M0) 0 (fun _ o k hk => sg_pl hk) hm0 (fun u e => by cases e) (fun pc' l' t' ls' st' M' m1 m2 g' f' m3 _ => fin pc' l' t' ls' st' M' m1 m2 g' f' m3) fuel 0 (enS (nL k) c) _ _ _ c2 gE Fr_rfl
/-- all contracts of a table, level by level -/
theorem ct_all {gG : Nat → Nat → aV} {CT : List (List aC)} (H : ∀ k c, c ∈ CT.getD k [] → 1 ≤ c.1 ∧ ∀ d, c.1 ≤ d + 1 → aYK (gG, CT, c.1, c.2.2.2.1) (pYE prog nL d) → cOK gG (pYE prog nL (d + 1)) k c) : ∀ n d k c, d ≤ n → c ∈ CT.getD k [] → c.1 ≤ d → cOK gG (pYE prog nL d) k c := by
  intro n
  induction n with
  | zero =>
    intro d k c hd hc hl
    have := (H k c hc).1
    omega
  | succ n ih =>
    intro d k c hd hc hl
    obtain ⟨h1, h2⟩ := H k c hc
    cases d with
    | zero => omega
    | succ d => exact h2 d hl (fun k' c' hc' hl' => ih d k' c' (by omega) hc' (by have : c'.1 < c.1 := hl'; omega))
end RUN
end EXPL
