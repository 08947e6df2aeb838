/-! calls, by contract -/
section CALLS
variable {E : aE}
def leL : List aV → List aV → Bool
  | [], [] => true
  | a :: as, b :: bs => leR a b && leL as bs
  | _, _ => false
theorem leL_ok : ∀ {as bs : List aV} {vs : List pV}, leL as bs = true → aF2 gW as vs → aF2 gW bs vs
  | [], [], _, _, h => h
  | [], _ :: _, _, h, _ => by cases h
  | _ :: _, [], _, h, _ => by cases h
  | a :: as, b :: bs, v :: vs, h, g => by
    unfold leL at h
    rw [Bool.and_eq_true] at h
    exact ⟨leR_ok h.1 g.1, leL_ok h.2 g.2⟩
def leP (gG : Nat → Nat → aV) (ov p : aP) : Bool := p.all fun e => Nat.ble e.2.2.1 2 && Nat.ble (e.2.1 + 1) (pL e.1) && leR (lkP gG ov e.1 e.2.1) e.2.2
theorem leP_ok (hE : aWF E) {s : Nat → Int} {M : pM} (hm : gM E.1 M) {ov p : aP} (h : leP E.1 ov p = true) (g : gP s ov M) : gP0 p M := by
  intro e he
  unfold leP at h
  rw [List.all_eq_true] at h
  have := h e he
  simp only [Bool.and_eq_true] at this
  exact leR_R this.2 ((lkP_ok hE hm g).1 (Nat.le_of_ble_eq_true this.1.2)) (Nat.le_of_ble_eq_true this.1.1)
/-- what the call tells of its arguments: none, this can't be -/
def aRfs (gG : Nat → Nat → aV) : List aV → List aV → eS → Option eS
  | a :: as, r :: rs, S => bif Nat.beq r.1 0 then (bif Nat.beq a.1 0 then
      (let l := max a.2.1 r.2.1; let h := min a.2.2.1 r.2.2.1
       bif decide (l ≤ h) then aRfs gG as rs (aUpd gG S a.2.2.2.2.2 (aR l h)) else none)
      else aRfs gG as rs (aUpd gG S a.2.2.2.2.2 r)) else aRfs gG as rs S
  | _, _, S => some S
theorem aRfs_ok (hE : aWF E) {s : Nat → Int} {A0 ls st : List pV} {M : pM} : ∀ {as rs : List aV} {vs : List pV} {S : eS}, gS E s A0 S ls st M → aF2 (fun a v => gW a v ∧ gO ls M a v) as vs → (∀ j, j < rs.length → gW (rs.getD j aN) (vs.getD j (.inr 0))) → ∃ S', aRfs E.1 as rs S = some S' ∧ gS E s A0 S' ls st M
  | [], _, _, S, g, _, _ => ⟨S, by unfold aRfs; rfl, g⟩
  | _ :: _, [], _, S, g, _, _ => ⟨S, by unfold aRfs; rfl, g⟩
  | a :: as, r :: rs, v :: vs, S, g, h1, h2 => by
    have h3 : ∀ j, j < rs.length → gW (rs.getD j aN) (vs.getD j (.inr 0)) := fun j hj => by
      have := h2 (j + 1) (Nat.succ_lt_succ hj)
      rw [List.getD_cons_succ, List.getD_cons_succ] at this
      exact this
    have hr := h2 0 (Nat.succ_pos _)
    rw [List.getD_cons_zero, List.getD_cons_zero] at hr
    unfold aRfs
    cases hb : Nat.beq r.1 0 with
    | false => exact aRfs_ok hE g h1.2 h3
    | true =>
      rw [cond_true]
      have r0 := Nat.eq_of_beq_eq_true hb
      obtain ⟨z, e, rz⟩ := gW_int hr (by omega)
      subst e
      cases hc : Nat.beq a.1 0 with
      | false =>
        rw [cond_false]
        exact aRfs_ok hE (aUpd_ok hE g h1.1.2 rz) h1.2 h3
      | true =>
        rw [cond_true]
        have a0 := Nat.eq_of_beq_eq_true hc
        obtain ⟨z', e, az⟩ := gW_int h1.1.1 (by omega)
        cases e
        have b : max a.2.1 r.2.1 ≤ z ∧ z ≤ min a.2.2.1 r.2.2.1 := by
          rcases az with w | w | w
          · rcases rz with u | u | u
            · omega
            · omega
            · omega
          · omega
          · omega
        dsimp only
        rw [decide_eq_true (show max a.2.1 r.2.1 ≤ min a.2.2.1 r.2.2.1 by omega), cond_true]
        exact aRfs_ok hE (aUpd_ok hE g h1.1.2 (aR_ok b.1 b.2)) h1.2 h3
def clP (e : Nat × Nat × aV) : Nat × Nat × aV := (e.1, e.2.1, clA e.2.2)
def lkO : aP → Nat → Nat → Option aV
  | [], _, _ => none
  | e :: r, o, k => bif Nat.beq e.1 o && Nat.beq e.2.1 k then some e.2.2 else lkO r o k
theorem lkO_ok {s : Nat → Int} {M : pM} : ∀ {ov : aP} {o k : Nat} {a : aV}, gP s ov M → lkO ov o k = some a → gR a (M o k) ∧ gY s a (.inl (M o k))
  | [], _, _, _, _, h => by cases h
  | e :: r, o, k, a, g, h => by
    unfold lkO at h
    cases hb : (Nat.beq e.1 o && Nat.beq e.2.1 k) with
    | true =>
      rw [hb, cond_true] at h
      cases h
      rw [Bool.and_eq_true] at hb
      have e1 : e.1 = o := Nat.eq_of_beq_eq_true hb.1
      have e2 : e.2.1 = k := Nat.eq_of_beq_eq_true hb.2
      have := g e List.mem_cons_self
      rw [e1, e2] at this
      exact this
    | false =>
      rw [hb, cond_false] at h
      exact lkO_ok (fun e he => g e (List.mem_cons_of_mem _ he)) h
/-- both are known of it -/
def mtV (a e : aV) : aV := bif k00 a e && decide (max a.2.1 e.2.1 ≤ min a.2.2.1 e.2.2.1) then (0, max a.2.1 e.2.1, min a.2.2.1 e.2.2.1, a.2.2.2.1, a.2.2.2.2.1, 0) else (e.1, e.2.1, e.2.2.1, a.2.2.2.1, a.2.2.2.2.1, 0)
theorem mtV_ok {s : Nat → Int} {a e : aV} {z : Int} (h1 : gR a z) (h2 : gY s a (.inl z)) (h3 : gR e z) : gR (mtV a e) z ∧ gY s (mtV a e) (.inl z) := by
  unfold mtV
  cases hb : (k00 a e && decide (max a.2.1 e.2.1 ≤ min a.2.2.1 e.2.2.1)) with
  | true =>
    rw [Bool.and_eq_true] at hb
    have := k00_ok hb.1 h1 h3
    exact ⟨Or.inl ⟨rfl, show max a.2.1 e.2.1 ≤ z by omega, show z ≤ min a.2.2.1 e.2.2.1 by omega⟩, h2⟩
  | false => exact ⟨h3, h2⟩
/-- it is so much greater than it was -/
def rlV (a e : aV) : aV := bif Nat.beq a.2.2.2.1 0 then clA e else bif Nat.ble 1000000 a.2.2.2.1 then (e.1, e.2.1, e.2.2.1, a.2.2.2.1, a.2.2.2.2.1 + e.2.2.2.2.1, 0) else (e.1, e.2.1, e.2.2.1, 1000000 + a.2.2.2.1, a.2.2.2.2.1 + e.2.2.2.2.1, 0)
theorem rlV_ok {s : Nat → Int} {a e : aV} {z w : Int} (h2 : gY s a (.inl z)) (h3 : gR e w) (h4 : z + e.2.2.2.2.1 ≤ w) : gR (rlV a e) w ∧ gY s (rlV a e) (.inl w) := by
  unfold rlV
  cases hb : Nat.beq a.2.2.2.1 0 with
  | true => exact ⟨h3, Or.inl rfl⟩
  | false =>
    rw [cond_false]
    have hn := Nat.ne_of_beq_eq_false hb
    cases hc : Nat.ble 1000000 a.2.2.2.1 with
    | true =>
      have hc2 := Nat.le_of_ble_eq_true hc
      refine ⟨h3, Or.inr (Or.inr ⟨hc2, w, rfl, ?_⟩)⟩
      show s (a.2.2.2.1 - 1000000) + (a.2.2.2.2.1 + e.2.2.2.2.1) ≤ w
      rcases h2 with h | ⟨h, -⟩ | ⟨-, z', e1, h⟩
      · omega
      · omega
      · have : z = z' := Sum.inl.inj e1
        omega
    | false =>
      have hc2 : a.2.2.2.1 < 1000000 := by
        rcases Nat.lt_or_ge a.2.2.2.1 1000000 with q | q
        · exact q
        · rw [Nat.ble_eq_true_of_le q] at hc; cases hc
      refine ⟨h3, Or.inr (Or.inr ⟨Nat.le_add_right _ _, w, rfl, ?_⟩)⟩
      show s (1000000 + a.2.2.2.1 - 1000000) + (a.2.2.2.2.1 + e.2.2.2.2.1) ≤ w
      rw [Nat.add_sub_cancel_left]
      rcases h2 with h | ⟨-, h⟩ | ⟨h, -⟩
      · omega
      · have : z = s a.2.2.2.1 + a.2.2.2.2.1 := Sum.inl.inj h
        omega
      · omega
/-- at least so much more than before -/
def loV (a e : aV) : aV := bif k00 a e then (0, max e.2.1 (a.2.1 + e.2.2.2.2.1), e.2.2.1, e.2.2.2.1, e.2.2.2.2.1, 0) else e
theorem loV_ok {a e : aV} {z w : Int} (h1 : gR a z) (h3 : gR e w) (h4 : z + e.2.2.2.2.1 ≤ w) : gR (loV a e) w ∧ (loV a e).2.2.2.2.1 = e.2.2.2.2.1 := by
  unfold loV
  cases hk : k00 a e with
  | false => exact ⟨h3, rfl⟩
  | true =>
    have h5 := hk
    unfold k00 at h5
    rw [Bool.and_eq_true] at h5
    have e1 := Nat.eq_of_beq_eq_true h5.1
    have e2 := Nat.eq_of_beq_eq_true h5.2
    rw [cond_true]
    refine ⟨Or.inl ⟨rfl, ?_, ?_⟩, rfl⟩
    · show max e.2.1 (a.2.1 + e.2.2.2.2.1) ≤ w
      rcases h1 with h1 | h1 | h1
      · rcases h3 with h3 | h3 | h3 <;> omega
      · omega
      · omega
    · show w ≤ e.2.2.1
      rcases h3 with h3 | h3 | h3 <;> omega
def newV (ov0 b : aP) (e : Nat × Nat × aV) : aV := bif Nat.beq e.2.2.2.2.2.1 0 then (match lkO b e.1 e.2.1 with
    | some a => mtV a e.2.2
    | none => clA e.2.2)
  else (match lkO ov0 e.1 e.2.1 with
    | some a => rlV a (loV a e.2.2)
    | none => clA e.2.2)
def addP (ov0 : aP) : aP → aP → aP
  | [], ov => ov
  | e :: p, ov => (e.1, e.2.1, newV ov0 (addP ov0 p ov) e) :: dlP (addP ov0 p ov) e.1 e.2.1
theorem addP_ok {s : Nat → Int} {M M' : pM} {ov0 : aP} (g0 : gP s ov0 M) : ∀ {p ov : aP}, gP1 M p M' → gP s ov M' → gP s (addP ov0 p ov) M'
  | [], _, _, g => g
  | e :: p, ov, h, g => by
    have ih := addP_ok g0 (p := p) (ov := ov) (fun y hy => h y (List.mem_cons_of_mem _ hy)) g
    intro x hx
    rcases List.mem_cons.mp hx with rfl | hx
    · have he := h e List.mem_cons_self
      show gR (newV ov0 (addP ov0 p ov) e) (M' e.1 e.2.1) ∧ gY s (newV ov0 (addP ov0 p ov) e) (.inl (M' e.1 e.2.1))
      unfold newV
      cases hb : Nat.beq e.2.2.2.2.2.1 0 with
      | true =>
        rw [cond_true]
        split
        · rename_i a ha
          have := lkO_ok ih ha
          exact mtV_ok this.1 this.2 he.1
        · exact ⟨he.1, Or.inl rfl⟩
      | false =>
        rw [cond_false]
        have hn := Nat.ne_of_beq_eq_false hb
        split
        · rename_i a ha
          have := lkO_ok g0 ha
          rcases he.2 with q | q
          · exact absurd q hn
          · have l := loV_ok this.1 he.1 q
            exact rlV_ok this.2 l.1 (by rw [l.2]; exact q)
        · exact ⟨he.1, Or.inl rfl⟩
    · exact ih x (List.mem_filter.mp hx).1
/-- what is told of a place agrees with what is known of it -/
def feasE (ov : aP) (e : Nat × Nat × aV) : Bool := match lkO ov e.1 e.2.1 with
  | none => true
  | some a => !(k00 a e.2.2) || decide (max a.2.1 e.2.2.2.1 ≤ min a.2.2.1 e.2.2.2.2.1)
theorem feas_ok {s : Nat → Int} {M M' : pM} {ov p : aP} (g : gP s ov M') (h : gP1 M p M') : p.all (feasE ov) = true := by
  rw [List.all_eq_true]
  intro e he
  unfold feasE
  split
  · rfl
  · rename_i a ha
    have r := (lkO_ok g ha).1
    have r2 := (h e he).1
    cases hk : k00 a e.2.2 with
    | false => rfl
    | true =>
      have := k00_ok hk r r2
      rw [decide_eq_true (by omega)]
      rfl
/-- none of the ranges is empty -/
def neE (e : Nat × Nat × aV) : Bool := !(Nat.beq e.2.2.1 0) || decide (e.2.2.2.1 ≤ e.2.2.2.2.1)
theorem ne_ok {s : Nat → Int} {M : pM} {ov : aP} (g : gP s ov M) : ov.all neE = true := by
  rw [List.all_eq_true]
  intro e he
  unfold neE
  have r := (g e he).1
  cases hb : Nat.beq e.2.2.1 0 with
  | false => rfl
  | true =>
    have h0 := Nat.eq_of_beq_eq_true hb
    have : e.2.2.2.1 ≤ e.2.2.2.2.1 := by
      rcases r with r | r | r
      · omega
      · omega
      · omega
    rw [decide_eq_true this]; rfl
def aEnd (kd nx : Nat) (q : Option aV) (S : eS) : Option (List aO) := match kd with
  | 0 => match q with
    | none => aGo nx S
    | some _ => none
  | 1 => match q with
    | some a => bif Nat.ble a.1 2 then aGo nx (S.1, clA a :: S.2.1, S.2.2) else none
    | none => none
  | _ => match q with
    | some a => bif Nat.beq a.1 3 && decide (1 ≤ a.2.1) then aGo nx (S.1, aRef a.2.1.toNat :: S.2.1, S.2.2) else none
    | none => none
def aAlt (E : aE) (ov0 : aP) (kd nx : Nat) (args : List aV) (S : eS) (t : aA) : Option (List aO) := match aRfs E.1 args t.2.1 S with
  | none => some []
  | some S2 => bif t.2.2.all (feasE S2.2.2) && (addP ov0 t.2.2 S2.2.2).all neE then aEnd kd nx t.1 (S2.1, S2.2.1, addP ov0 t.2.2 S2.2.2) else some []
def aAlts (E : aE) (ov0 : aP) (kd nx : Nat) (args : List aV) (S : eS) : List aA → Option (List aO)
  | [] => some []
  | t :: ts => match aAlt E ov0 kd nx args S t, aAlts E ov0 kd nx args S ts with
    | some l1, some l2 => some (l1 ++ l2)
    | _, _ => none
def aCall (E : aE) (kd k nx : Nat) (args : List aV) (S : eS) : Option (List aO) :=
  match (E.2.1.getD k []).find? (fun c => Nat.ble (c.1 + 1) E.2.2.1 && leL args c.2.1 && leP E.1 S.2.2 c.2.2.1 && cov c.2.2.2.1 E.2.2.2) with
  | none => none
  | some c => aAlts E S.2.2 kd nx (args.map (clM c.2.2.2.1)) (S.1, S.2.1.map (clM c.2.2.2.1), dlW S.2.2 c.2.2.2.1) c.2.2.2.2
theorem aAlts_mem {ov0 : aP} {kd nx : Nat} {args : List aV} {S : eS} : ∀ {ts : List aA} {outs : List aO}, aAlts E ov0 kd nx args S ts = some outs → ∀ t, t ∈ ts → ∃ l, aAlt E ov0 kd nx args S t = some l ∧ ∀ o, o ∈ l → o ∈ outs
  | [], _, _, t, ht => by cases ht
  | t' :: ts, outs, h, t, ht => by
    unfold aAlts at h
    split at h
    · rename_i l1 l2 e1 e2
      cases h
      rcases List.mem_cons.mp ht with rfl | ht
      · exact ⟨l1, e1, fun o ho => List.mem_append_left _ ho⟩
      · obtain ⟨l, e3, h3⟩ := aAlts_mem e2 t ht
        exact ⟨l, e3, fun o ho => List.mem_append_right _ (h3 o ho)⟩
    · cases h
theorem aCall_ok (hE : aWF E) {kd k nx : Nat} {args : List aV} {vs : List pV} {S : eS} {outs : List aO} (h : aCall E kd k nx args S = some outs) {s : Nat → Int} {A0 ls r : List pV} {M : pM} (g : gS E s A0 S ls r M) (ga : aF2 (fun a v => gW a v ∧ gY s a v ∧ gO ls M a v) args vs) {X : pX} {Y : pY} (hY : aYK E Y) : aOut E outs s A0 ls M X (pbk kd (Y k vs M) X nx ls r) := by
  unfold aCall at h
  split at h
  · cases h
  · rename_i c hc
    have hm := List.mem_of_find?_eq_some hc
    have hp := List.find?_some hc
    simp only [Bool.and_eq_true] at hp
    obtain ⟨⟨⟨p1, p2⟩, p3⟩, p4⟩ := hp
    have p5 : c.1 < E.2.2.1 := Nat.le_of_ble_eq_true p1
    obtain ⟨g1, g2, g3, g4⟩ := g
    obtain ⟨rv, M', e, m1, m2, t, ht, q1, q2, q3⟩ := hY k c hm p5 vs M (leL_ok p2 (aF2_mono (fun a v q => q.1) ga)) g3 (leP_ok hE g3 p3 g4)
    obtain ⟨l, hl, hl2⟩ := aAlts_mem h t ht
    have G : gS E s A0 (S.1, S.2.1.map (clM c.2.2.2.1), dlW S.2.2 c.2.2.2.1) ls r M' := ⟨g1, Fr_loc m2 g2, m1, Fr_ov m2 g4⟩
    unfold aAlt at hl
    obtain ⟨S2, e2, G2⟩ := aRfs_ok hE (as := args.map (clM c.2.2.2.1)) (rs := t.2.1) G (aF2_mono (fun a v q => ⟨q.1, q.2.2⟩) (Fr_loc m2 ga)) q2
    rw [e2] at hl
    dsimp only at hl
    obtain ⟨k1, k2, k3, k4⟩ := G2
    have k5 := addP_ok g4 q3 k4
    rw [feas_ok k4 q3, ne_ok k5, Bool.true_and, cond_true] at hl
    rw [e]
    have fin : ∀ {S' : eS} {st' : List pV}, l = [.inr (nx, S')] → gS E s A0 S' ls st' M' → pbk kd (some (rv, M')) X nx ls r = X nx ls st' M' → aOut E outs s A0 ls M X (pbk kd (some (rv, M')) X nx ls r) := by
      intro S' st' e1 G3 e3
      subst e1
      exact ⟨_, hl2 _ (List.mem_singleton.mpr rfl), M', cov_ok p4 m2, Or.inr ⟨nx, S', ls, st', rfl, e3, G3⟩⟩
    unfold aEnd at hl
    split at hl
    · split at hl
      · rename_i e4
        rw [e4] at q1
        cases rv with
        | some v => exact q1.elim
        | none => exact fin (Option.some.inj hl).symm ⟨k1, k2, k3, k5⟩ rfl
      · cases hl
    · split at hl
      · rename_i a e4
        rw [e4] at q1
        cases rv with
        | none => exact q1.elim
        | some v =>
          cases hb : Nat.ble a.1 2 with
          | false => rw [hb] at hl; cases hl
          | true =>
            rw [hb, cond_true] at hl
            obtain ⟨z, rfl, rz⟩ := gW_int q1 (Nat.le_of_ble_eq_true hb)
            exact fin (st' := .inl z :: r) (Option.some.inj hl).symm ⟨k1, ⟨⟨Or.inl ⟨z, rfl, rz⟩, Or.inl rfl, Or.inl rfl⟩, k2⟩, k3, k5⟩ rfl
      · cases hl
    · rename_i n1 n2
      split at hl
      · rename_i a e4
        rw [e4] at q1
        cases rv with
        | none => exact q1.elim
        | some v =>
          cases hb : (Nat.beq a.1 3 && decide (1 ≤ a.2.1)) with
          | false => rw [hb] at hl; cases hl
          | true =>
            rw [hb, cond_true] at hl
            rw [Bool.and_eq_true, decide_eq_true_eq] at hb
            have e1 := gW_ref q1 (Nat.eq_of_beq_eq_true hb.1)
            obtain ⟨j, hj⟩ : ∃ j, a.2.1.toNat = j + 1 := ⟨a.2.1.toNat - 1, by omega⟩
            rw [hj] at e1 hl
            subst e1
            refine fin (st' := .inr (j + 1) :: r) (Option.some.inj hl).symm ⟨k1, ⟨aRef_ok, k2⟩, k3, k5⟩ ?_
            rcases kd with _ | _ | kd
            · exact absurd rfl n1
            · exact absurd rfl n2
            · rfl
      · cases hl
def a_callS (E : aE) (kd k n nx : Nat) : aF := fun S => bif Nat.ble n S.2.1.length && Nat.ble S.2.1.length 8 then aCall E kd k nx (S.2.1.take n).reverse (S.1, S.2.1.drop n, S.2.2) else none
theorem as_callS (hE : aWF E) {kd k n nx : Nat} : aSnd E (s_callS kd k n nx) (a_callS E kd k n nx) := by
  rintro ⟨L, K, ov⟩ outs h s A0 ls st M ⟨g1, g2, g3⟩ X Y hY
  unfold a_callS at h
  dsimp only at h g1 g2 g3
  have hl := aF2_len g2
  cases hb : (Nat.ble n K.length && Nat.ble K.length 8) with
  | false => rw [hb] at h; cases h
  | true =>
    rw [hb, cond_true] at h
    have := aCall_ok hE h (S := (L, K.drop n, ov)) ⟨g1, aF2_drop n g2, g3⟩ (aF2_rev (aF2_take n g2)) (X := X) hY
    unfold s_callS
    rw [← hl, hb, cond_true]
    exact this
def a_callV (E : aE) (kd ci k n nx : Nat) : aF := fun S => match S.2.1.drop n with
  | a :: r => bif isR a && Nat.beq (pK (obj a)) ci && Nat.ble S.2.1.length 8 then aCall E kd k nx (clS a :: (S.2.1.take n).reverse) (S.1, r, S.2.2) else none
  | _ => none
theorem as_callV (hE : aWF E) {kd ci k n nx : Nat} : aSnd E (s_callV kd ci k n nx) (a_callV E kd ci k n nx) := by
  rintro ⟨L, K, ov⟩ outs h s A0 ls st M ⟨g1, g2, g3⟩ X Y hY
  unfold a_callV at h
  dsimp only at h g1 g2 g3
  have hl := aF2_len g2
  have hd := aF2_drop n g2
  split at h
  · rename_i a as e
    rw [e] at hd
    obtain ⟨v, r, e2, qa, h2⟩ := aF2_cons hd
    cases hb : (isR a && Nat.beq (pK (obj a)) ci && Nat.ble K.length 8) with
    | false => rw [hb] at h; cases h
    | true =>
      rw [hb, cond_true] at h
      simp only [Bool.and_eq_true] at hb
      have e3 := isR_ok hb.1.1 qa.1
      subst e3
      have := aCall_ok hE h (S := (L, as, ov)) (vs := .inr (obj a + 2) :: (st.take n).reverse) ⟨g1, h2, g3⟩ ⟨⟨qa.1, qa.2.1, Or.inl rfl⟩, aF2_rev (aF2_take n g2)⟩ (X := X) hY
      unfold s_callV
      rw [e2]
      dsimp only
      rw [hb.1.2, ← hl, hb.2]
      exact this
  · cases h
def a_callW (E : aE) (kd k n nx : Nat) : aF := fun S => match S.2.1.drop n with
  | a :: r => bif Nat.beq a.1 3 && decide (a.2.1 = 93) && Nat.ble S.2.1.length 8 then aCall E kd k nx (clS a :: (S.2.1.take n).reverse) (S.1, r, S.2.2) else none
  | _ => none
theorem as_callW (hE : aWF E) {kd k n nx : Nat} : aSnd E (s_callW kd k n nx) (a_callW E kd k n nx) := by
  rintro ⟨L, K, ov⟩ outs h s A0 ls st M ⟨g1, g2, g3⟩ X Y hY
  unfold a_callW at h
  dsimp only at h g1 g2 g3
  have hl := aF2_len g2
  have hd := aF2_drop n g2
  split at h
  · rename_i a as e
    rw [e] at hd
    obtain ⟨v, r, e2, qa, h2⟩ := aF2_cons hd
    cases hb : (Nat.beq a.1 3 && decide (a.2.1 = 93) && Nat.ble K.length 8) with
    | false => rw [hb] at h; cases h
    | true =>
      rw [hb, cond_true] at h
      simp only [Bool.and_eq_true, decide_eq_true_eq] at hb
      have e3 := gW_ref qa.1 (Nat.eq_of_beq_eq_true hb.1.1)
      rw [hb.1.2] at e3
      subst e3
      have := aCall_ok hE h (S := (L, as, ov)) (vs := .inr 93 :: (st.take n).reverse) ⟨g1, h2, g3⟩ ⟨⟨qa.1, qa.2.1, Or.inl rfl⟩, aF2_rev (aF2_take n g2)⟩ (X := X) hY
      unfold s_callW
      rw [e2]
      show aOut E outs s A0 ls M X (bif Nat.ble st.length 8 then pbk kd (Y k (.inr 93 :: (st.take n).reverse) M) X nx ls r else none)
      rw [← hl, hb.2]
      exact this
  · cases h
end CALLS
