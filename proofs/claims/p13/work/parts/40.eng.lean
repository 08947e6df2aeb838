/-! THE INTERVAL MACHINE: values are (kind, low, high, symbol, how far from it, where it comes from); kind 0: an int between, 1: an int, 2: an int that is not 0, 3: this reference, 4: anything -/
abbrev aV : Type := Nat × Int × Int × Nat × Int × Nat
abbrev aP : Type := List (Nat × Nat × aV)
abbrev eS : Type := List aV × List aV × aP
abbrev aO : Type := (Option aV × eS) ⊕ (Nat × eS)
abbrev aF : Type := eS → Option (List aO)
abbrev aA : Type := Option aV × List aV × aP
abbrev aC : Type := Nat × List aV × aP × List (Nat × Nat) × List aA
abbrev aE : Type := (Nat → Nat → aV) × List (List aC) × Nat × List (Nat × Nat)
def aN : aV := (4, 0, 0, 0, 0, 0)
def eT : aV := (0, -2147483648, 2147483647, 0, 0, 0)
def aIn (a : aV) : Bool := Nat.beq a.1 0 && decide (-2147483648 ≤ a.2.1) && decide (a.2.2.1 ≤ 2147483647)
def gR (a : aV) (z : Int) : Prop := (a.1 = 0 ∧ a.2.1 ≤ z ∧ z ≤ a.2.2.1) ∨ a.1 = 1 ∨ (a.1 = 2 ∧ ¬ eq32 z 0)
def gW (a : aV) (v : pV) : Prop := (∃ z, v = .inl z ∧ gR a z) ∨ (a.1 = 3 ∧ v = .inr a.2.1.toNat) ∨ a.1 = 4
/-- a symbol below 1000000: it is so far from it; from 1000000 on: it is so much greater at least -/
def gY (s : Nat → Int) (a : aV) (v : pV) : Prop := a.2.2.2.1 = 0 ∨ (a.2.2.2.1 < 1000000 ∧ v = .inl (s a.2.2.2.1 + a.2.2.2.2.1)) ∨ (1000000 ≤ a.2.2.2.1 ∧ ∃ z, v = .inl z ∧ s (a.2.2.2.1 - 1000000) + a.2.2.2.2.1 ≤ z)
def gO (ls : List pV) (M : pM) (a : aV) (v : pV) : Prop := a.2.2.2.2.2 = 0 ∨ (1 ≤ a.2.2.2.2.2 ∧ a.2.2.2.2.2 < 64 ∧ ls.getD (a.2.2.2.2.2 - 1) (.inr 0) = v) ∨ (64 ≤ a.2.2.2.2.2 ∧ v = .inl (M ((a.2.2.2.2.2 - 64) / 64) ((a.2.2.2.2.2 - 64) % 64)))
def gL (A0 : List pV) (a : aV) (v : pV) : Prop := a.2.2.2.2.2 = 0 ∨ A0.getD (a.2.2.2.2.2 - 1) (.inr 0) = v
def aF2 (R : aV → pV → Prop) : List aV → List pV → Prop
  | [], [] => True
  | a :: as, v :: vs => R a v ∧ aF2 R as vs
  | _, _ => False
def gM (gG : Nat → Nat → aV) (M : pM) : Prop := ∀ o k, k < pL o → gR (gG o k) (M o k)
def gP (s : Nat → Int) (ov : aP) (M : pM) : Prop := ∀ e, e ∈ ov → gR e.2.2 (M e.1 e.2.1) ∧ gY s e.2.2 (.inl (M e.1 e.2.1))
def gP1 (M : pM) (ov : aP) (M' : pM) : Prop := ∀ e, e ∈ ov → gR e.2.2 (M' e.1 e.2.1) ∧ (e.2.2.2.2.2.1 = 0 ∨ M e.1 e.2.1 + e.2.2.2.2.2.2.1 ≤ M' e.1 e.2.1)
def gP0 (ov : aP) (M : pM) : Prop := ∀ e, e ∈ ov → gR e.2.2 (M e.1 e.2.1)
def gS (E : aE) (s : Nat → Int) (A0 : List pV) (S : eS) (ls st : List pV) (M : pM) : Prop := aF2 (fun a v => gW a v ∧ gY s a v ∧ gL A0 a v) S.1 ls ∧ aF2 (fun a v => gW a v ∧ gY s a v ∧ gO ls M a v) S.2.1 st ∧ gM E.1 M ∧ gP s S.2.2 M
def wOK (wr : List (Nat × Nat)) (o k : Nat) : Bool := wr.any fun q => Nat.beq q.1 o && (Nat.beq q.2 k || Nat.beq q.2 999)
def Fr (wr : List (Nat × Nat)) (M M' : pM) : Prop := ∀ o k, wOK wr o k = false → M' o k = M o k
theorem Fr_rfl {wr : List (Nat × Nat)} {M : pM} : Fr wr M M := fun _ _ _ => rfl
theorem Fr_tr {wr : List (Nat × Nat)} {M M1 M2 : pM} (h1 : Fr wr M M1) (h2 : Fr wr M1 M2) : Fr wr M M2 := fun o k h => (h2 o k h).trans (h1 o k h)
def gQ : Option aV → Option pV → Prop
  | none, none => True
  | some a, some v => gW a v
  | _, _ => False
/-- the contract c of method k -/
def cOK (gG : Nat → Nat → aV) (Y : pY) (k : Nat) (c : aC) : Prop := ∀ (A : List pV) (M : pM), aF2 gW c.2.1 A → gM gG M → gP0 c.2.2.1 M → ∃ rv M', Y k A M = some (rv, M') ∧ gM gG M' ∧ Fr c.2.2.2.1 M M' ∧ ∃ alt, alt ∈ c.2.2.2.2 ∧ gQ alt.1 rv ∧ (∀ j, j < alt.2.1.length → gW (alt.2.1.getD j aN) (A.getD j (.inr 0))) ∧ gP1 M alt.2.2 M'
/-- the contracts of lesser levels hold -/
def aYK (E : aE) (Y : pY) : Prop := ∀ k c, c ∈ E.2.1.getD k [] → c.1 < E.2.2.1 → cOK E.1 Y k c
def aOut (E : aE) (outs : List aO) (s : Nat → Int) (A0 : List pV) (ls : List pV) (M : pM) (X : pX) (q : Option pR) : Prop := ∃ o, o ∈ outs ∧ ∃ M', Fr E.2.2.2 M M' ∧ ((∃ a S', o = .inl (a, S') ∧ ∃ rv, q = some (rv, M') ∧ gQ a rv ∧ gS E s A0 S' ls [] M') ∨ (∃ pc S' ls' st', o = .inr (pc, S') ∧ q = X pc ls' st' M' ∧ gS E s A0 S' ls' st' M'))
def aSnd (E : aE) (f : pS) (a : aF) : Prop := ∀ S outs, a S = some outs → ∀ s A0 ls st M, gS E s A0 S ls st M → ∀ (X : pX) (Y : pY), aYK E Y → aOut E outs s A0 ls M X (f X Y ls st M)
/-- of rows: 100000 has what may be read anywhere, 100001 what may be written anywhere -/
def aWF (E : aE) : Prop := (∀ o k, (E.1 o k).2.2.2.1 = 0 ∧ (E.1 o k).1 ≤ 2) ∧ ∀ o k, 100 ≤ pK o → k < pL o → ∀ z, (gR (E.1 o k) z → gR (E.1 o 100000) z) ∧ (gR (E.1 o 100001) z → gR (E.1 o k) z)
/-! lists -/
theorem aF2_len {R : aV → pV → Prop} : ∀ {as : List aV} {vs : List pV}, aF2 R as vs → as.length = vs.length
  | [], [], _ => rfl
  | a :: as, v :: vs, h => congrArg (· + 1) (aF2_len h.2)
theorem aF2_at {R : aV → pV → Prop} : ∀ {as : List aV} {vs : List pV} (i : Nat), aF2 R as vs → i < as.length → R (as.getD i aN) (vs.getD i (.inr 0))
  | a :: as, v :: vs, 0, h, _ => h.1
  | a :: as, v :: vs, i + 1, h, hi => by
    rw [List.getD_cons_succ, List.getD_cons_succ]
    exact aF2_at i h.2 (Nat.lt_of_succ_lt_succ hi)
theorem aF2_set {R : aV → pV → Prop} {a : aV} {v : pV} : ∀ {as : List aV} {vs : List pV} (i : Nat), aF2 R as vs → R a v → aF2 R (as.set i a) (vs.set i v)
  | [], [], _, _, _ => trivial
  | b :: as, w :: vs, 0, h, r => ⟨r, h.2⟩
  | b :: as, w :: vs, i + 1, h, r => ⟨h.1, aF2_set i h.2 r⟩
theorem aF2_mono {R R' : aV → pV → Prop} (hR : ∀ a v, R a v → R' a v) : ∀ {as : List aV} {vs : List pV}, aF2 R as vs → aF2 R' as vs
  | [], [], _ => trivial
  | a :: as, v :: vs, h => ⟨hR a v h.1, aF2_mono hR h.2⟩
theorem aF2_map {R R' : aV → pV → Prop} {f : aV → aV} (hR : ∀ a v, R a v → R' (f a) v) : ∀ {as : List aV} {vs : List pV}, aF2 R as vs → aF2 R' (as.map f) vs
  | [], [], _ => trivial
  | a :: as, v :: vs, h => ⟨hR a v h.1, aF2_map hR h.2⟩
theorem aF2_drop {R : aV → pV → Prop} : ∀ {as : List aV} {vs : List pV} (n : Nat), aF2 R as vs → aF2 R (as.drop n) (vs.drop n)
  | _, _, 0, h => h
  | [], [], _ + 1, _ => trivial
  | a :: as, v :: vs, n + 1, h => aF2_drop n h.2
theorem aF2_take {R : aV → pV → Prop} : ∀ {as : List aV} {vs : List pV} (n : Nat), aF2 R as vs → aF2 R (as.take n) (vs.take n)
  | _, _, 0, _ => trivial
  | [], [], _ + 1, _ => trivial
  | a :: as, v :: vs, n + 1, h => ⟨h.1, aF2_take n h.2⟩
theorem aF2_app {R : aV → pV → Prop} : ∀ {as : List aV} {vs : List pV} {bs : List aV} {us : List pV}, aF2 R as vs → aF2 R bs us → aF2 R (as ++ bs) (vs ++ us)
  | [], [], _, _, _, h => h
  | a :: as, v :: vs, _, _, h, h2 => ⟨h.1, aF2_app h.2 h2⟩
theorem aF2_rev {R : aV → pV → Prop} : ∀ {as : List aV} {vs : List pV}, aF2 R as vs → aF2 R as.reverse vs.reverse
  | [], [], _ => trivial
  | a :: as, v :: vs, h => by
    rw [List.reverse_cons, List.reverse_cons]
    exact aF2_app (aF2_rev h.2) ⟨h.1, trivial⟩
theorem aF2_nil {R : aV → pV → Prop} {vs : List pV} (h : aF2 R [] vs) : vs = [] := by
  cases vs with
  | nil => rfl
  | cons v vs => exact h.elim
theorem aF2_cons {R : aV → pV → Prop} {a : aV} {as : List aV} {vs : List pV} (h : aF2 R (a :: as) vs) : ∃ v r, vs = v :: r ∧ R a v ∧ aF2 R as r := by
  cases vs with
  | nil => exact h.elim
  | cons v vs => exact ⟨v, vs, rfl, h.1, h.2⟩
/-! values -/
theorem gR_in {a : aV} {z : Int} (h : aIn a = true) (g : gR a z) : (-2147483648 ≤ a.2.1 ∧ a.2.2.1 ≤ 2147483647) ∧ a.2.1 ≤ z ∧ z ≤ a.2.2.1 := by
  unfold aIn at h
  simp only [Bool.and_eq_true, decide_eq_true_eq] at h
  have h0 : a.1 = 0 := Nat.eq_of_beq_eq_true h.1.1
  rcases g with g | g | g
  · exact ⟨⟨h.1.2, h.2⟩, g.2⟩
  · omega
  · omega
theorem gW_int {a : aV} {v : pV} (g : gW a v) (h : a.1 ≤ 2) : ∃ z, v = .inl z ∧ gR a z := by
  rcases g with g | g | g
  · exact g
  · omega
  · omega
theorem gW_ref {a : aV} {v : pV} (g : gW a v) (h : a.1 = 3) : v = .inr a.2.1.toNat := by
  rcases g with ⟨z, -, g⟩ | g | g
  · rcases g with g | g | g <;> omega
  · exact g.2
  · omega
theorem gR_le2 {a : aV} {z : Int} (g : gR a z) : a.1 ≤ 2 := by
  rcases g with g | g | g <;> omega
def leR (a b : aV) : Bool := match b.1 with
  | 0 => Nat.beq a.1 0 && decide (b.2.1 ≤ a.2.1) && decide (a.2.2.1 ≤ b.2.2.1)
  | 1 => Nat.ble a.1 2
  | 2 => Nat.beq a.1 2 || (aIn a && (decide (0 < a.2.1) || decide (a.2.2.1 < 0)))
  | 3 => Nat.beq a.1 3 && decide (a.2.1 = b.2.1)
  | 4 => true
  | _ => false
theorem veq32_0 {z : Int} (h1 : -2147483648 ≤ z) (h2 : z ≤ 2147483647) (h : eq32 z 0) : z = 0 := by
  have e : (iI z).toInt = (iI 0).toInt := congrArg Int32.toInt h
  have e1 : (iI z).toInt = z := by
    show (Int32.ofInt z).toInt = z
    rw [Int32.toInt_ofInt, show Int32.size = 4294967296 from rfl]
    exact Int.bmod_eq_of_le (by omega) (by omega)
  rw [e1] at e
  exact e.trans (by decide)
theorem leR_ok {a b : aV} {v : pV} (h : leR a b = true) (g : gW a v) : gW b v := by
  unfold leR at h
  split at h
  · rename_i e
    simp only [Bool.and_eq_true, decide_eq_true_eq] at h
    have h0 : a.1 = 0 := Nat.eq_of_beq_eq_true h.1.1
    obtain ⟨z, rfl, q⟩ := gW_int g (by omega)
    refine Or.inl ⟨z, rfl, Or.inl ⟨e, ?_⟩⟩
    rcases q with q | q | q <;> omega
  · rename_i e
    have h0 : a.1 ≤ 2 := Nat.le_of_ble_eq_true h
    obtain ⟨z, rfl, q⟩ := gW_int g h0
    exact Or.inl ⟨z, rfl, Or.inr (Or.inl e)⟩
  · rename_i e
    rw [Bool.or_eq_true] at h
    rcases h with h | h
    · have h0 : a.1 = 2 := Nat.eq_of_beq_eq_true h
      obtain ⟨z, rfl, q⟩ := gW_int g (by omega)
      refine Or.inl ⟨z, rfl, Or.inr (Or.inr ⟨e, ?_⟩)⟩
      rcases q with q | q | q
      · omega
      · omega
      · exact q.2
    · rw [Bool.and_eq_true, Bool.or_eq_true, decide_eq_true_eq, decide_eq_true_eq] at h
      obtain ⟨h1, h2⟩ := h
      have h0 : a.1 = 0 := by
        unfold aIn at h1
        simp only [Bool.and_eq_true, decide_eq_true_eq] at h1
        exact Nat.eq_of_beq_eq_true h1.1.1
      obtain ⟨z, rfl, q⟩ := gW_int g (by omega)
      have q2 := gR_in h1 q
      refine Or.inl ⟨z, rfl, Or.inr (Or.inr ⟨e, fun e2 => ?_⟩)⟩
      have := veq32_0 (by omega) (by omega) e2
      omega
  · rename_i e
    rw [Bool.and_eq_true, decide_eq_true_eq] at h
    have h0 : a.1 = 3 := Nat.eq_of_beq_eq_true h.1
    have q := gW_ref g h0
    exact Or.inr (Or.inl ⟨e, by rw [← h.2]; exact q⟩)
  · rename_i e; exact Or.inr (Or.inr e)
  · cases h
theorem leR_R {a b : aV} {z : Int} (h : leR a b = true) (g : gR a z) (hb : b.1 ≤ 2) : gR b z := by
  obtain ⟨z', e, q⟩ := gW_int (leR_ok h (Or.inl ⟨z, rfl, g⟩)) hb
  cases e
  exact q
/-! places -/
def lkP (gG : Nat → Nat → aV) : aP → Nat → Nat → aV
  | [], o, k => gG o k
  | e :: r, o, k => bif Nat.beq e.1 o && Nat.beq e.2.1 k then e.2.2 else lkP gG r o k
theorem lkP_ok {E : aE} (hE : aWF E) {s : Nat → Int} {M : pM} (hm : gM E.1 M) : ∀ {ov : aP} {o k : Nat}, gP s ov M → (k < pL o → gR (lkP E.1 ov o k) (M o k)) ∧ gY s (lkP E.1 ov o k) (.inl (M o k))
  | [], o, k, _ => ⟨fun h => hm o k h, Or.inl (hE.1 o k).1⟩
  | e :: r, o, k, h => by
    unfold lkP
    cases hb : (Nat.beq e.1 o && Nat.beq e.2.1 k) with
    | true =>
      rw [Bool.and_eq_true] at hb
      have e1 : e.1 = o := Nat.eq_of_beq_eq_true hb.1
      have e2 : e.2.1 = k := Nat.eq_of_beq_eq_true hb.2
      have := h e List.mem_cons_self
      rw [e1, e2] at this
      exact ⟨fun _ => this.1, this.2⟩
    | false => exact lkP_ok hE hm (fun e he => h e (List.mem_cons_of_mem _ he))
def dlP (ov : aP) (o k : Nat) : aP := ov.filter fun e => !(Nat.beq e.1 o && Nat.beq e.2.1 k)
def dlO (ov : aP) (o : Nat) : aP := ov.filter fun e => !(Nat.beq e.1 o)
def dlW (ov : aP) (w : List (Nat × Nat)) : aP := ov.filter fun e => !(wOK w e.1 e.2.1)
def clS (a : aV) : aV := (a.1, a.2.1, a.2.2.1, a.2.2.2.1, a.2.2.2.2.1, 0)
def clL (i : Nat) (a : aV) : aV := bif Nat.beq a.2.2.2.2.2 (i + 1) then clS a else a
def clM (w : List (Nat × Nat)) (a : aV) : aV := bif Nat.ble 64 a.2.2.2.2.2 && wOK w ((a.2.2.2.2.2 - 64) / 64) ((a.2.2.2.2.2 - 64) % 64) then clS a else a
def aRg (a b : aV) : aV := (b.1, b.2.1, b.2.2.1, a.2.2.2.1, a.2.2.2.2.1, a.2.2.2.2.2)
def aUpd (gG : Nat → Nat → aV) (S : eS) (n : Nat) (b : aV) : eS := bif Nat.beq n 0 then S else bif Nat.ble n 63 then (S.1.set (n - 1) (aRg (S.1.getD (n - 1) aN) b), S.2.1, S.2.2) else (S.1, S.2.1, ((n - 64) / 64, (n - 64) % 64, aRg (lkP gG S.2.2 ((n - 64) / 64) ((n - 64) % 64)) b) :: dlP S.2.2 ((n - 64) / 64) ((n - 64) % 64))
theorem aUpd_ok {E : aE} (hE : aWF E) {s : Nat → Int} {A0 : List pV} {S : eS} {ls st : List pV} {M : pM} {a b : aV} {z : Int} (h : gS E s A0 S ls st M) (ho : gO ls M a (.inl z)) (hb : gR b z) : gS E s A0 (aUpd E.1 S a.2.2.2.2.2 b) ls st M := by
  obtain ⟨h1, h2, h3, h4⟩ := h
  unfold aUpd
  rcases ho with e | ⟨e1, e2, e3⟩ | ⟨e1, e2⟩
  · rw [e]; exact ⟨h1, h2, h3, h4⟩
  · have b0 : Nat.beq a.2.2.2.2.2 0 = false := by
      cases q : Nat.beq a.2.2.2.2.2 0
      · rfl
      · have := Nat.eq_of_beq_eq_true q; omega
    have b1 : Nat.ble a.2.2.2.2.2 63 = true := Nat.ble_eq_true_of_le (by omega)
    rw [b0, b1]
    refine ⟨?_, h2, h3, h4⟩
    show aF2 _ (S.1.set (a.2.2.2.2.2 - 1) _) ls
    rcases Nat.lt_or_ge (a.2.2.2.2.2 - 1) S.1.length with q | q
    · have h5 := aF2_at _ h1 q
      have e4 : ls = ls.set (a.2.2.2.2.2 - 1) (.inl z) := by
        have q2 : a.2.2.2.2.2 - 1 < ls.length := by rw [← aF2_len h1]; exact q
        rw [← e3, List.getD_eq_getElem?_getD, List.getElem?_eq_getElem q2]
        simp
      rw [e4]
      rw [e3] at h5
      refine aF2_set _ h1 ⟨Or.inl ⟨z, rfl, hb⟩, h5.2.1, h5.2.2⟩
    · rw [List.set_eq_of_length_le q]; exact h1
  · have b0 : Nat.beq a.2.2.2.2.2 0 = false := by
      cases q : Nat.beq a.2.2.2.2.2 0
      · rfl
      · have := Nat.eq_of_beq_eq_true q; omega
    have b1 : Nat.ble a.2.2.2.2.2 63 = false := by
      cases q : Nat.ble a.2.2.2.2.2 63
      · rfl
      · have := Nat.le_of_ble_eq_true q; omega
    rw [b0, b1]
    refine ⟨h1, h2, h3, ?_⟩
    intro e he
    rcases List.mem_cons.mp he with rfl | he
    · have := (lkP_ok hE h3 (o := (a.2.2.2.2.2 - 64) / 64) (k := (a.2.2.2.2.2 - 64) % 64) h4).2
      cases e2
      exact ⟨hb, this⟩
    · exact h4 e (List.mem_filter.mp he).1
