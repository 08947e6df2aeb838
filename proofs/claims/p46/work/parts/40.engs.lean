section
/-! THE INTERVAL MACHINE: values are (kind, low, high, symbol, how far from it, where it comes from); kind 0: an int between, 1: an int, 2: an int that is not 0, 3: this reference, 4: anything -/
abbrev aV : Type := Nat × Int × Int × Nat × Int × Nat
abbrev aP : Type := List (Nat × Nat × aV)
abbrev eS : Type := List aV × List aV × aP
abbrev aO : Type := (Option aV × eS) ⊕ (Nat × eS)
abbrev aF : Type := eS → Option (List aO)
abbrev aA : Type := Option aV × List aV × aP
abbrev aC : Type := Nat × List aV × aP × List (Nat × Nat) × List aA
abbrev aE : Type := (Nat → Nat → aV) × Lean.RArray (List aC) × Nat × List (Nat × Nat)
def aN : aV := (4, 0, 0, 0, 0, 0)
def eT : aV := (0, -2147483648, 2147483647, 0, 0, 0)
def aIn (a : aV) : Bool := Nat.beq a.1 0 && decide (-2147483648 ≤ a.2.1) && decide (a.2.2.1 ≤ 2147483647)
def gR (a : aV) (z : Int) : Prop := (a.1 = 0 ∧ a.2.1 ≤ z ∧ z ≤ a.2.2.1) ∨ a.1 = 1 ∨ (a.1 = 2 ∧ ¬ eq32 z 0)
def gW (a : aV) (v : pV) : Prop := (∃ z, v = .inl z ∧ gR a z) ∨ (a.1 = 3 ∧ v = .inr a.2.1.toNat) ∨ a.1 = 4
/-- a symbol below 1000000: it is so far from it; from 1000000 on: it is so much greater at least -/
def gY (s : Nat → Int) (a : aV) (v : pV) : Prop := a.2.2.2.1 = 0 ∨ (a.2.2.2.1 < 1000000 ∧ v = .inl (s a.2.2.2.1 + a.2.2.2.2.1)) ∨ (1000000 ≤ a.2.2.2.1 ∧ ∃ z, v = .inl z ∧ s (a.2.2.2.1 - 1000000) + a.2.2.2.2.1 ≤ z)
def gO (ls : List pV) (M : pM) (a : aV) (v : pV) : Prop := a.2.2.2.2.2 = 0 ∨ (1 ≤ a.2.2.2.2.2 ∧ a.2.2.2.2.2 < 64 ∧ ls.getD (a.2.2.2.2.2 - 1) (.inr 0) = v) ∨ (64 ≤ a.2.2.2.2.2 ∧ v = .inl (M ((a.2.2.2.2.2 - 64) / 64) ((a.2.2.2.2.2 - 64) % 64)))
def gL (A0 : List pV) (a : aV) (v : pV) : Prop := a.2.2.2.2.2 = 0 ∨ A0.getD (a.2.2.2.2.2 - 1) (.inr 0) = v
def aF2 (R : aV → pV → Prop) : List aV → List pV → Prop
  | [], [] => True
  | a :: as, v :: vs => R a v ∧ aF2 R as vs
  | _, _ => False
def gM (gG : Nat → Nat → aV) (M : pM) : Prop := ∀ o k, k < pL o → gR (gG o k) (M o k)
def gP (s : Nat → Int) (ov : aP) (M : pM) : Prop := ∀ e, e ∈ ov → gR e.2.2 (M e.1 e.2.1) ∧ gY s e.2.2 (.inl (M e.1 e.2.1))
def gP1 (M : pM) (ov : aP) (M' : pM) : Prop := ∀ e, e ∈ ov → gR e.2.2 (M' e.1 e.2.1) ∧ (e.2.2.2.2.2.1 = 0 ∨ M e.1 e.2.1 + e.2.2.2.2.2.2.1 ≤ M' e.1 e.2.1)
def gP0 (ov : aP) (M : pM) : Prop := ∀ e, e ∈ ov → gR e.2.2 (M e.1 e.2.1)
def gS (E : aE) (s : Nat → Int) (A0 : List pV) (S : eS) (ls st : List pV) (M : pM) : Prop := aF2 (fun a v => gW a v ∧ gY s a v ∧ gL A0 a v) S.1 ls ∧ aF2 (fun a v => gW a v ∧ gY s a v ∧ gO ls M a v) S.2.1 st ∧ gM E.1 M ∧ gP s S.2.2 M
def wOK (wr : List (Nat × Nat)) (o k : Nat) : Bool := wr.any fun q => Nat.beq q.1 o && (Nat.beq q.2 k || Nat.beq q.2 999)
def Fr (wr : List (Nat × Nat)) (M M' : pM) : Prop := ∀ o k, wOK wr o k = false → M' o k = M o k
theorem Fr_rfl {wr : List (Nat × Nat)} {M : pM} : Fr wr M M := fun _ _ _ => rfl
theorem Fr_tr {wr : List (Nat × Nat)} {M M1 M2 : pM} (h1 : Fr wr M M1) (h2 : Fr wr M1 M2) : Fr wr M M2 := fun o k h => (h2 o k h).trans (h1 o k h)
def gQ : Option aV → Option pV → Prop
  | none, none => True
  | some a, some v => gW a v
  | _, _ => False
/-- the contract c of method k -/
def cOK (gG : Nat → Nat → aV) (Y : pY) (k : Nat) (c : aC) : Prop := ∀ (A : List pV) (M : pM), aF2 gW c.2.1 A → gM gG M → gP0 c.2.2.1 M → ∃ rv M', Y k A M = some (rv, M') ∧ gM gG M' ∧ Fr c.2.2.2.1 M M' ∧ ∃ alt, alt ∈ c.2.2.2.2 ∧ gQ alt.1 rv ∧ (∀ j, j < alt.2.1.length → gW (alt.2.1.getD j aN) (A.getD j (.inr 0))) ∧ gP1 M alt.2.2 M'
/-- the contracts of lesser levels hold -/
def aYK (E : aE) (Y : pY) : Prop := ∀ k c, c ∈ E.2.1.get k → c.1 < E.2.2.1 → cOK E.1 Y k c
def aOut (E : aE) (outs : List aO) (s : Nat → Int) (A0 : List pV) (ls : List pV) (M : pM) (X : pX) (q : Option pR) : Prop := ∃ o, o ∈ outs ∧ ∃ M', Fr E.2.2.2 M M' ∧ ((∃ a S', o = .inl (a, S') ∧ ∃ rv, q = some (rv, M') ∧ gQ a rv ∧ gS E s A0 S' ls [] M') ∨ (∃ pc S' ls' st', o = .inr (pc, S') ∧ q = X pc ls' st' M' ∧ gS E s A0 S' ls' st' M'))
def aSnd (E : aE) (f : pS) (a : aF) : Prop := ∀ S outs, a S = some outs → ∀ s A0 ls st M, gS E s A0 S ls st M → ∀ (X : pX) (Y : pY), aYK E Y → aOut E outs s A0 ls M X (f X Y ls st M)
/-- of rows: 100000 has what may be read anywhere, 100001 what may be written anywhere -/
def aWF (E : aE) : Prop := (∀ o k, (E.1 o k).2.2.2.1 = 0 ∧ (E.1 o k).1 ≤ 2) ∧ ∀ o k, 100 ≤ pK o → k < pL o → ∀ z, (gR (E.1 o k) z → gR (E.1 o 100000) z) ∧ (gR (E.1 o 100001) z → gR (E.1 o k) z)
/-! lists -/
theorem aF2_len {R : aV → pV → Prop} : ∀ {as : List aV} {vs : List pV}, aF2 R as vs → as.length = vs.length
  | [], [], _ => rfl
  | a :: as, v :: vs, h => congrArg (· + 1) (aF2_len h.2)
theorem aF2_at {R : aV → pV → Prop} : ∀ {as : List aV} {vs : List pV} (i : Nat), aF2 R as vs → i < as.length → R (as.getD i aN) (vs.getD i (.inr 0))
  | a :: as, v :: vs, 0, h, _ => h.1
  | a :: as, v :: vs, i + 1, h, hi => by
    rw [List.getD_cons_succ, List.getD_cons_succ]
    exact aF2_at i h.2 (Nat.lt_of_succ_lt_succ hi)
theorem aF2_set {R : aV → pV → Prop} {a : aV} {v : pV} : ∀ {as : List aV} {vs : List pV} (i : Nat), aF2 R as vs → R a v → aF2 R (as.set i a) (vs.set i v)
  | [], [], _, _, _ => trivial
  | b :: as, w :: vs, 0, h, r => ⟨r, h.2⟩
  | b :: as, w :: vs, i + 1, h, r => ⟨h.1, aF2_set i h.2 r⟩
theorem aF2_mono {R R' : aV → pV → Prop} (hR : ∀ a v, R a v → R' a v) : ∀ {as : List aV} {vs : List pV}, aF2 R as vs → aF2 R' as vs
  | [], [], _ => trivial
  | a :: as, v :: vs, h => ⟨hR a v h.1, aF2_mono hR h.2⟩
theorem aF2_map {R R' : aV → pV → Prop} {f : aV → aV} (hR : ∀ a v, R a v → R' (f a) v) : ∀ {as : List aV} {vs : List pV}, aF2 R as vs → aF2 R' (as.map f) vs
  | [], [], _ => trivial
  | a :: as, v :: vs, h => ⟨hR a v h.1, aF2_map hR h.2⟩
theorem aF2_drop {R : aV → pV → Prop} : ∀ {as : List aV} {vs : List pV} (n : Nat), aF2 R as vs → aF2 R (as.drop n) (vs.drop n)
  | _, _, 0, h => h
  | [], [], _ + 1, _ => trivial
  | a :: as, v :: vs, n + 1, h => aF2_drop n h.2
theorem aF2_take {R : aV → pV → Prop} : ∀ {as : List aV} {vs : List pV} (n : Nat), aF2 R as vs → aF2 R (as.take n) (vs.take n)
  | _, _, 0, _ => trivial
  | [], [], _ + 1, _ => trivial
  | a :: as, v :: vs, n + 1, h => ⟨h.1, aF2_take n h.2⟩
theorem aF2_app {R : aV → pV → Prop} : ∀ {as : List aV} {vs : List pV} {bs : List aV} {us : List pV}, aF2 R as vs → aF2 R bs us → aF2 R (as ++ bs) (vs ++ us)
  | [], [], _, _, _, h => h
  | a :: as, v :: vs, _, _, h, h2 => ⟨h.1, aF2_app h.2 h2⟩
theorem aF2_rev {R : aV → pV → Prop} : ∀ {as : List aV} {vs : List pV}, aF2 R as vs → aF2 R as.reverse vs.reverse
  | [], [], _ => trivial
  | a :: as, v :: vs, h => by
    rw [List.reverse_cons, List.reverse_cons]
    exact aF2_app (aF2_rev h.2) ⟨h.1, trivial⟩
theorem aF2_nil {R : aV → pV → Prop} {vs : List pV} (h : aF2 R [] vs) : vs = [] := by
  cases vs with
  | nil => rfl
  | cons v vs => exact h.elim
theorem aF2_cons {R : aV → pV → Prop} {a : aV} {as : List aV} {vs : List pV} (h : aF2 R (a :: as) vs) : ∃ v r, vs = v :: r ∧ R a v ∧ aF2 R as r := by
  cases vs with
  | nil => exact h.elim
  | cons v vs => exact ⟨v, vs, rfl, h.1, h.2⟩
/-! values -/
theorem gR_in {a : aV} {z : Int} (h : aIn a = true) (g : gR a z) : (-2147483648 ≤ a.2.1 ∧ a.2.2.1 ≤ 2147483647) ∧ a.2.1 ≤ z ∧ z ≤ a.2.2.1 := by
  unfold aIn at h
  simp only [Bool.and_eq_true, decide_eq_true_eq] at h
  have h0 : a.1 = 0 := Nat.eq_of_beq_eq_true h.1.1
  rcases g with g | g | g
  · exact ⟨⟨h.1.2, h.2⟩, g.2⟩
  · omega
  · omega
theorem gW_int {a : aV} {v : pV} (g : gW a v) (h : a.1 ≤ 2) : ∃ z, v = .inl z ∧ gR a z := by
  rcases g with g | g | g
  · exact g
  · omega
  · omega
theorem gW_ref {a : aV} {v : pV} (g : gW a v) (h : a.1 = 3) : v = .inr a.2.1.toNat := by
  rcases g with ⟨z, -, g⟩ | g | g
  · rcases g with g | g | g <;> omega
  · exact g.2
  · omega
def leR (a b : aV) : Bool := match b.1 with
  | 0 => Nat.beq a.1 0 && decide (b.2.1 ≤ a.2.1) && decide (a.2.2.1 ≤ b.2.2.1)
  | 1 => Nat.ble a.1 2
  | 2 => Nat.beq a.1 2 || (aIn a && (decide (0 < a.2.1) || decide (a.2.2.1 < 0)))
  | 3 => Nat.beq a.1 3 && decide (a.2.1 = b.2.1)
  | 4 => true
  | _ => false
theorem veq32_0 {z : Int} (h1 : -2147483648 ≤ z) (h2 : z ≤ 2147483647) (h : eq32 z 0) : z = 0 := by
  have e : (iI z).toInt = (iI 0).toInt := congrArg Int32.toInt h
  have e1 : (iI z).toInt = z := by
    show (Int32.ofInt z).toInt = z
    rw [Int32.toInt_ofInt, show Int32.size = 4294967296 from rfl]
    exact Int.bmod_eq_of_le (by omega) (by omega)
  rw [e1] at e
  exact e.trans (by decide)
theorem leR_ok {a b : aV} {v : pV} (h : leR a b = true) (g : gW a v) : gW b v := by
  unfold leR at h
  split at h
  · rename_i e
    simp only [Bool.and_eq_true, decide_eq_true_eq] at h
    have h0 : a.1 = 0 := Nat.eq_of_beq_eq_true h.1.1
    obtain ⟨z, rfl, q⟩ := gW_int g (by omega)
    refine Or.inl ⟨z, rfl, Or.inl ⟨e, ?_⟩⟩
    rcases q with q | q | q <;> omega
  · rename_i e
    have h0 : a.1 ≤ 2 := Nat.le_of_ble_eq_true h
    obtain ⟨z, rfl, q⟩ := gW_int g h0
    exact Or.inl ⟨z, rfl, Or.inr (Or.inl e)⟩
  · rename_i e
    rw [Bool.or_eq_true] at h
    rcases h with h | h
    · have h0 : a.1 = 2 := Nat.eq_of_beq_eq_true h
      obtain ⟨z, rfl, q⟩ := gW_int g (by omega)
      refine Or.inl ⟨z, rfl, Or.inr (Or.inr ⟨e, ?_⟩)⟩
      rcases q with q | q | q
      · omega
      · omega
      · exact q.2
    · rw [Bool.and_eq_true, Bool.or_eq_true, decide_eq_true_eq, decide_eq_true_eq] at h
      obtain ⟨h1, h2⟩ := h
      have h0 : a.1 = 0 := by
        unfold aIn at h1
        simp only [Bool.and_eq_true, decide_eq_true_eq] at h1
        exact Nat.eq_of_beq_eq_true h1.1.1
      obtain ⟨z, rfl, q⟩ := gW_int g (by omega)
      have q2 := gR_in h1 q
      refine Or.inl ⟨z, rfl, Or.inr (Or.inr ⟨e, fun e2 => ?_⟩)⟩
      have := veq32_0 (by omega) (by omega) e2
      omega
  · rename_i e
    rw [Bool.and_eq_true, decide_eq_true_eq] at h
    have h0 : a.1 = 3 := Nat.eq_of_beq_eq_true h.1
    have q := gW_ref g h0
    exact Or.inr (Or.inl ⟨e, by rw [← h.2]; exact q⟩)
  · rename_i e; exact Or.inr (Or.inr e)
  · cases h
theorem leR_R {a b : aV} {z : Int} (h : leR a b = true) (g : gR a z) (hb : b.1 ≤ 2) : gR b z := by
  obtain ⟨z', e, q⟩ := gW_int (leR_ok h (Or.inl ⟨z, rfl, g⟩)) hb
  cases e
  exact q
/-! places -/
def lkP (gG : Nat → Nat → aV) : aP → Nat → Nat → aV
  | [], o, k => gG o k
  | e :: r, o, k => bif Nat.beq e.1 o && Nat.beq e.2.1 k then e.2.2 else lkP gG r o k
theorem lkP_ok {E : aE} (hE : aWF E) {s : Nat → Int} {M : pM} (hm : gM E.1 M) : ∀ {ov : aP} {o k : Nat}, gP s ov M → (k < pL o → gR (lkP E.1 ov o k) (M o k)) ∧ gY s (lkP E.1 ov o k) (.inl (M o k))
  | [], o, k, _ => ⟨fun h => hm o k h, Or.inl (hE.1 o k).1⟩
  | e :: r, o, k, h => by
    unfold lkP
    cases hb : (Nat.beq e.1 o && Nat.beq e.2.1 k) with
    | true =>
      rw [Bool.and_eq_true] at hb
      have e1 : e.1 = o := Nat.eq_of_beq_eq_true hb.1
      have e2 : e.2.1 = k := Nat.eq_of_beq_eq_true hb.2
      have := h e List.mem_cons_self
      rw [e1, e2] at this
      exact ⟨fun _ => this.1, this.2⟩
    | false => exact lkP_ok hE hm (fun e he => h e (List.mem_cons_of_mem _ he))
def dlP (ov : aP) (o k : Nat) : aP := ov.filter fun e => !(Nat.beq e.1 o && Nat.beq e.2.1 k)
def dlW (ov : aP) (w : List (Nat × Nat)) : aP := ov.filter fun e => !(wOK w e.1 e.2.1)
def clS (a : aV) : aV := (a.1, a.2.1, a.2.2.1, a.2.2.2.1, a.2.2.2.2.1, 0)
def clL (i : Nat) (a : aV) : aV := bif Nat.beq a.2.2.2.2.2 (i + 1) then clS a else a
def clM (w : List (Nat × Nat)) (a : aV) : aV := bif Nat.ble 64 a.2.2.2.2.2 && wOK w ((a.2.2.2.2.2 - 64) / 64) ((a.2.2.2.2.2 - 64) % 64) then clS a else a
def aRg (a b : aV) : aV := (b.1, b.2.1, b.2.2.1, a.2.2.2.1, a.2.2.2.2.1, a.2.2.2.2.2)
def aUpd (gG : Nat → Nat → aV) (S : eS) (n : Nat) (b : aV) : eS := bif Nat.beq n 0 then S else bif Nat.ble n 63 then (S.1.set (n - 1) (aRg (S.1.getD (n - 1) aN) b), S.2.1, S.2.2) else (S.1, S.2.1, ((n - 64) / 64, (n - 64) % 64, aRg (lkP gG S.2.2 ((n - 64) / 64) ((n - 64) % 64)) b) :: dlP S.2.2 ((n - 64) / 64) ((n - 64) % 64))
theorem aUpd_ok {E : aE} (hE : aWF E) {s : Nat → Int} {A0 : List pV} {S : eS} {ls st : List pV} {M : pM} {a b : aV} {z : Int} (h : gS E s A0 S ls st M) (ho : gO ls M a (.inl z)) (hb : gR b z) : gS E s A0 (aUpd E.1 S a.2.2.2.2.2 b) ls st M := by
  obtain ⟨h1, h2, h3, h4⟩ := h
  unfold aUpd
  rcases ho with e | ⟨e1, e2, e3⟩ | ⟨e1, e2⟩
  · rw [e]; exact ⟨h1, h2, h3, h4⟩
  · have b0 : Nat.beq a.2.2.2.2.2 0 = false := by
      cases q : Nat.beq a.2.2.2.2.2 0
      · rfl
      · have := Nat.eq_of_beq_eq_true q; omega
    have b1 : Nat.ble a.2.2.2.2.2 63 = true := Nat.ble_eq_true_of_le (by omega)
    rw [b0, b1]
    refine ⟨?_, h2, h3, h4⟩
    show aF2 _ (S.1.set (a.2.2.2.2.2 - 1) _) ls
    rcases Nat.lt_or_ge (a.2.2.2.2.2 - 1) S.1.length with q | q
    · have h5 := aF2_at _ h1 q
      have e4 : ls = ls.set (a.2.2.2.2.2 - 1) (.inl z) := by
        have q2 : a.2.2.2.2.2 - 1 < ls.length := by rw [← aF2_len h1]; exact q
        rw [← e3, List.getD_eq_getElem?_getD, List.getElem?_eq_getElem q2]
        simp
      rw [e4]
      rw [e3] at h5
      refine aF2_set _ h1 ⟨Or.inl ⟨z, rfl, hb⟩, h5.2.1, h5.2.2⟩
    · rw [List.set_eq_of_length_le q]; exact h1
  · have b0 : Nat.beq a.2.2.2.2.2 0 = false := by
      cases q : Nat.beq a.2.2.2.2.2 0
      · rfl
      · have := Nat.eq_of_beq_eq_true q; omega
    have b1 : Nat.ble a.2.2.2.2.2 63 = false := by
      cases q : Nat.ble a.2.2.2.2.2 63
      · rfl
      · have := Nat.le_of_ble_eq_true q; omega
    rw [b0, b1]
    refine ⟨h1, h2, h3, ?_⟩
    intro e he
    rcases List.mem_cons.mp he with rfl | he
    · have := (lkP_ok hE h3 (o := (a.2.2.2.2.2 - 64) / 64) (k := (a.2.2.2.2.2 - 64) % 64) h4).2
      cases e2
      exact ⟨hb, this⟩
    · exact h4 e (List.mem_filter.mp he).1
end
section
/-! numbers of the interval machine -/
theorem iv_id {z : Int} (h1 : -2147483648 ≤ z) (h2 : z ≤ 2147483647) : (iI z).toInt = z := by
  show (Int32.ofInt z).toInt = z
  rw [Int32.toInt_ofInt, show Int32.size = 4294967296 from rfl]
  exact Int.bmod_eq_of_le (by omega) (by omega)
theorem iv_lt {x y : Int} (h1 : -2147483648 ≤ x) (h2 : x ≤ 2147483647) (h3 : -2147483648 ≤ y) (h4 : y ≤ 2147483647) : lt32 x y ↔ x < y := by
  show iI x < iI y ↔ x < y
  rw [Int32.lt_iff_toInt_lt, iv_id h1 h2, iv_id h3 h4]
theorem iv_le {x y : Int} (h1 : -2147483648 ≤ x) (h2 : x ≤ 2147483647) (h3 : -2147483648 ≤ y) (h4 : y ≤ 2147483647) : le32 x y ↔ x ≤ y := by
  show iI x ≤ iI y ↔ x ≤ y
  rw [Int32.le_iff_toInt_le, iv_id h1 h2, iv_id h3 h4]
theorem iv_eq {x y : Int} (h1 : -2147483648 ≤ x) (h2 : x ≤ 2147483647) (h3 : -2147483648 ≤ y) (h4 : y ≤ 2147483647) : eq32 x y ↔ x = y := by
  show iI x = iI y ↔ x = y
  rw [← Int32.toInt_inj, iv_id h1 h2, iv_id h3 h4]
theorem iv_can (x : Int32) : -2147483648 ≤ x.toInt ∧ x.toInt ≤ 2147483647 := ⟨x.le_toInt, by have := x.toInt_lt; omega⟩
theorem iv_b32 (f : Int32 → Int32 → Int32) (x y : Int) : -2147483648 ≤ b32 f x y ∧ b32 f x y ≤ 2147483647 := iv_can _
theorem aT_ok {z : Int} (h : -2147483648 ≤ z ∧ z ≤ 2147483647) : gR eT z := Or.inl ⟨rfl, h⟩
def cmp (c : Nat) (x y : Int) : Prop := match c with
  | 0 => eq32 x y
  | 1 => ¬ eq32 x y
  | 2 => lt32 x y
  | 3 => le32 x y
  | 4 => lt32 y x
  | 5 => le32 y x
  | _ => False
def cng (c : Nat) : Nat := match c with
  | 0 => 1
  | 1 => 0
  | 2 => 5
  | 3 => 4
  | 4 => 3
  | 5 => 2
  | _ => 6
def aR (lo hi : Int) : aV := (0, lo, hi, 0, 0, 0)
def aNz : aV := (2, 0, 0, 0, 0, 0)
def rLt (x y : aV) (d : Int) : Option (aV × aV) :=
  let h := min x.2.2.1 (y.2.2.1 - d); let l := max y.2.1 (x.2.1 + d)
  bif decide (x.2.1 ≤ h) && decide (l ≤ y.2.2.1) then some (aR x.2.1 h, aR l y.2.2.1) else none
def rNe (x y : aV) : Option aV := bif decide (y.2.1 = y.2.2.1) then
  (bif decide (x.2.1 = y.2.1) then (bif decide (x.2.1 + 1 ≤ x.2.2.1) then some (aR (x.2.1 + 1) x.2.2.1) else none)
   else bif decide (x.2.2.1 = y.2.1) then (bif decide (x.2.1 ≤ x.2.2.1 - 1) then some (aR x.2.1 (x.2.2.1 - 1)) else none) else some (aR x.2.1 x.2.2.1)) else some (aR x.2.1 x.2.2.1)
def a0 (y : aV) : Bool := Nat.beq y.1 0 && decide (y.2.1 = 0) && decide (y.2.2.1 = 0)
def rfn (c : Nat) (x y : aV) : Option (aV × aV) := bif aIn x && aIn y then (match c with
    | 0 => let l := max x.2.1 y.2.1; let h := min x.2.2.1 y.2.2.1; bif decide (l ≤ h) then some (aR l h, aR l h) else none
    | 1 => match rNe x y, rNe y x with
      | some x', some y' => some (x', y')
      | _, _ => none
    | 2 => rLt x y 1
    | 3 => rLt x y 0
    | 4 => (rLt y x 1).map fun q => (q.2, q.1)
    | 5 => (rLt y x 0).map fun q => (q.2, q.1)
    | _ => none)
  else (match c with
    | 0 => bif Nat.beq x.1 2 && a0 y then none else some (x, y)
    | 1 => bif a0 y then some (aNz, y) else some (x, y)
    | 6 => none
    | _ => some (x, y))
theorem aR_ok {l h z : Int} (h1 : l ≤ z) (h2 : z ≤ h) : gR (aR l h) z := Or.inl ⟨rfl, h1, h2⟩
theorem rLt_ok {x y : aV} {zx zy d : Int} (hx : x.2.1 ≤ zx ∧ zx ≤ x.2.2.1) (hy : y.2.1 ≤ zy ∧ zy ≤ y.2.2.1) (h : zx + d ≤ zy) : ∃ x' y', rLt x y d = some (x', y') ∧ gR x' zx ∧ gR y' zy := by
  unfold rLt
  have h1 : x.2.1 ≤ min x.2.2.1 (y.2.2.1 - d) := by omega
  have h2 : max y.2.1 (x.2.1 + d) ≤ y.2.2.1 := by omega
  simp only [decide_eq_true h1, decide_eq_true h2, Bool.and_self, cond_true]
  exact ⟨_, _, rfl, aR_ok (by omega) (by omega), aR_ok (by omega) (by omega)⟩
theorem rNe_ok {x y : aV} {zx zy : Int} (hx : x.2.1 ≤ zx ∧ zx ≤ x.2.2.1) (hy : y.2.1 ≤ zy ∧ zy ≤ y.2.2.1) (h : zx ≠ zy) : ∃ x', rNe x y = some x' ∧ gR x' zx := by
  unfold rNe
  by_cases q : y.2.1 = y.2.2.1
  · rw [decide_eq_true q, cond_true]
    by_cases q1 : x.2.1 = y.2.1
    · rw [decide_eq_true q1, cond_true, decide_eq_true (show x.2.1 + 1 ≤ x.2.2.1 by omega), cond_true]
      exact ⟨_, rfl, aR_ok (by omega) (by omega)⟩
    · rw [decide_eq_false q1, cond_false]
      by_cases q2 : x.2.2.1 = y.2.1
      · rw [decide_eq_true q2, cond_true, decide_eq_true (show x.2.1 ≤ x.2.2.1 - 1 by omega), cond_true]
        exact ⟨_, rfl, aR_ok (by omega) (by omega)⟩
      · rw [decide_eq_false q2, cond_false]
        exact ⟨_, rfl, aR_ok (by omega) (by omega)⟩
  · rw [decide_eq_false q, cond_false]
    exact ⟨_, rfl, aR_ok (by omega) (by omega)⟩
theorem a0_ok {y : aV} {z : Int} (h : a0 y = true) (g : gR y z) : z = 0 := by
  unfold a0 at h
  simp only [Bool.and_eq_true, decide_eq_true_eq] at h
  have h0 : y.1 = 0 := Nat.eq_of_beq_eq_true h.1.1
  rcases g with g | g | g <;> omega
theorem rfn_ok {c : Nat} {x y : aV} {zx zy : Int} (hx : gR x zx) (hy : gR y zy) (h : cmp c zx zy) : ∃ x' y', rfn c x y = some (x', y') ∧ gR x' zx ∧ gR y' zy := by
  unfold rfn
  cases hb : (aIn x && aIn y) with
  | true =>
    rw [Bool.and_eq_true] at hb
    have qx := gR_in hb.1 hx
    have qy := gR_in hb.2 hy
    rw [cond_true]
    unfold cmp at h
    split at h
    · rw [iv_eq (by omega) (by omega) (by omega) (by omega)] at h
      have q : max x.2.1 y.2.1 ≤ min x.2.2.1 y.2.2.1 := by omega
      simp only [decide_eq_true q, cond_true]
      exact ⟨_, _, rfl, aR_ok (by omega) (by omega), aR_ok (by omega) (by omega)⟩
    · rw [iv_eq (by omega) (by omega) (by omega) (by omega)] at h
      obtain ⟨x', e1, g1⟩ := rNe_ok qx.2 qy.2 h
      obtain ⟨y', e2, g2⟩ := rNe_ok qy.2 qx.2 (fun e => h e.symm)
      simp only [e1, e2]
      exact ⟨_, _, rfl, g1, g2⟩
    · rw [iv_lt (by omega) (by omega) (by omega) (by omega)] at h
      exact rLt_ok qx.2 qy.2 (by omega)
    · rw [iv_le (by omega) (by omega) (by omega) (by omega)] at h
      exact rLt_ok qx.2 qy.2 (by omega)
    · rw [iv_lt (by omega) (by omega) (by omega) (by omega)] at h
      obtain ⟨x', y', e, g1, g2⟩ := rLt_ok (d := 1) qy.2 qx.2 (by omega)
      exact ⟨y', x', by simp only [e, Option.map_some], g2, g1⟩
    · rw [iv_le (by omega) (by omega) (by omega) (by omega)] at h
      obtain ⟨x', y', e, g1, g2⟩ := rLt_ok (d := 0) qy.2 qx.2 (by omega)
      exact ⟨y', x', by simp only [e, Option.map_some], g2, g1⟩
    · exact h.elim
  | false =>
    rw [cond_false]
    unfold cmp at h
    split at h
    · cases h2 : (Nat.beq x.1 2 && a0 y) with
      | true =>
        exfalso
        rw [Bool.and_eq_true] at h2
        have e := a0_ok h2.2 hy
        have e2 : x.1 = 2 := Nat.eq_of_beq_eq_true h2.1
        subst e
        rcases hx with g | g | g
        · omega
        · omega
        · exact g.2 h
      | false => exact ⟨x, y, rfl, hx, hy⟩
    · cases h2 : a0 y with
      | true =>
        have e := a0_ok h2 hy
        subst e
        exact ⟨_, _, rfl, Or.inr (Or.inr ⟨rfl, h⟩), hy⟩
      | false => exact ⟨x, y, rfl, hx, hy⟩
    · exact ⟨x, y, rfl, hx, hy⟩
    · exact ⟨x, y, rfl, hx, hy⟩
    · exact ⟨x, y, rfl, hx, hy⟩
    · exact ⟨x, y, rfl, hx, hy⟩
    · exact h.elim
theorem cng_ok {c : Nat} (hc : c < 6) {x y : Int} (h : ¬ cmp c x y) : cmp (cng c) x y := by
  have t1 : ∀ a b : Int, ¬ lt32 a b → le32 b a := fun a b q => Int32.le_iff_toInt_le.mpr (by
    have : ¬ (iI a).toInt < (iI b).toInt := fun w => q (Int32.lt_iff_toInt_lt.mpr w)
    omega)
  have t2 : ∀ a b : Int, ¬ le32 a b → lt32 b a := fun a b q => Int32.lt_iff_toInt_lt.mpr (by
    have : ¬ (iI a).toInt ≤ (iI b).toInt := fun w => q (Int32.le_iff_toInt_le.mpr w)
    omega)
  match c, hc with
  | 0, _ => exact h
  | 1, _ => exact Classical.byContradiction fun q => h q
  | 2, _ => exact t1 _ _ h
  | 3, _ => exact t2 _ _ h
  | 4, _ => exact t1 _ _ h
  | 5, _ => exact t2 _ _ h
/-! what two numbers make -/
def aSy (a : aV) (s : Nat) (d : Int) : aV := (a.1, a.2.1, a.2.2.1, s, d, 0)
def aOne : aV := (1, 0, 0, 0, 0, 0)
def k00 (x y : aV) : Bool := Nat.beq x.1 0 && Nat.beq y.1 0
def aAdd (x y : aV) : aV := bif k00 x y then
    (let r := aR (x.2.1 + y.2.1) (x.2.2.1 + y.2.2.1)
     bif decide (y.2.1 = y.2.2.1) then aSy r x.2.2.2.1 (x.2.2.2.2.1 + y.2.1) else r)
  else aOne
def aSub (x y : aV) : aV := bif k00 x y then
    (let r := aR (x.2.1 - y.2.2.1) (x.2.2.1 - y.2.1)
     bif decide (y.2.1 = y.2.2.1) then aSy r x.2.2.2.1 (x.2.2.2.2.1 - y.2.1) else r)
  else aOne
def mulC (x : aV) (c : Int) : aV := bif decide (0 ≤ c) then aR (x.2.1 * c) (x.2.2.1 * c) else aR (x.2.2.1 * c) (x.2.1 * c)
def aMul (x y : aV) : aV := bif k00 x y then
    (bif decide (y.2.1 = y.2.2.1) then mulC x y.2.1 else bif decide (x.2.1 = x.2.2.1) then mulC y x.2.1
     else bif decide (0 ≤ x.2.1) && decide (0 ≤ y.2.1) then aR (x.2.1 * y.2.1) (x.2.2.1 * y.2.2.1) else aOne)
  else aOne
def nnI (a : aV) : Bool := aIn a && decide (0 ≤ a.2.1)
def aAnd (x y : aV) : aV := bif nnI x then (bif nnI y then aR 0 (min x.2.2.1 y.2.2.1) else aR 0 x.2.2.1) else bif nnI y then aR 0 y.2.2.1 else eT
def aOr (x y : aV) : aV := bif nnI x && nnI y then aR 0 ((2 ^ (Nat.log2 (max x.2.2.1 y.2.2.1).toNat + 1) : Nat) - 1 : Int) else eT
def aShl (x y : aV) : aV := bif nnI x && nnI y && decide (y.2.2.1 ≤ 30) && decide (x.2.2.1 * (2 ^ y.2.2.1.toNat : Nat) ≤ 2147483647) then aR x.2.1 (x.2.2.1 * (2 ^ y.2.2.1.toNat : Nat)) else eT
def aShr (x y : aV) : aV := bif nnI x && nnI y && decide (y.2.2.1 ≤ 31) then aR 0 (x.2.2.1.toNat >>> y.2.1.toNat : Nat) else eT
theorem mulC_ok {x : aV} {c z : Int} (h : x.2.1 ≤ z ∧ z ≤ x.2.2.1) : gR (mulC x c) (z * c) := by
  unfold mulC
  by_cases q : 0 ≤ c
  · rw [decide_eq_true q, cond_true]
    exact aR_ok (Int.mul_le_mul_of_nonneg_right h.1 q) (Int.mul_le_mul_of_nonneg_right h.2 q)
  · rw [decide_eq_false q, cond_false]
    exact aR_ok (Int.mul_le_mul_of_nonpos_right h.2 (by omega)) (Int.mul_le_mul_of_nonpos_right h.1 (by omega))
theorem k00_ok {x y : aV} {zx zy : Int} (h : k00 x y = true) (hx : gR x zx) (hy : gR y zy) : (x.2.1 ≤ zx ∧ zx ≤ x.2.2.1) ∧ y.2.1 ≤ zy ∧ zy ≤ y.2.2.1 := by
  unfold k00 at h
  rw [Bool.and_eq_true] at h
  have h1 : x.1 = 0 := Nat.eq_of_beq_eq_true h.1
  have h2 : y.1 = 0 := Nat.eq_of_beq_eq_true h.2
  rcases hx with hx | hx | hx
  · rcases hy with hy | hy | hy
    · exact ⟨hx.2, hy.2⟩
    · omega
    · omega
  · omega
  · omega
theorem one_ok {z : Int} : gR aOne z := Or.inr (Or.inl rfl)
theorem nnI_ok {a : aV} {z : Int} (h : nnI a = true) (g : gR a z) : (0 ≤ a.2.1 ∧ a.2.2.1 ≤ 2147483647) ∧ a.2.1 ≤ z ∧ z ≤ a.2.2.1 := by
  unfold nnI at h
  rw [Bool.and_eq_true, decide_eq_true_eq] at h
  have := gR_in h.1 g
  omega
theorem aAdd_ok {s : Nat → Int} {x y : aV} {zx zy : Int} (hx : gR x zx) (hy : gR y zy) (sx : gY s x (.inl zx)) : gR (aAdd x y) (zx + zy) ∧ gY s (aAdd x y) (.inl (zx + zy)) := by
  unfold aAdd
  cases hk : k00 x y with
  | true =>
    have := k00_ok hk hx hy
    rw [cond_true]
    dsimp only
    by_cases q : y.2.1 = y.2.2.1
    · rw [decide_eq_true q, cond_true]
      refine ⟨Or.inl ⟨rfl, show x.2.1 + y.2.1 ≤ zx + zy by omega, show zx + zy ≤ x.2.2.1 + y.2.2.1 by omega⟩, ?_⟩
      rcases sx with e | ⟨e0, e⟩ | ⟨e0, z, e, e1⟩
      · exact Or.inl e
      · right
        left
        refine ⟨e0, ?_⟩
        have e2 : zx = s x.2.2.2.1 + x.2.2.2.2.1 := Sum.inl.inj e
        show (Sum.inl (zx + zy) : pV) = .inl (s x.2.2.2.1 + (x.2.2.2.2.1 + y.2.1))
        congr 1
        omega
      · right
        right
        refine ⟨e0, _, rfl, ?_⟩
        have e2 : zx = z := Sum.inl.inj e
        show s (x.2.2.2.1 - 1000000) + (x.2.2.2.2.1 + y.2.1) ≤ zx + zy
        omega
    · rw [decide_eq_false q, cond_false]
      exact ⟨aR_ok (by omega) (by omega), Or.inl rfl⟩
  | false => exact ⟨one_ok, Or.inl rfl⟩
theorem aSub_ok {s : Nat → Int} {x y : aV} {zx zy : Int} (hx : gR x zx) (hy : gR y zy) (sx : gY s x (.inl zx)) : gR (aSub x y) (zx - zy) ∧ gY s (aSub x y) (.inl (zx - zy)) := by
  unfold aSub
  cases hk : k00 x y with
  | true =>
    have := k00_ok hk hx hy
    rw [cond_true]
    dsimp only
    by_cases q : y.2.1 = y.2.2.1
    · rw [decide_eq_true q, cond_true]
      refine ⟨Or.inl ⟨rfl, show x.2.1 - y.2.2.1 ≤ zx - zy by omega, show zx - zy ≤ x.2.2.1 - y.2.1 by omega⟩, ?_⟩
      rcases sx with e | ⟨e0, e⟩ | ⟨e0, z, e, e1⟩
      · exact Or.inl e
      · right
        left
        refine ⟨e0, ?_⟩
        have e2 : zx = s x.2.2.2.1 + x.2.2.2.2.1 := Sum.inl.inj e
        show (Sum.inl (zx - zy) : pV) = .inl (s x.2.2.2.1 + (x.2.2.2.2.1 - y.2.1))
        congr 1
        omega
      · right
        right
        refine ⟨e0, _, rfl, ?_⟩
        have e2 : zx = z := Sum.inl.inj e
        show s (x.2.2.2.1 - 1000000) + (x.2.2.2.2.1 - y.2.1) ≤ zx - zy
        omega
    · rw [decide_eq_false q, cond_false]
      exact ⟨aR_ok (by omega) (by omega), Or.inl rfl⟩
  | false => exact ⟨one_ok, Or.inl rfl⟩
theorem aMul_ok {x y : aV} {zx zy : Int} (hx : gR x zx) (hy : gR y zy) : gR (aMul x y) (zx * zy) := by
  unfold aMul
  cases hk : k00 x y with
  | true =>
    have := k00_ok hk hx hy
    rw [cond_true]
    by_cases q : y.2.1 = y.2.2.1
    · rw [decide_eq_true q, cond_true, show zy = y.2.1 by omega]
      exact mulC_ok this.1
    · rw [decide_eq_false q, cond_false]
      by_cases q2 : x.2.1 = x.2.2.1
      · rw [decide_eq_true q2, cond_true, show zx = x.2.1 by omega, Int.mul_comm]
        exact mulC_ok this.2
      · rw [decide_eq_false q2, cond_false]
        by_cases q3 : 0 ≤ x.2.1
        · by_cases q4 : 0 ≤ y.2.1
          · rw [decide_eq_true q3, decide_eq_true q4, Bool.and_self, cond_true]
            exact aR_ok (Int.mul_le_mul this.1.1 this.2.1 q4 (by omega)) (Int.mul_le_mul this.1.2 this.2.2 (by omega) (by omega))
          · rw [decide_eq_false q4, Bool.and_false, cond_false]; exact one_ok
        · rw [decide_eq_false q3, Bool.false_and, cond_false]; exact one_ok
  | false => exact one_ok
theorem iv_bv {z : Int} (h1 : 0 ≤ z) (h2 : z ≤ 2147483647) : (iI z).toBitVec.toNat = z.toNat := by
  show (BitVec.ofInt 32 z).toNat = z.toNat
  rw [BitVec.toNat_ofInt]
  omega
theorem iv_nn {x : Int32} {n : Nat} (h : x.toBitVec.toNat = n) (hn : n ≤ 2147483647) : x.toInt = n := by
  show x.toBitVec.toInt = _
  rw [BitVec.toInt_eq_toNat_of_lt (by omega), h]
theorem aAnd_l {x y : Int} (h1 : 0 ≤ x) (h2 : x ≤ 2147483647) : 0 ≤ jand x y ∧ jand x y ≤ x := by
  show 0 ≤ ((iI x) &&& (iI y)).toInt ∧ ((iI x) &&& (iI y)).toInt ≤ x
  have e : ((iI x) &&& (iI y)).toBitVec.toNat ≤ x.toNat := by
    show ((iI x).toBitVec &&& (iI y).toBitVec).toNat ≤ _
    rw [BitVec.toNat_and, iv_bv h1 h2]
    exact Nat.and_le_left
  rw [iv_nn rfl (by omega)]
  omega
theorem jand_comm (x y : Int) : jand x y = jand y x := by
  show ((iI x) &&& (iI y)).toInt = ((iI y) &&& (iI x)).toInt
  rw [show iI x &&& iI y = iI y &&& iI x from Int32.toBitVec_inj.mp (BitVec.and_comm _ _)]
theorem aAnd_ok {x y : aV} {zx zy : Int} (hx : gR x zx) (hy : gR y zy) : gR (aAnd x y) (jand zx zy) := by
  unfold aAnd
  cases h1 : nnI x with
  | true =>
    have q1 := nnI_ok h1 hx
    have q2 := aAnd_l (x := zx) (y := zy) (by omega) (by omega)
    rw [cond_true]
    cases h2 : nnI y with
    | true =>
      have q3 := nnI_ok h2 hy
      have q4 := aAnd_l (x := zy) (y := zx) (by omega) (by omega)
      rw [jand_comm] at q4
      exact aR_ok (by omega) (by omega)
    | false => exact aR_ok (by omega) (by omega)
  | false =>
    rw [cond_false]
    cases h2 : nnI y with
    | true =>
      have q3 := nnI_ok h2 hy
      have q4 := aAnd_l (x := zy) (y := zx) (by omega) (by omega)
      rw [jand_comm] at q4
      exact aR_ok (by omega) (by omega)
    | false => exact aT_ok (iv_b32 _ _ _)
theorem aOr_ok {x y : aV} {zx zy : Int} (hx : gR x zx) (hy : gR y zy) : gR (aOr x y) (jor zx zy) := by
  unfold aOr
  cases h1 : (nnI x && nnI y) with
  | true =>
    rw [Bool.and_eq_true] at h1
    have q1 := nnI_ok h1.1 hx
    have q2 := nnI_ok h1.2 hy
    rw [cond_true]
    have e : ((iI zx) ||| (iI zy)).toBitVec.toNat = zx.toNat ||| zy.toNat := by
      show ((iI zx).toBitVec ||| (iI zy).toBitVec).toNat = _
      rw [BitVec.toNat_or, iv_bv (by omega) (by omega), iv_bv (by omega) (by omega)]
    have l1 : zx.toNat < 2 ^ (Nat.log2 (max x.2.2.1 y.2.2.1).toNat + 1) := Nat.lt_of_le_of_lt (by omega) Nat.lt_log2_self
    have l2 : zy.toNat < 2 ^ (Nat.log2 (max x.2.2.1 y.2.2.1).toNat + 1) := Nat.lt_of_le_of_lt (by omega) Nat.lt_log2_self
    have l3 := Nat.or_lt_two_pow l1 l2
    have l4 : zx.toNat ||| zy.toNat < 2 ^ 31 := Nat.or_lt_two_pow (by omega) (by omega)
    have e2 : jor zx zy = ((zx.toNat ||| zy.toNat : Nat) : Int) := by
      show ((iI zx) ||| (iI zy)).toInt = _
      rw [iv_nn e (by omega)]
    rw [e2]
    exact aR_ok (by omega) (by omega)
  | false => exact aT_ok (iv_b32 _ _ _)
theorem iv_sm : ∀ t : Nat, t < 32 → ((iI (t : Int)) &&& (31 : Int32)).toBitVec.smod 32 = BitVec.ofNat 32 t := by decide +kernel
theorem aShl_ok {x y : aV} {zx zy : Int} (hx : gR x zx) (hy : gR y zy) : gR (aShl x y) (jshl zx zy) := by
  unfold aShl
  cases h1 : (nnI x && nnI y && decide (y.2.2.1 ≤ 30) && decide (x.2.2.1 * (2 ^ y.2.2.1.toNat : Nat) ≤ 2147483647)) with
  | true =>
    simp only [Bool.and_eq_true, decide_eq_true_eq] at h1
    obtain ⟨⟨⟨n1, n2⟩, n3⟩, n4⟩ := h1
    have q1 := nnI_ok n1 hx
    have q2 := nnI_ok n2 hy
    rw [cond_true]
    obtain ⟨t, rfl⟩ : ∃ t : Nat, zy = (t : Int) := ⟨zy.toNat, by omega⟩
    have p1 : 2 ^ t ≤ 2 ^ y.2.2.1.toNat := Nat.pow_le_pow_right (by decide) (by omega)
    have p2 : zx * (2 ^ t : Nat) ≤ x.2.2.1 * (2 ^ y.2.2.1.toNat : Nat) := Int.mul_le_mul q1.2.2 (Int.ofNat_le.mpr p1) (Int.natCast_nonneg _) (by omega)
    have p0 : 1 ≤ 2 ^ t := Nat.one_le_two_pow
    have p3 : zx * 1 ≤ zx * (2 ^ t : Nat) := Int.mul_le_mul_of_nonneg_left (Int.ofNat_le.mpr p0) (by omega)
    have e : jshl zx t = zx * (2 ^ t : Nat) := by
      show (iI zx <<< (iI (t : Int) &&& (31 : Int32))).toInt = _
      have e1 : (iI zx <<< (iI (t : Int) &&& (31 : Int32))).toBitVec.toNat = zx.toNat * 2 ^ t := by
        show (BitVec.shiftLeft (iI zx).toBitVec ((((iI (t : Int)) &&& (31 : Int32)).toBitVec.smod 32).toNat)).toNat = _
        rw [iv_sm t (by omega), BitVec.toNat_ofNat, Nat.mod_eq_of_lt (by omega), BitVec.shiftLeft_eq, BitVec.toNat_shiftLeft, iv_bv (by omega) (by omega), Nat.shiftLeft_eq, Nat.mod_eq_of_lt]
        have : ((zx.toNat * 2 ^ t : Nat) : Int) = zx * (2 ^ t : Nat) := by rw [Int.natCast_mul]; congr 1; omega
        omega
      have e3 : ((zx.toNat * 2 ^ t : Nat) : Int) = zx * (2 ^ t : Nat) := by rw [Int.natCast_mul]; congr 1; omega
      rw [iv_nn e1 (by omega), e3]
    rw [e]
    exact aR_ok (by omega) p2
  | false => exact aT_ok (iv_b32 _ _ _)
theorem shr_le {a b s t : Nat} (h1 : a ≤ b) (h2 : s ≤ t) : a >>> t ≤ b >>> s := by
  rw [Nat.shiftRight_eq_div_pow, Nat.shiftRight_eq_div_pow]
  exact Nat.div_le_div h1 (Nat.pow_le_pow_right (by decide) h2) (Nat.ne_of_gt (Nat.two_pow_pos s))
theorem aShr_ok {x y : aV} {zx zy : Int} (hx : gR x zx) (hy : gR y zy) : gR (aShr x y) (jshr zx zy) ∧ gR (aShr x y) (jushr zx zy) := by
  unfold aShr
  cases h1 : (nnI x && nnI y && decide (y.2.2.1 ≤ 31)) with
  | true =>
    simp only [Bool.and_eq_true, decide_eq_true_eq] at h1
    obtain ⟨⟨n1, n2⟩, n3⟩ := h1
    have q1 := nnI_ok n1 hx
    have q2 := nnI_ok n2 hy
    rw [cond_true]
    obtain ⟨t, rfl⟩ : ∃ t : Nat, zy = (t : Int) := ⟨zy.toNat, by omega⟩
    have e2 := Nat.shiftRight_le zx.toNat t
    have e3 : zx.toNat >>> t ≤ x.2.2.1.toNat >>> y.2.1.toNat := shr_le (by omega) (by omega)
    have e1 : (iI zx >>> (iI (t : Int) &&& (31 : Int32))).toBitVec.toNat = zx.toNat >>> t := by
      show (BitVec.sshiftRight' (iI zx).toBitVec (((iI (t : Int)) &&& (31 : Int32)).toBitVec.smod 32)).toNat = _
      rw [iv_sm t (by omega), BitVec.toNat_sshiftRight'_of_msb_false, iv_bv (by omega) (by omega)]
      · simp only [BitVec.toNat_ofNat]
        rw [Nat.mod_eq_of_lt (by omega)]
      · rw [BitVec.msb_eq_decide, iv_bv (by omega) (by omega)]
        simp only [decide_eq_false_iff_not]
        omega
    have e : jshr zx t = ((zx.toNat >>> t : Nat) : Int) := by
      show (iI zx >>> (iI (t : Int) &&& (31 : Int32))).toInt = _
      rw [iv_nn e1 (by omega)]
    have e4 : jushr zx t = ((zx.toNat >>> t : Nat) : Int) := by
      have e5 : (((iI zx).toUInt32 >>> ((iI (t : Int)).toUInt32 &&& Int32.toUInt32 31)).toInt32).toBitVec.toNat = zx.toNat >>> t := by
        show (((iI zx).toUInt32 >>> ((iI (t : Int)).toUInt32 &&& Int32.toUInt32 31))).toNat = _
        rw [UInt32.toNat_shiftRight]
        have m : ((iI (t : Int)).toUInt32 &&& Int32.toUInt32 31).toNat % 32 = t := by
          have m1 : ∀ t : Nat, t < 32 → ((iI (t : Int)).toUInt32 &&& Int32.toUInt32 31).toNat % 32 = t := by decide +kernel
          exact m1 t (by omega)
        rw [m]
        show (iI zx).toBitVec.toNat >>> t = _
        rw [iv_bv (by omega) (by omega)]
      show (((iI zx).toUInt32 >>> ((iI (t : Int)).toUInt32 &&& Int32.toUInt32 31)).toInt32).toInt = _
      rw [iv_nn e5 (by omega)]
    rw [e, e4]
    exact ⟨aR_ok (by omega) (by omega), aR_ok (by omega) (by omega)⟩
  | false => exact ⟨aT_ok (iv_b32 _ _ _), aT_ok (iv_b32 _ _ _)⟩
def aBin (c : Nat) (x y : aV) : aV := match c with
  | 0 => aAdd x y
  | 1 => aSub x y
  | 2 => aMul x y
  | 3 => aAnd x y
  | 4 => aOr x y
  | 5 => aShl x y
  | 6 => aShr x y
  | 7 => aShr x y
  | _ => eT
def fBin (c : Nat) : Int → Int → Int := match c with
  | 0 => fun x y => x + y
  | 1 => fun x y => x - y
  | 2 => fun x y => x * y
  | 3 => jand
  | 4 => jor
  | 5 => jshl
  | 6 => jshr
  | 7 => jushr
  | _ => jxor
theorem mul_s {x y : aV} : (aMul x y).2.2.2.1 = 0 := by
  unfold aMul mulC
  repeat' (first | rfl | (rw [cond_eq_ite]; split))
theorem aAnd_s {x y : aV} : (aAnd x y).2.2.2.1 = 0 := by
  unfold aAnd
  repeat' (first | rfl | (rw [cond_eq_ite]; split))
theorem aOr_s {x y : aV} : (aOr x y).2.2.2.1 = 0 := by
  unfold aOr
  repeat' (first | rfl | (rw [cond_eq_ite]; split))
theorem aShl_s {x y : aV} : (aShl x y).2.2.2.1 = 0 := by
  unfold aShl
  repeat' (first | rfl | (rw [cond_eq_ite]; split))
theorem aShr_s {x y : aV} : (aShr x y).2.2.2.1 = 0 := by
  unfold aShr
  repeat' (first | rfl | (rw [cond_eq_ite]; split))
theorem aBin_ok {s : Nat → Int} {x y : aV} {zx zy : Int} (c : Nat) (hx : gR x zx) (hy : gR y zy) (sx : gY s x (.inl zx)) : gR (aBin c x y) (fBin c zx zy) ∧ gY s (aBin c x y) (.inl (fBin c zx zy)) := by
  rcases c with _ | _ | _ | _ | _ | _ | _ | _ | c
  · exact aAdd_ok hx hy sx
  · exact aSub_ok hx hy sx
  · exact ⟨aMul_ok hx hy, Or.inl mul_s⟩
  · exact ⟨aAnd_ok hx hy, Or.inl aAnd_s⟩
  · exact ⟨aOr_ok hx hy, Or.inl aOr_s⟩
  · exact ⟨aShl_ok hx hy, Or.inl aShl_s⟩
  · exact ⟨(aShr_ok hx hy).1, Or.inl aShr_s⟩
  · exact ⟨(aShr_ok hx hy).2, Or.inl aShr_s⟩
  · exact ⟨aT_ok (show -2147483648 ≤ jxor zx zy ∧ jxor zx zy ≤ 2147483647 from iv_b32 _ zx zy), Or.inl rfl⟩
/-! division, remainder, the greater, the lesser, narrower ints -/
def nz (y : aV) : Bool := Nat.beq y.1 2 || (aIn y && (decide (0 < y.2.1) || decide (y.2.2.1 < 0)))
theorem nz_ok {y : aV} {z : Int} (h : nz y = true) (g : gR y z) : ¬ eq32 z 0 := by
  have : leR y aNz = true := h
  have := leR_R this g (by decide)
  rcases this with q | q | q
  · cases q.1
  · cases q
  · exact q.2
def aDiv (c : Nat) (x y : aV) : aV := match c with
  | 0 => bif nnI x && nnI y && decide (0 < y.2.1) then aR (bif decide (y.2.1 = y.2.2.1) then x.2.1 / y.2.1 else 0) (bif decide (y.2.1 = y.2.2.1) then x.2.2.1 / y.2.1 else x.2.2.1) else eT
  | _ => bif nnI x && nnI y && decide (0 < y.2.1) then (bif decide (x.2.1 = x.2.2.1) && decide (y.2.1 = y.2.2.1) then aR (x.2.1 % y.2.1) (x.2.1 % y.2.1) else aR 0 (min x.2.2.1 (y.2.2.1 - 1))) else eT
def fDiv (c : Nat) : Int → Int → Int := match c with
  | 0 => jdiv
  | _ => jrem
theorem iv_div {a b : Int} (ha : 0 ≤ a) (ha2 : a ≤ 2147483647) (hb : 0 < b) (hb2 : b ≤ 2147483647) : jdiv a b = a / b := by
  unfold jdiv b32
  rw [Int32.toInt_div_of_ne_right _ _ (by
    intro h
    have := congrArg Int32.toInt h
    rw [iv_id (by omega) (by omega)] at this
    have h9 : Int32.toInt (-1) = -1 := by decide
    rw [h9] at this
    omega), iv_id (by omega) (by omega), iv_id (by omega) (by omega)]
  exact Int.tdiv_eq_ediv_of_nonneg ha
theorem iv_rem {a b : Int} (ha : 0 ≤ a) (ha2 : a ≤ 2147483647) (hb : 0 < b) (hb2 : b ≤ 2147483647) : jrem a b = a % b := by
  have h1 := iv_div ha ha2 hb hb2
  unfold jdiv b32 at h1
  unfold jrem b32
  have e : iI a - iI a / iI b * iI b = iI (a % b) := by
    have e2 : iI a / iI b = iI (a / b) := by
      have := congrArg Int32.ofInt h1
      rw [Int32.ofInt_toInt] at this
      exact this
    rw [e2]
    show Int32.ofInt _ - Int32.ofInt _ * Int32.ofInt _ = Int32.ofInt _
    rw [← Int32.ofInt_mul, ← Int32.ofInt_sub]
    congr 1
    rw [Int.emod_def, Int.mul_comm]
  show (iI a - iI a / iI b * iI b).toInt = _
  rw [e]
  have h2 := Int.emod_nonneg a (show b ≠ 0 by omega)
  have h3 := Int.emod_lt_of_pos a hb
  exact iv_id (by omega) (by omega)
theorem aDiv_ok {x y : aV} {zx zy : Int} (c : Nat) (hx : gR x zx) (hy : gR y zy) : gR (aDiv c x y) (fDiv c zx zy) ∧ (aDiv c x y).2.2.2.1 = 0 := by
  rcases c with _ | c
  · show gR (bif nnI x && nnI y && decide (0 < y.2.1) then aR (bif decide (y.2.1 = y.2.2.1) then x.2.1 / y.2.1 else 0) (bif decide (y.2.1 = y.2.2.1) then x.2.2.1 / y.2.1 else x.2.2.1) else eT) (jdiv zx zy) ∧ (bif nnI x && nnI y && decide (0 < y.2.1) then aR (bif decide (y.2.1 = y.2.2.1) then x.2.1 / y.2.1 else 0) (bif decide (y.2.1 = y.2.2.1) then x.2.2.1 / y.2.1 else x.2.2.1) else eT).2.2.2.1 = 0
    cases h1 : (nnI x && nnI y && decide (0 < y.2.1)) with
    | true =>
      simp only [Bool.and_eq_true, decide_eq_true_eq] at h1
      obtain ⟨⟨n1, n2⟩, n3⟩ := h1
      have q1 := nnI_ok n1 hx
      have q2 := nnI_ok n2 hy
      rw [cond_true, iv_div (by omega) (by omega) (by omega) (by omega)]
      have p1 : 0 ≤ zx / zy := Int.ediv_nonneg (by omega) (by omega)
      have p2 : zx / zy ≤ zx := Int.ediv_le_self _ (by omega)
      refine ⟨?_, rfl⟩
      by_cases q : y.2.1 = y.2.2.1
      · rw [decide_eq_true q, cond_true, cond_true]
        have e : zy = y.2.1 := by omega
        rw [e]
        exact aR_ok (Int.ediv_le_ediv n3 q1.2.1) (Int.ediv_le_ediv n3 q1.2.2)
      · rw [decide_eq_false q, cond_false, cond_false]
        exact aR_ok p1 (by omega)
    | false => exact ⟨aT_ok (iv_b32 _ _ _), rfl⟩
  · show gR (bif nnI x && nnI y && decide (0 < y.2.1) then (bif decide (x.2.1 = x.2.2.1) && decide (y.2.1 = y.2.2.1) then aR (x.2.1 % y.2.1) (x.2.1 % y.2.1) else aR 0 (min x.2.2.1 (y.2.2.1 - 1))) else eT) (jrem zx zy) ∧ (bif nnI x && nnI y && decide (0 < y.2.1) then (bif decide (x.2.1 = x.2.2.1) && decide (y.2.1 = y.2.2.1) then aR (x.2.1 % y.2.1) (x.2.1 % y.2.1) else aR 0 (min x.2.2.1 (y.2.2.1 - 1))) else eT).2.2.2.1 = 0
    cases h1 : (nnI x && nnI y && decide (0 < y.2.1)) with
    | true =>
      simp only [Bool.and_eq_true, decide_eq_true_eq] at h1
      obtain ⟨⟨n1, n2⟩, n3⟩ := h1
      have q1 := nnI_ok n1 hx
      have q2 := nnI_ok n2 hy
      rw [cond_true, iv_rem (by omega) (by omega) (by omega) (by omega)]
      have h2 := Int.emod_nonneg zx (show zy ≠ 0 by omega)
      have h3 := Int.emod_lt_of_pos zx (show 0 < zy by omega)
      have h5 : 0 ≤ zy * (zx / zy) := Int.mul_nonneg (by omega) (Int.ediv_nonneg (by omega) (by omega))
      have h6 := Int.emod_def zx zy
      cases hc : (decide (x.2.1 = x.2.2.1) && decide (y.2.1 = y.2.2.1)) with
      | true =>
        rw [Bool.and_eq_true, decide_eq_true_eq, decide_eq_true_eq] at hc
        have e1 : zx = x.2.1 := by omega
        have e2 : zy = y.2.1 := by omega
        rw [e1, e2]
        exact ⟨aR_ok (Int.le_refl _) (Int.le_refl _), rfl⟩
      | false => exact ⟨aR_ok h2 (by omega), rfl⟩
    | false => exact ⟨aT_ok (iv_b32 _ _ _), rfl⟩
def aFu (a : aV) : aV := bif aIn a then a else eT
theorem aFu_ok {a : aV} {z : Int} (g : gR a z) : (aFu a).2.1 ≤ (iI z).toInt ∧ (iI z).toInt ≤ (aFu a).2.2.1 := by
  unfold aFu
  cases h : aIn a with
  | true =>
    have := gR_in h g
    rw [cond_true, iv_id (by omega) (by omega)]
    exact this.2
  | false => exact iv_can _
def aMm (c : Nat) (x y : aV) : aV := match c with
  | 0 => aR (max (aFu x).2.1 (aFu y).2.1) (max (aFu x).2.2.1 (aFu y).2.2.1)
  | _ => aR (min (aFu x).2.1 (aFu y).2.1) (min (aFu x).2.2.1 (aFu y).2.2.1)
def fMm (c : Nat) : Int → Int → Int := match c with
  | 0 => jmax
  | _ => jmin
theorem aMm_ok {x y : aV} {zx zy : Int} (c : Nat) (hx : gR x zx) (hy : gR y zy) : gR (aMm c x y) (fMm c zx zy) ∧ (aMm c x y).2.2.2.1 = 0 := by
  have q1 := aFu_ok hx
  have q2 := aFu_ok hy
  unfold aMm fMm
  split
  · refine ⟨?_, rfl⟩
    unfold jmax
    by_cases h : lt32 zx zy
    · rw [if_pos h]
      have := Int32.lt_iff_toInt_lt.mp h
      exact aR_ok (by omega) (by omega)
    · rw [if_neg h]
      have : ¬ (iI zx).toInt < (iI zy).toInt := fun w => h (Int32.lt_iff_toInt_lt.mpr w)
      exact aR_ok (by omega) (by omega)
  · refine ⟨?_, rfl⟩
    unfold jmin
    by_cases h : lt32 zy zx
    · rw [if_pos h]
      have := Int32.lt_iff_toInt_lt.mp h
      exact aR_ok (by omega) (by omega)
    · rw [if_neg h]
      have : ¬ (iI zy).toInt < (iI zx).toInt := fun w => h (Int32.lt_iff_toInt_lt.mpr w)
      exact aR_ok (by omega) (by omega)
def aUn (c : Nat) (x : aV) : aV := match c with
  | 0 => bif Nat.beq x.1 0 then aR (-x.2.2.1) (-x.2.1) else aOne
  | 1 => bif Nat.beq x.1 0 && decide (-128 ≤ x.2.1) && decide (x.2.2.1 ≤ 127) then aR x.2.1 x.2.2.1 else aR (-128) 127
  | 2 => aR (-32768) 32767
  | _ => bif Nat.beq x.1 0 && decide (0 ≤ x.2.1) && decide (x.2.2.1 ≤ 65535) then aR x.2.1 x.2.2.1 else aR 0 65535
def fUn (c : Nat) : Int → Int := match c with
  | 0 => fun x => -x
  | 1 => jb
  | 2 => js
  | _ => jc
end
section
/-! the steps of the interval machine, and that they are right -/
theorem aUn_ok {x : aV} {zx : Int} (c : Nat) (hx : gR x zx) : gR (aUn c x) (fUn c zx) ∧ (aUn c x).2.2.2.1 = 0 := by
  unfold aUn fUn
  split
  · show gR (bif Nat.beq x.1 0 then aR (-x.2.2.1) (-x.2.1) else aOne) (-zx) ∧ (bif Nat.beq x.1 0 then aR (-x.2.2.1) (-x.2.1) else aOne).2.2.2.1 = 0
    cases h : Nat.beq x.1 0 with
    | true =>
      have e : x.1 = 0 := Nat.eq_of_beq_eq_true h
      rw [cond_true]
      rcases hx with g | g | g
      · exact ⟨aR_ok (by omega) (by omega), rfl⟩
      · omega
      · omega
    | false => exact ⟨one_ok, rfl⟩
  · have r : -128 ≤ jb zx ∧ jb zx ≤ 127 := by
      unfold jb
      rw [Int8.toInt_toInt32]
      have h1 := (iI zx).toInt8.le_toInt
      have h2 := (iI zx).toInt8.toInt_lt
      omega
    cases h : (Nat.beq x.1 0 && decide (-128 ≤ x.2.1) && decide (x.2.2.1 ≤ 127)) with
    | true =>
      simp only [Bool.and_eq_true, decide_eq_true_eq] at h
      have e : x.1 = 0 := Nat.eq_of_beq_eq_true h.1.1
      rw [cond_true]
      rcases hx with g | g | g
      · have e2 : jb zx = zx := by
          unfold jb
          rw [Int8.toInt_toInt32]
          show (Int8.ofInt (Int32.ofInt zx).toInt).toInt = zx
          rw [show (Int32.ofInt zx).toInt = zx from iv_id (by omega) (by omega), Int8.toInt_ofInt, show Int8.size = 256 from rfl]
          exact Int.bmod_eq_of_le (by omega) (by omega)
        rw [e2]
        exact ⟨aR_ok (by omega) (by omega), rfl⟩
      · omega
      · omega
    | false => exact ⟨aR_ok r.1 r.2, rfl⟩
  · have r : -32768 ≤ js zx ∧ js zx ≤ 32767 := by
      unfold js
      rw [Int16.toInt_toInt32]
      have h1 := (iI zx).toInt16.le_toInt
      have h2 := (iI zx).toInt16.toInt_lt
      omega
    exact ⟨aR_ok r.1 r.2, rfl⟩
  · have e0 : jc zx = (((iI zx).toUInt32 % 65536).toNat : Int) := by
      unfold jc
      have h9 : ((iI zx).toUInt32 % 65536).toNat < 65536 := by
        rw [UInt32.toNat_mod]
        exact Nat.mod_lt _ (by decide)
      exact iv_nn (x := ((iI zx).toUInt32 % 65536).toInt32) (n := ((iI zx).toUInt32 % 65536).toNat) rfl (by omega)
    have e1 : ((iI zx).toUInt32 % 65536).toNat = (iI zx).toBitVec.toNat % 65536 := UInt32.toNat_mod _ _
    rw [e0, e1]
    have r : (iI zx).toBitVec.toNat % 65536 < 65536 := Nat.mod_lt _ (by decide)
    cases h : (Nat.beq x.1 0 && decide (0 ≤ x.2.1) && decide (x.2.2.1 ≤ 65535)) with
    | true =>
      simp only [Bool.and_eq_true, decide_eq_true_eq] at h
      have e : x.1 = 0 := Nat.eq_of_beq_eq_true h.1.1
      rw [cond_true]
      rcases hx with g | g | g
      · rw [iv_bv (by omega) (by omega)]
        exact ⟨aR_ok (by omega) (by omega), rfl⟩
      · omega
      · omega
    | false => exact ⟨aR_ok (by omega) (by omega), rfl⟩
def cov (w wr : List (Nat × Nat)) : Bool := w.all fun q => wr.any fun p => Nat.beq p.1 q.1 && (Nat.beq p.2 999 || Nat.beq p.2 q.2)
theorem cov_ok {w wr : List (Nat × Nat)} (h : cov w wr = true) {M M' : pM} (f : Fr w M M') : Fr wr M M' := by
  intro o k q
  refine f o k ?_
  cases hq : wOK w o k with
  | false => rfl
  | true =>
    exfalso
    unfold wOK at hq
    rw [List.any_eq_true] at hq
    obtain ⟨x, hx, hx2⟩ := hq
    unfold cov at h
    rw [List.all_eq_true] at h
    have h2 := h x hx
    rw [List.any_eq_true] at h2
    obtain ⟨p, hp, hp2⟩ := h2
    simp only [Bool.and_eq_true, Bool.or_eq_true, Nat.beq_eq] at hx2 hp2
    have : wOK wr o k = true := by
      unfold wOK
      rw [List.any_eq_true]
      refine ⟨p, hp, ?_⟩
      simp only [Bool.and_eq_true, Bool.or_eq_true, Nat.beq_eq]
      omega
    rw [this] at q
    cases q
theorem Fr_pset {M : pM} {o k : Nat} {z : Int} : Fr [(o, k)] M (pset M o k z) := by
  intro o' k' h
  unfold pset
  split
  · rename_i e
    exfalso
    rw [e.1, e.2] at h
    simp [wOK] at h
  · rfl
theorem Fr_pset9 {M : pM} {o k : Nat} {z : Int} : Fr [(o, 999)] M (pset M o k z) := by
  intro o' k' h
  unfold pset
  split
  · rename_i e
    exfalso
    rw [e.1] at h
    simp [wOK] at h
  · rfl
theorem Fr_loc {w : List (Nat × Nat)} {s : Nat → Int} {ls : List pV} {M M' : pM} (f : Fr w M M') {as : List aV} {vs : List pV} (h : aF2 (fun a v => gW a v ∧ gY s a v ∧ gO ls M a v) as vs) : aF2 (fun a v => gW a v ∧ gY s a v ∧ gO ls M' a v) (as.map (clM w)) vs := by
  refine aF2_map ?_ h
  intro a v q
  unfold clM
  cases hb : (Nat.ble 64 a.2.2.2.2.2 && wOK w ((a.2.2.2.2.2 - 64) / 64) ((a.2.2.2.2.2 - 64) % 64)) with
  | true => exact ⟨q.1, q.2.1, Or.inl rfl⟩
  | false =>
    show gW a v ∧ gY s a v ∧ gO ls M' a v
    refine ⟨q.1, q.2.1, ?_⟩
    rcases q.2.2 with h1 | h1 | h1
    · exact Or.inl h1
    · exact Or.inr (Or.inl h1)
    · refine Or.inr (Or.inr ⟨h1.1, ?_⟩)
      rw [Bool.and_eq_false_iff] at hb
      rcases hb with hb | hb
      · rw [Nat.ble_eq_true_of_le h1.1] at hb; cases hb
      · rw [f _ _ hb]; exact h1.2
theorem Fr_ov {w : List (Nat × Nat)} {s : Nat → Int} {M M' : pM} (f : Fr w M M') {ov : aP} (h : gP s ov M) : gP s (dlW ov w) M' := by
  intro e he
  obtain ⟨h1, h2⟩ := List.mem_filter.mp he
  have h3 : wOK w e.1 e.2.1 = false := by
    cases q : wOK w e.1 e.2.1 with
    | false => rfl
    | true => rw [q] at h2; cases h2
  rw [f _ _ h3]
  exact h e h1
section STEPS
variable {E : aE}
theorem out1 {s : Nat → Int} {A0 ls : List pV} {M : pM} {X : pX} {q : Option pR} {pc : Nat} {S' : eS} {ls' st' : List pV} {M' : pM} (hF : Fr E.2.2.2 M M') (e : q = X pc ls' st' M') (g : gS E s A0 S' ls' st' M') : aOut E [.inr (pc, S')] s A0 ls M X q := ⟨_, List.mem_singleton.mpr rfl, M', hF, Or.inr ⟨pc, S', ls', st', rfl, e, g⟩⟩
theorem loc_at {R : aV → pV → Prop} {as : List aV} {vs : List pV} {i : Nat} (h : aF2 R as vs) (hk : (as.getD i aN).1 ≤ 3) : R (as.getD i aN) (vs.getD i (.inr 0)) := by
  rcases Nat.lt_or_ge i as.length with q | q
  · exact aF2_at i h q
  · exfalso
    have e : as.getD i aN = aN := by rw [List.getD_eq_getElem?_getD, List.getElem?_eq_none q]; rfl
    rw [e] at hk
    exact absurd hk (by decide)
def aGo (nx : Nat) (S : eS) : Option (List aO) := some [.inr (nx, S)]
def a_none : aF := fun _ => none
theorem as_none : aSnd E s_none a_none := fun _ _ h => by cases h
def a_push (z : Int) (nx : Nat) : aF := fun S => aGo nx (S.1, aR z z :: S.2.1, S.2.2)
theorem as_push {z : Int} {nx : Nat} : aSnd E (s_push (.inl z) nx) (a_push z nx) := by
  intro S outs h s A0 ls st M g X Y hY
  cases h
  exact out1 Fr_rfl rfl ⟨g.1, ⟨⟨Or.inl ⟨z, rfl, aR_ok (Int.le_refl _) (Int.le_refl _)⟩, Or.inl rfl, Or.inl rfl⟩, g.2.1⟩, g.2.2⟩
def aRef (n : Nat) : aV := (3, (n : Int), 0, 0, 0, 0)
theorem aRef_ok {n : Nat} {s : Nat → Int} {ls : List pV} {M : pM} : gW (aRef n) (.inr n) ∧ gY s (aRef n) (.inr n) ∧ gO ls M (aRef n) (.inr n) := ⟨Or.inr (Or.inl ⟨rfl, by show (Sum.inr n : pV) = .inr ((n : Int)).toNat; rw [Int.toNat_natCast]⟩), Or.inl rfl, Or.inl rfl⟩
def a_pushr (n nx : Nat) : aF := fun S => aGo nx (S.1, aRef n :: S.2.1, S.2.2)
theorem as_pushr {n nx : Nat} : aSnd E (s_push (.inr n) nx) (a_pushr n nx) := by
  intro S outs h s A0 ls st M g X Y hY
  cases h
  exact out1 Fr_rfl rfl ⟨g.1, ⟨aRef_ok, g.2.1⟩, g.2.2⟩
def a_ild (i nx : Nat) : aF := fun S => let a := S.1.getD i aN
  bif Nat.ble a.1 2 && Nat.ble i 62 then aGo nx (S.1, (a.1, a.2.1, a.2.2.1, a.2.2.2.1, a.2.2.2.2.1, i + 1) :: S.2.1, S.2.2) else none
theorem as_ild {i nx : Nat} : aSnd E (s_ild i nx) (a_ild i nx) := by
  intro S outs h s A0 ls st M g X Y hY
  unfold a_ild at h
  dsimp only at h
  cases hb : (Nat.ble (S.1.getD i aN).1 2 && Nat.ble i 62) with
  | false => rw [hb] at h; cases h
  | true =>
    rw [hb, cond_true] at h
    cases h
    rw [Bool.and_eq_true] at hb
    have b1 := Nat.le_of_ble_eq_true hb.1
    have b2 := Nat.le_of_ble_eq_true hb.2
    have q := loc_at g.1 (i := i) (by omega)
    obtain ⟨z, e, r⟩ := gW_int q.1 b1
    refine out1 Fr_rfl (ls' := ls) (st' := .inl z :: st) (M' := M) (by unfold s_ild; rw [e]) ⟨g.1, ⟨⟨Or.inl ⟨z, rfl, r⟩, ?_, Or.inr (Or.inl ⟨Nat.le_add_left 1 i, show i + 1 < 64 by omega, e⟩)⟩, g.2.1⟩, g.2.2⟩
    rw [e] at q
    exact q.2.1
def a_ald (i nx : Nat) : aF := fun S => let a := S.1.getD i aN
  bif Nat.beq a.1 3 && decide (1 ≤ a.2.1) then aGo nx (S.1, aRef a.2.1.toNat :: S.2.1, S.2.2) else none
theorem as_ald {i nx : Nat} : aSnd E (s_ald i nx) (a_ald i nx) := by
  intro S outs h s A0 ls st M g X Y hY
  unfold a_ald at h
  dsimp only at h
  cases hb : (Nat.beq (S.1.getD i aN).1 3 && decide (1 ≤ (S.1.getD i aN).2.1)) with
  | false => rw [hb] at h; cases h
  | true =>
    rw [hb, cond_true] at h
    cases h
    rw [Bool.and_eq_true, decide_eq_true_eq] at hb
    have b1 := Nat.eq_of_beq_eq_true hb.1
    have q := loc_at g.1 (i := i) (by omega)
    have e := gW_ref q.1 b1
    obtain ⟨j, hj⟩ : ∃ j, (S.1.getD i aN).2.1.toNat = j + 1 := ⟨(S.1.getD i aN).2.1.toNat - 1, by omega⟩
    rw [hj] at e ⊢
    exact out1 Fr_rfl (ls' := ls) (st' := .inr (j + 1) :: st) (M' := M) (by unfold s_ald; rw [e]) ⟨g.1, ⟨aRef_ok, g.2.1⟩, g.2.2⟩
theorem set_org {s : Nat → Int} {ls : List pV} {M : pM} {i : Nat} {w : pV} {as : List aV} {vs : List pV} (h : aF2 (fun a v => gW a v ∧ gY s a v ∧ gO ls M a v) as vs) : aF2 (fun a v => gW a v ∧ gY s a v ∧ gO (ls.set i w) M a v) (as.map (clL i)) vs := by
  refine aF2_map ?_ h
  intro a v q
  unfold clL
  cases hb : Nat.beq a.2.2.2.2.2 (i + 1) with
  | true => exact ⟨q.1, q.2.1, Or.inl rfl⟩
  | false =>
    show gW a v ∧ gY s a v ∧ gO (ls.set i w) M a v
    refine ⟨q.1, q.2.1, ?_⟩
    rcases q.2.2 with h1 | h1 | h1
    · exact Or.inl h1
    · refine Or.inr (Or.inl ⟨h1.1, h1.2.1, ?_⟩)
      rw [← h1.2.2, List.getD_eq_getElem?_getD, List.getD_eq_getElem?_getD, List.getElem?_set_ne]
      intro e
      have := Nat.ne_of_beq_eq_false hb
      omega
    · exact Or.inr (Or.inr h1)
def a_ist (i nx : Nat) : aF := fun S => match S.2.1 with
  | a :: r => bif Nat.ble a.1 2 then aGo nx (S.1.set i (clS a), r.map (clL i), S.2.2) else none
  | [] => none
theorem as_ist {i nx : Nat} : aSnd E (s_ist i nx) (a_ist i nx) := by
  rintro ⟨L, K, ov⟩ outs h s A0 ls st M ⟨g1, g2, g3⟩ X Y hY
  unfold a_ist at h
  dsimp only at h g1 g2 g3
  split at h
  · rename_i a as
    obtain ⟨v, r, rfl, q, h1⟩ := aF2_cons g2
    cases hb : Nat.ble a.1 2 with
    | false => rw [hb] at h; cases h
    | true =>
      rw [hb, cond_true] at h
      cases h
      obtain ⟨z, rfl, rz⟩ := gW_int q.1 (Nat.le_of_ble_eq_true hb)
      exact out1 Fr_rfl rfl ⟨aF2_set i g1 ⟨q.1, q.2.1, Or.inl rfl⟩, set_org h1, g3⟩
  · cases h
def a_ast (i nx : Nat) : aF := fun S => match S.2.1 with
  | a :: r => bif Nat.beq a.1 3 && decide (1 ≤ a.2.1) then aGo nx (S.1.set i (aRef a.2.1.toNat), r.map (clL i), S.2.2) else none
  | [] => none
theorem as_ast {i nx : Nat} : aSnd E (s_ast i nx) (a_ast i nx) := by
  rintro ⟨L, K, ov⟩ outs h s A0 ls st M ⟨g1, g2, g3⟩ X Y hY
  unfold a_ast at h
  dsimp only at h g1 g2 g3
  split at h
  · rename_i a as
    obtain ⟨v, r, rfl, q, h1⟩ := aF2_cons g2
    cases hb : (Nat.beq a.1 3 && decide (1 ≤ a.2.1)) with
    | false => rw [hb] at h; cases h
    | true =>
      rw [hb, cond_true] at h
      cases h
      rw [Bool.and_eq_true, decide_eq_true_eq] at hb
      have e := gW_ref q.1 (Nat.eq_of_beq_eq_true hb.1)
      obtain ⟨j, hj⟩ : ∃ j, a.2.1.toNat = j + 1 := ⟨a.2.1.toNat - 1, by omega⟩
      rw [hj] at e ⊢
      subst e
      exact out1 Fr_rfl rfl ⟨aF2_set i g1 ⟨(aRef_ok (s := s) (ls := ls) (M := M)).1, Or.inl rfl, Or.inl rfl⟩, set_org h1, g3⟩
  · cases h
def a_bin (c nx : Nat) : aF := fun S => match S.2.1 with
  | y :: x :: r => bif Nat.ble x.1 2 && Nat.ble y.1 2 then aGo nx (S.1, clS (aBin c x y) :: r, S.2.2) else none
  | _ => none
theorem clS_ok {s : Nat → Int} {ls : List pV} {M : pM} {a : aV} {z : Int} (h1 : gR a z) (h2 : gY s a (.inl z)) : gW (clS a) (.inl z) ∧ gY s (clS a) (.inl z) ∧ gO ls M (clS a) (.inl z) := ⟨Or.inl ⟨z, rfl, h1⟩, h2, Or.inl rfl⟩
theorem as_bin {c nx : Nat} : aSnd E (s_bin (fBin c) nx) (a_bin c nx) := by
  rintro ⟨L, K, ov⟩ outs h s A0 ls st M ⟨g1, g2, g3⟩ X Y hY
  unfold a_bin at h
  dsimp only at h g1 g2 g3
  split at h
  · rename_i y x as
    obtain ⟨vy, r1, rfl, qy, h1⟩ := aF2_cons g2
    obtain ⟨vx, r, rfl, qx, h2⟩ := aF2_cons h1
    cases hb : (Nat.ble x.1 2 && Nat.ble y.1 2) with
    | false => rw [hb] at h; cases h
    | true =>
      rw [hb, cond_true] at h
      cases h
      rw [Bool.and_eq_true] at hb
      obtain ⟨zx, rfl, rx⟩ := gW_int qx.1 (Nat.le_of_ble_eq_true hb.1)
      obtain ⟨zy, rfl, ry⟩ := gW_int qy.1 (Nat.le_of_ble_eq_true hb.2)
      have := aBin_ok c rx ry qx.2.1
      exact out1 Fr_rfl rfl ⟨g1, ⟨clS_ok this.1 this.2, h2⟩, g3⟩
  · cases h
def a_div (c nx : Nat) : aF := fun S => match S.2.1 with
  | y :: x :: r => bif Nat.ble x.1 2 && Nat.ble y.1 2 && nz y then aGo nx (S.1, clS (aDiv c x y) :: r, S.2.2) else none
  | _ => none
theorem as_div {c nx : Nat} : aSnd E (s_div (fDiv c) nx) (a_div c nx) := by
  rintro ⟨L, K, ov⟩ outs h s A0 ls st M ⟨g1, g2, g3⟩ X Y hY
  unfold a_div at h
  dsimp only at h g1 g2 g3
  split at h
  · rename_i y x as
    obtain ⟨vy, r1, rfl, qy, h1⟩ := aF2_cons g2
    obtain ⟨vx, r, rfl, qx, h2⟩ := aF2_cons h1
    cases hb : (Nat.ble x.1 2 && Nat.ble y.1 2 && nz y) with
    | false => rw [hb] at h; cases h
    | true =>
      rw [hb, cond_true] at h
      cases h
      rw [Bool.and_eq_true, Bool.and_eq_true] at hb
      obtain ⟨zx, rfl, rx⟩ := gW_int qx.1 (Nat.le_of_ble_eq_true hb.1.1)
      obtain ⟨zy, rfl, ry⟩ := gW_int qy.1 (Nat.le_of_ble_eq_true hb.1.2)
      have := aDiv_ok c rx ry
      exact out1 Fr_rfl (if_neg (nz_ok hb.2 ry)) ⟨g1, ⟨clS_ok this.1 (Or.inl this.2), h2⟩, g3⟩
  · cases h
def a_un (c nx : Nat) : aF := fun S => match S.2.1 with
  | x :: r => bif Nat.ble x.1 2 then aGo nx (S.1, clS (aUn c x) :: r, S.2.2) else none
  | _ => none
theorem as_un {c nx : Nat} : aSnd E (s_un (fUn c) nx) (a_un c nx) := by
  rintro ⟨L, K, ov⟩ outs h s A0 ls st M ⟨g1, g2, g3⟩ X Y hY
  unfold a_un at h
  dsimp only at h g1 g2 g3
  split at h
  · rename_i x as
    obtain ⟨vx, r, rfl, qx, h1⟩ := aF2_cons g2
    cases hb : Nat.ble x.1 2 with
    | false => rw [hb] at h; cases h
    | true =>
      rw [hb, cond_true] at h
      cases h
      obtain ⟨zx, rfl, rx⟩ := gW_int qx.1 (Nat.le_of_ble_eq_true hb)
      have := aUn_ok c rx
      exact out1 Fr_rfl rfl ⟨g1, ⟨clS_ok this.1 (Or.inl this.2), h1⟩, g3⟩
  · cases h
def a_mm (c nx : Nat) : aF := fun S => match S.2.1 with
  | y :: x :: r => bif Nat.ble x.1 2 && Nat.ble y.1 2 && Nat.ble r.length 8 then aGo nx (S.1, clS (aMm c x y) :: r, S.2.2) else none
  | _ => none
theorem as_mm {c nx : Nat} : aSnd E (s_mm (fMm c) nx) (a_mm c nx) := by
  rintro ⟨L, K, ov⟩ outs h s A0 ls st M ⟨g1, g2, g3⟩ X Y hY
  unfold a_mm at h
  dsimp only at h g1 g2 g3
  split at h
  · rename_i y x as
    obtain ⟨vy, r1, rfl, qy, h1⟩ := aF2_cons g2
    obtain ⟨vx, r, rfl, qx, h2⟩ := aF2_cons h1
    cases hb : (Nat.ble x.1 2 && Nat.ble y.1 2 && Nat.ble as.length 8) with
    | false => rw [hb] at h; cases h
    | true =>
      rw [hb, cond_true] at h
      cases h
      rw [Bool.and_eq_true, Bool.and_eq_true] at hb
      obtain ⟨zx, rfl, rx⟩ := gW_int qx.1 (Nat.le_of_ble_eq_true hb.1.1)
      obtain ⟨zy, rfl, ry⟩ := gW_int qy.1 (Nat.le_of_ble_eq_true hb.1.2)
      have := aMm_ok c rx ry
      have hl := hb.2
      rw [aF2_len h2] at hl
      refine out1 Fr_rfl (ls' := ls) (st' := .inl (fMm c zx zy) :: r) (M' := M) ?_ ⟨g1, ⟨clS_ok this.1 (Or.inl this.2), h2⟩, g3⟩
      unfold s_mm
      dsimp only
      rw [hl, cond_true]
  · cases h
def a_inc (i : Nat) (c : Int) (nx : Nat) : aF := fun S => let a := S.1.getD i aN
  bif Nat.ble a.1 2 then aGo nx (S.1.set i (clS (aAdd a (aR c c))), S.2.1.map (clL i), S.2.2) else none
theorem as_inc {i nx : Nat} {c : Int} : aSnd E (s_inc i c nx) (a_inc i c nx) := by
  intro S outs h s A0 ls st M g X Y hY
  unfold a_inc at h
  dsimp only at h
  cases hb : Nat.ble (S.1.getD i aN).1 2 with
  | false => rw [hb] at h; cases h
  | true =>
    rw [hb, cond_true] at h
    cases h
    have b1 := Nat.le_of_ble_eq_true hb
    have q := loc_at g.1 (i := i) (by omega)
    obtain ⟨z, e, r⟩ := gW_int q.1 b1
    rw [e] at q
    have t := aAdd_ok (y := aR c c) (zy := c) r (aR_ok (Int.le_refl _) (Int.le_refl _)) q.2.1
    refine out1 Fr_rfl (ls' := ls.set i (.inl (z + c))) (st' := st) (M' := M) (by unfold s_inc; rw [e]) ⟨aF2_set i g.1 ⟨Or.inl ⟨_, rfl, t.1⟩, t.2, Or.inl rfl⟩, set_org g.2.1, g.2.2⟩
def aBr (E : aE) (c : Nat) (x y : aV) (S : eS) (pc : Nat) : List aO := match rfn c x y with
  | none => []
  | some q => [.inr (pc, aUpd E.1 (aUpd E.1 S x.2.2.2.2.2 q.1) y.2.2.2.2.2 q.2)]
theorem aBr_ok (hE : aWF E) {s : Nat → Int} {A0 ls st : List pV} {M : pM} {S : eS} {X : pX} {q : Option pR} {c pc : Nat} {x y : aV} {zx zy : Int} (g : gS E s A0 S ls st M) (rx : gR x zx) (ry : gR y zy) (ox : gO ls M x (.inl zx)) (oy : gO ls M y (.inl zy)) (h : cmp c zx zy) (e : q = X pc ls st M) {l : List aO} (hl : ∀ o, o ∈ aBr E c x y S pc → o ∈ l) : aOut E l s A0 ls M X q := by
  obtain ⟨x', y', e1, r1, r2⟩ := rfn_ok rx ry h
  have hm : (.inr (pc, aUpd E.1 (aUpd E.1 S x.2.2.2.2.2 x') y.2.2.2.2.2 y') : aO) ∈ l := hl _ (by unfold aBr; rw [e1]; exact List.mem_singleton.mpr rfl)
  exact ⟨_, hm, M, Fr_rfl, Or.inr ⟨_, _, ls, st, rfl, e, aUpd_ok hE (aUpd_ok hE g ox r1) oy r2⟩⟩
def a_if (E : aE) (c tgt nx : Nat) : aF := fun S => match S.2.1 with
  | x :: r => bif Nat.ble x.1 2 && Nat.ble c 5 then some (aBr E c x (aR 0 0) (S.1, r, S.2.2) tgt ++ aBr E (cng c) x (aR 0 0) (S.1, r, S.2.2) nx) else none
  | _ => none
theorem as_if (hE : aWF E) {P : Int → Prop} {dP : DecidablePred P} {c tgt nx : Nat} (hP : ∀ z, P z ↔ cmp c z 0) : aSnd E (s_if P dP tgt nx) (a_if E c tgt nx) := by
  rintro ⟨L, K, ov⟩ outs h s A0 ls st M ⟨g1, g2, g3⟩ X Y hY
  unfold a_if at h
  dsimp only at h g1 g2 g3
  split at h
  · rename_i x as
    obtain ⟨vx, r, rfl, qx, h1⟩ := aF2_cons g2
    cases hb : (Nat.ble x.1 2 && Nat.ble c 5) with
    | false => rw [hb] at h; cases h
    | true =>
      rw [hb, cond_true] at h
      cases h
      rw [Bool.and_eq_true] at hb
      obtain ⟨zx, rfl, rx⟩ := gW_int qx.1 (Nat.le_of_ble_eq_true hb.1)
      have hc := Nat.le_of_ble_eq_true hb.2
      have r0 : gR (aR 0 0) 0 := aR_ok (by decide) (by decide)
      by_cases p : P zx
      · exact aBr_ok hE (S := (L, as, ov)) ⟨g1, h1, g3⟩ rx r0 qx.2.2 (Or.inl rfl) ((hP zx).mp p) (if_pos p) (fun o ho => List.mem_append_left _ ho)
      · exact aBr_ok hE (S := (L, as, ov)) ⟨g1, h1, g3⟩ rx r0 qx.2.2 (Or.inl rfl) (cng_ok (by omega) (fun w => p ((hP zx).mpr w))) (if_neg p) (fun o ho => List.mem_append_right _ ho)
  · cases h
/-- both are so far from one symbol: then the answer is known -/
def symNo (c : Nat) (x y : aV) : Bool := aIn x && aIn y && !(Nat.beq x.2.2.2.1 0) && Nat.beq x.2.2.2.1 y.2.2.2.1 && Nat.ble (x.2.2.2.1 + 1) 1000000 && !(match c with
  | 0 => decide (x.2.2.2.2.1 = y.2.2.2.2.1)
  | 1 => !(decide (x.2.2.2.2.1 = y.2.2.2.2.1))
  | 2 => decide (x.2.2.2.2.1 < y.2.2.2.2.1)
  | 3 => decide (x.2.2.2.2.1 ≤ y.2.2.2.2.1)
  | 4 => decide (y.2.2.2.2.1 < x.2.2.2.2.1)
  | _ => decide (y.2.2.2.2.1 ≤ x.2.2.2.2.1))
theorem symNo_ok {c : Nat} {s : Nat → Int} {x y : aV} {zx zy : Int} (hx : gR x zx) (hy : gR y zy) (yx : gY s x (.inl zx)) (yy : gY s y (.inl zy)) (h : cmp c zx zy) : symNo c x y = false := by
  cases hb : symNo c x y with
  | false => rfl
  | true =>
    exfalso
    unfold symNo at hb
    simp only [Bool.and_eq_true] at hb
    obtain ⟨⟨⟨⟨⟨b1, b2⟩, b3⟩, b4⟩, b5⟩, b6⟩ := hb
    have qx := gR_in b1 hx
    have qy := gR_in b2 hy
    have e := Nat.eq_of_beq_eq_true b4
    have l := Nat.le_of_ble_eq_true b5
    have n0 : x.2.2.2.1 ≠ 0 := fun z => by rw [z] at b3; cases b3
    have ex : zx = s x.2.2.2.1 + x.2.2.2.2.1 := by
      rcases yx with y1 | ⟨-, y1⟩ | ⟨y1, -⟩
      · exact absurd y1 n0
      · exact Sum.inl.inj y1
      · omega
    have ey : zy = s x.2.2.2.1 + y.2.2.2.2.1 := by
      rcases yy with y1 | ⟨-, y1⟩ | ⟨y1, -⟩
      · omega
      · rw [e]; exact Sum.inl.inj y1
      · omega
    unfold cmp at h
    split at h
    · rw [iv_eq (by omega) (by omega) (by omega) (by omega)] at h
      have : x.2.2.2.2.1 = y.2.2.2.2.1 := by omega
      simp [this] at b6
    · rw [iv_eq (by omega) (by omega) (by omega) (by omega)] at h
      have : ¬ x.2.2.2.2.1 = y.2.2.2.2.1 := by omega
      simp [this] at b6
    · rw [iv_lt (by omega) (by omega) (by omega) (by omega)] at h
      have : x.2.2.2.2.1 < y.2.2.2.2.1 := by omega
      simp [this] at b6
    · rw [iv_le (by omega) (by omega) (by omega) (by omega)] at h
      have : x.2.2.2.2.1 ≤ y.2.2.2.2.1 := by omega
      simp [this] at b6
    · rw [iv_lt (by omega) (by omega) (by omega) (by omega)] at h
      have : y.2.2.2.2.1 < x.2.2.2.2.1 := by omega
      simp [this] at b6
    · rw [iv_le (by omega) (by omega) (by omega) (by omega)] at h
      have : y.2.2.2.2.1 ≤ x.2.2.2.2.1 := by omega
      simp [this] at b6
    · exact h
def brS (E : aE) (c : Nat) (x y : aV) (S : eS) (pc : Nat) : List aO := bif symNo c x y then [] else aBr E c x y S pc
def a_if2 (E : aE) (c tgt nx : Nat) : aF := fun S => match S.2.1 with
  | y :: x :: r => bif Nat.ble x.1 2 && Nat.ble y.1 2 && Nat.ble c 5 then some (brS E c x y (S.1, r, S.2.2) tgt ++ brS E (cng c) x y (S.1, r, S.2.2) nx) else none
  | _ => none
theorem as_if2 (hE : aWF E) {P : Int → Int → Prop} {dP : ∀ x y, Decidable (P x y)} {c tgt nx : Nat} (hP : ∀ x y, P x y ↔ cmp c x y) : aSnd E (s_if2 P dP tgt nx) (a_if2 E c tgt nx) := by
  rintro ⟨L, K, ov⟩ outs h s A0 ls st M ⟨g1, g2, g3⟩ X Y hY
  unfold a_if2 at h
  dsimp only at h g1 g2 g3
  split at h
  · rename_i y x as
    obtain ⟨vy, r1, rfl, qy, h1⟩ := aF2_cons g2
    obtain ⟨vx, r, rfl, qx, h2⟩ := aF2_cons h1
    cases hb : (Nat.ble x.1 2 && Nat.ble y.1 2 && Nat.ble c 5) with
    | false => rw [hb] at h; cases h
    | true =>
      rw [hb, cond_true] at h
      cases h
      rw [Bool.and_eq_true, Bool.and_eq_true] at hb
      obtain ⟨zx, rfl, rx⟩ := gW_int qx.1 (Nat.le_of_ble_eq_true hb.1.1)
      obtain ⟨zy, rfl, ry⟩ := gW_int qy.1 (Nat.le_of_ble_eq_true hb.1.2)
      have hc := Nat.le_of_ble_eq_true hb.2
      by_cases p : P zx zy
      · have hp := (hP zx zy).mp p
        exact aBr_ok hE (S := (L, as, ov)) ⟨g1, h2, g3⟩ rx ry qx.2.2 qy.2.2 hp (if_pos p) (fun o ho => List.mem_append_left _ (by unfold brS; rw [symNo_ok rx ry qx.2.1 qy.2.1 hp]; exact ho))
      · have hp := cng_ok (c := c) (x := zx) (y := zy) (by omega) (fun w => p ((hP zx zy).mpr w))
        exact aBr_ok hE (S := (L, as, ov)) ⟨g1, h2, g3⟩ rx ry qx.2.2 qy.2.2 hp (if_neg p) (fun o ho => List.mem_append_right _ (by unfold brS; rw [symNo_ok rx ry qx.2.1 qy.2.1 hp]; exact ho))
  · cases h
def a_goto (tgt : Nat) : aF := fun S => aGo tgt S
theorem as_goto {tgt : Nat} : aSnd E (s_goto tgt) (a_goto tgt) := by
  intro S outs h s A0 ls st M g X Y hY
  cases h
  exact out1 Fr_rfl rfl g
def a_dup (nx : Nat) : aF := fun S => match S.2.1 with
  | a :: r => aGo nx (S.1, a :: a :: r, S.2.2)
  | _ => none
theorem as_dup {nx : Nat} : aSnd E (s_dup nx) (a_dup nx) := by
  rintro ⟨L, K, ov⟩ outs h s A0 ls st M ⟨g1, g2, g3⟩ X Y hY
  unfold a_dup at h
  dsimp only at h g1 g2 g3
  split at h
  · obtain ⟨v, r, rfl, q, h1⟩ := aF2_cons g2
    cases h
    exact out1 Fr_rfl rfl ⟨g1, ⟨q, q, h1⟩, g3⟩
  · cases h
def a_dup2 (nx : Nat) : aF := fun S => match S.2.1 with
  | a :: b :: r => aGo nx (S.1, a :: b :: a :: b :: r, S.2.2)
  | _ => none
theorem as_dup2 {nx : Nat} : aSnd E (s_dup2 nx) (a_dup2 nx) := by
  rintro ⟨L, K, ov⟩ outs h s A0 ls st M ⟨g1, g2, g3⟩ X Y hY
  unfold a_dup2 at h
  dsimp only at h g1 g2 g3
  split at h
  · obtain ⟨v, r1, rfl, q, h1⟩ := aF2_cons g2
    obtain ⟨v2, r, rfl, q2, h2⟩ := aF2_cons h1
    cases h
    exact out1 Fr_rfl rfl ⟨g1, ⟨q, q2, q, q2, h2⟩, g3⟩
  · cases h
def a_dupx1 (nx : Nat) : aF := fun S => match S.2.1 with
  | a :: b :: r => aGo nx (S.1, a :: b :: a :: r, S.2.2)
  | _ => none
theorem as_dupx1 {nx : Nat} : aSnd E (s_dupx1 nx) (a_dupx1 nx) := by
  rintro ⟨L, K, ov⟩ outs h s A0 ls st M ⟨g1, g2, g3⟩ X Y hY
  unfold a_dupx1 at h
  dsimp only at h g1 g2 g3
  split at h
  · obtain ⟨v, r1, rfl, q, h1⟩ := aF2_cons g2
    obtain ⟨v2, r, rfl, q2, h2⟩ := aF2_cons h1
    cases h
    exact out1 Fr_rfl rfl ⟨g1, ⟨q, q2, q, h2⟩, g3⟩
  · cases h
def a_pop (nx : Nat) : aF := fun S => match S.2.1 with
  | _ :: r => aGo nx (S.1, r, S.2.2)
  | _ => none
theorem as_pop {nx : Nat} : aSnd E (s_pop nx) (a_pop nx) := by
  rintro ⟨L, K, ov⟩ outs h s A0 ls st M ⟨g1, g2, g3⟩ X Y hY
  unfold a_pop at h
  dsimp only at h g1 g2 g3
  split at h
  · obtain ⟨v, r, rfl, q, h1⟩ := aF2_cons g2
    cases h
    exact out1 Fr_rfl rfl ⟨g1, h1, g3⟩
  · cases h
def a_ifnull (tgt nx : Nat) : aF := fun S => match S.2.1 with
  | a :: r => bif Nat.beq a.1 3 && decide (1 ≤ a.2.1) then aGo (bif Nat.beq a.2.1.toNat 1 then tgt else nx) (S.1, r, S.2.2) else none
  | _ => none
theorem as_ifnull {tgt nx : Nat} : aSnd E (s_ifnull tgt nx) (a_ifnull tgt nx) := by
  rintro ⟨L, K, ov⟩ outs h s A0 ls st M ⟨g1, g2, g3⟩ X Y hY
  unfold a_ifnull at h
  dsimp only at h g1 g2 g3
  split at h
  · rename_i a as
    obtain ⟨v, r, rfl, q, h1⟩ := aF2_cons g2
    cases hb : (Nat.beq a.1 3 && decide (1 ≤ a.2.1)) with
    | false => rw [hb] at h; cases h
    | true =>
      rw [hb, cond_true] at h
      rw [Bool.and_eq_true, decide_eq_true_eq] at hb
      have e := gW_ref q.1 (Nat.eq_of_beq_eq_true hb.1)
      obtain ⟨j, hj⟩ : ∃ j, a.2.1.toNat = j + 1 := ⟨a.2.1.toNat - 1, by omega⟩
      rw [hj] at e h
      subst e
      cases j with
      | zero => cases h; exact out1 Fr_rfl rfl ⟨g1, h1, g3⟩
      | succ j => cases h; exact out1 Fr_rfl rfl ⟨g1, h1, g3⟩
  · cases h
end STEPS
end
section
/-! fields, rows, calls, ends -/
section STEPS2
variable {E : aE}
def isR (a : aV) : Bool := Nat.beq a.1 3 && decide (2 ≤ a.2.1)
def obj (a : aV) : Nat := a.2.1.toNat - 2
theorem isR_ok {a : aV} {v : pV} (h : isR a = true) (g : gW a v) : v = .inr (obj a + 2) := by
  unfold isR at h
  rw [Bool.and_eq_true, decide_eq_true_eq] at h
  rw [gW_ref g (Nat.eq_of_beq_eq_true h.1)]
  unfold obj
  congr 1
  omega
def a_getf (E : aE) (ci k nx : Nat) : aF := fun S => match S.2.1 with
  | a :: r => bif isR a && Nat.beq (pK (obj a)) ci && Nat.ble (k + 1) (pL (obj a)) && Nat.ble k 63 then (match pFk ci k with
    | 0 => let v := lkP E.1 S.2.2 (obj a) k; bif Nat.ble v.1 2 then aGo nx (S.1, (v.1, v.2.1, v.2.2.1, v.2.2.2.1, v.2.2.2.2.1, 64 + (64 * obj a + k)) :: r, S.2.2) else none
    | 1 => let v := lkP E.1 S.2.2 (obj a) k; bif Nat.ble v.1 2 then aGo nx (S.1, (v.1, v.2.1, v.2.2.1, v.2.2.2.1, v.2.2.2.2.1, 64 + (64 * obj a + k)) :: r, S.2.2) else none
    | 2 => aGo nx (S.1, aRef (pFr (obj a) k + 2) :: r, S.2.2)
    | 3 => let v := lkP E.1 S.2.2 (obj a) k; bif Nat.beq v.1 0 && decide (v.2.1 = v.2.2.1) then aGo nx (S.1, aRef v.2.1.toNat :: r, S.2.2) else none
    | _ => none) else none
  | _ => none
theorem as_getf (hE : aWF E) {ci k nx : Nat} : aSnd E (s_getf ci k nx) (a_getf E ci k nx) := by
  rintro ⟨L, K, ov⟩ outs h s A0 ls st M ⟨g1, g2, g3, g4⟩ X Y hY
  unfold a_getf at h
  dsimp only at h g1 g2 g3 g4
  split at h
  · rename_i a as
    obtain ⟨v, r, rfl, q, h1⟩ := aF2_cons g2
    cases hb : (isR a && Nat.beq (pK (obj a)) ci && Nat.ble (k + 1) (pL (obj a)) && Nat.ble k 63) with
    | false => rw [hb] at h; cases h
    | true =>
      rw [hb, cond_true] at h
      simp only [Bool.and_eq_true] at hb
      obtain ⟨⟨⟨b1, b2⟩, b3⟩, b4⟩ := hb
      have e := isR_ok b1 q.1
      subst e
      have b5 := Nat.eq_of_beq_eq_true b2
      have b6 : k < pL (obj a) := Nat.le_of_ble_eq_true b3
      have b7 : k ≤ 63 := Nat.le_of_ble_eq_true b4
      have hs : s_getf ci k nx X Y ls (.inr (obj a + 2) :: r) M = X nx ls (pfv (obj a) k M :: r) M := by
        unfold s_getf
        dsimp only
        rw [b2, cond_true]
      rw [hs]
      have hl := lkP_ok hE g3 (o := obj a) (k := k) g4
      have hl1 := hl.1 b6
      have o1 : (64 + (64 * obj a + k) - 64) / 64 = obj a := by omega
      have o2 : (64 + (64 * obj a + k) - 64) % 64 = k := by omega
      unfold pfv
      rw [b5]
      split at h
      · rename_i e0
        rw [e0]
        cases h2 : Nat.ble (lkP E.1 ov (obj a) k).1 2 with
        | false => rw [h2] at h; cases h
        | true =>
          rw [h2, cond_true] at h
          cases h
          refine out1 Fr_rfl rfl ⟨g1, ⟨⟨Or.inl ⟨_, rfl, hl1⟩, hl.2, Or.inr (Or.inr ⟨Nat.le_add_right _ _, ?_⟩)⟩, h1⟩, g3, g4⟩
          show (Sum.inl _ : pV) = .inl (M ((64 + (64 * obj a + k) - 64) / 64) ((64 + (64 * obj a + k) - 64) % 64))
          rw [o1, o2]
      · rename_i e0
        rw [e0]
        cases h2 : Nat.ble (lkP E.1 ov (obj a) k).1 2 with
        | false => rw [h2] at h; cases h
        | true =>
          rw [h2, cond_true] at h
          cases h
          refine out1 Fr_rfl rfl ⟨g1, ⟨⟨Or.inl ⟨_, rfl, hl1⟩, hl.2, Or.inr (Or.inr ⟨Nat.le_add_right _ _, ?_⟩)⟩, h1⟩, g3, g4⟩
          show (Sum.inl _ : pV) = .inl (M ((64 + (64 * obj a + k) - 64) / 64) ((64 + (64 * obj a + k) - 64) % 64))
          rw [o1, o2]
      · rename_i e0
        rw [e0]
        cases h
        exact out1 Fr_rfl rfl ⟨g1, ⟨aRef_ok, h1⟩, g3, g4⟩
      · rename_i e0
        rw [e0]
        cases h2 : (Nat.beq (lkP E.1 ov (obj a) k).1 0 && decide ((lkP E.1 ov (obj a) k).2.1 = (lkP E.1 ov (obj a) k).2.2.1)) with
        | false => rw [h2] at h; cases h
        | true =>
          rw [h2, cond_true] at h
          cases h
          rw [Bool.and_eq_true, decide_eq_true_eq] at h2
          have e1 := Nat.eq_of_beq_eq_true h2.1
          have e2 : M (obj a) k = (lkP E.1 ov (obj a) k).2.1 := by
            rcases hl1 with w | w | w <;> omega
          refine out1 (ls' := ls) (st' := .inr (lkP E.1 ov (obj a) k).2.1.toNat :: r) (M' := M) Fr_rfl ?_ ⟨g1, ⟨aRef_ok, h1⟩, g3, g4⟩
          rw [e2]
          rfl
      · cases h
  · cases h
theorem gM_set (hE : aWF E) {M : pM} {o k : Nat} {z : Int} (g : gM E.1 M) (h : gR (E.1 o k) z) : gM E.1 (pset M o k z) := by
  intro o' k' hk
  unfold pset
  split
  · rename_i e
    rw [e.1, e.2]; exact h
  · exact g o' k' hk
def a_puti (E : aE) (ci k nx : Nat) : aF := fun S => match S.2.1 with
  | v :: a :: r => bif isR a && Nat.beq (pK (obj a)) ci && Nat.ble v.1 2 && leR v (E.1 (obj a) k) && cov [(obj a, k)] E.2.2.2 then
      aGo nx (S.1, r.map (clM [(obj a, k)]), (obj a, k, clS v) :: dlW S.2.2 [(obj a, k)]) else none
  | _ => none
theorem put_ok (hE : aWF E) {s : Nat → Int} {A0 ls : List pV} {M : pM} {L : List aV} {ov : aP} {as : List aV} {r : List pV} {o k : Nat} {v : aV} {z : Int} (g1 : aF2 (fun a v => gW a v ∧ gY s a v ∧ gL A0 a v) L ls) (h1 : aF2 (fun a v => gW a v ∧ gY s a v ∧ gO ls M a v) as r) (g3 : gM E.1 M) (g4 : gP s ov M) (rz : gR v z) (sz : gY s v (.inl z)) (hl : leR v (E.1 o k) = true) : gS E s A0 (L, as.map (clM [(o, k)]), (o, k, clS v) :: dlW ov [(o, k)]) ls r (pset M o k z) := by
  refine ⟨g1, Fr_loc Fr_pset h1, gM_set hE g3 (leR_R hl rz (hE.1 o k).2), ?_⟩
  intro e he
  rcases List.mem_cons.mp he with rfl | he
  · show gR (clS v) (pset M o k z o k) ∧ gY s (clS v) (.inl (pset M o k z o k))
    rw [pset_eq]
    exact ⟨rz, sz⟩
  · exact Fr_ov Fr_pset g4 e he
theorem as_puti (hE : aWF E) {ci k nx : Nat} : aSnd E (s_puti ci k nx) (a_puti E ci k nx) := by
  rintro ⟨L, K, ov⟩ outs h s A0 ls st M ⟨g1, g2, g3, g4⟩ X Y hY
  unfold a_puti at h
  dsimp only at h g1 g2 g3 g4
  split at h
  · rename_i v a as
    obtain ⟨vz, r1, rfl, qv, h1⟩ := aF2_cons g2
    obtain ⟨va, r, rfl, qa, h2⟩ := aF2_cons h1
    cases hb : (isR a && Nat.beq (pK (obj a)) ci && Nat.ble v.1 2 && leR v (E.1 (obj a) k) && cov [(obj a, k)] E.2.2.2) with
    | false => rw [hb] at h; cases h
    | true =>
      rw [hb, cond_true] at h
      simp only [Bool.and_eq_true] at hb
      obtain ⟨⟨⟨⟨b1, b2⟩, b3⟩, b4⟩, b5⟩ := hb
      have e := isR_ok b1 qa.1
      subst e
      obtain ⟨z, rfl, rz⟩ := gW_int qv.1 (Nat.le_of_ble_eq_true b3)
      cases h
      refine out1 (cov_ok b5 Fr_pset) ?_ (put_ok hE g1 h2 g3 g4 rz qv.2.1 b4)
      unfold s_puti
      dsimp only
      rw [b2, cond_true]
  · cases h
def a01 (v : aV) : Bool := Nat.beq v.1 0 && decide (0 ≤ v.2.1) && decide (v.2.2.1 ≤ 1)
theorem a01_ok {v : aV} {z : Int} (h : a01 v = true) (g : gR v z) : z = 0 ∨ z = 1 := by
  unfold a01 at h
  simp only [Bool.and_eq_true, decide_eq_true_eq] at h
  have e1 := Nat.eq_of_beq_eq_true h.1.1
  rcases g with w | w | w <;> omega
def a_putz (E : aE) (ci k nx : Nat) : aF := fun S => match S.2.1 with
  | v :: a :: r => bif isR a && Nat.beq (pK (obj a)) ci && a01 v && leR v (E.1 (obj a) k) && cov [(obj a, k)] E.2.2.2 then
      aGo nx (S.1, r.map (clM [(obj a, k)]), (obj a, k, clS v) :: dlW S.2.2 [(obj a, k)]) else none
  | _ => none
theorem a01_le {v : aV} (h : a01 v = true) : v.1 ≤ 2 := by
  unfold a01 at h
  simp only [Bool.and_eq_true, decide_eq_true_eq] at h
  have e1 := Nat.eq_of_beq_eq_true h.1.1
  omega
theorem as_putz (hE : aWF E) {ci k nx : Nat} : aSnd E (s_putz ci k nx) (a_putz E ci k nx) := by
  rintro ⟨L, K, ov⟩ outs h s A0 ls st M ⟨g1, g2, g3, g4⟩ X Y hY
  unfold a_putz at h
  dsimp only at h g1 g2 g3 g4
  split at h
  · rename_i v a as
    obtain ⟨vz, r1, rfl, qv, h1⟩ := aF2_cons g2
    obtain ⟨va, r, rfl, qa, h2⟩ := aF2_cons h1
    cases hb : (isR a && Nat.beq (pK (obj a)) ci && a01 v && leR v (E.1 (obj a) k) && cov [(obj a, k)] E.2.2.2) with
    | false => rw [hb] at h; cases h
    | true =>
      rw [hb, cond_true] at h
      simp only [Bool.and_eq_true] at hb
      obtain ⟨⟨⟨⟨b1, b2⟩, b3⟩, b4⟩, b5⟩ := hb
      have e := isR_ok b1 qa.1
      subst e
      obtain ⟨z, rfl, rz⟩ := gW_int qv.1 (a01_le b3)
      cases h
      refine out1 (cov_ok b5 Fr_pset) ?_ (put_ok hE g1 h2 g3 g4 rz qv.2.1 b4)
      unfold s_putz
      dsimp only
      rw [b2, cond_true, if_pos (a01_ok b3 rz)]
  · cases h
def a_putr (E : aE) (ci k tk nx : Nat) : aF := fun S => match S.2.1 with
  | v :: a :: r => bif isR a && isR v && Nat.beq (pK (obj a)) ci && Nat.beq (pK (obj v)) tk && leR (aR (obj v + 2 : Nat) (obj v + 2 : Nat)) (E.1 (obj a) k) && cov [(obj a, k)] E.2.2.2 then
      aGo nx (S.1, r.map (clM [(obj a, k)]), (obj a, k, clS (aR (obj v + 2 : Nat) (obj v + 2 : Nat))) :: dlW S.2.2 [(obj a, k)]) else none
  | _ => none
theorem as_putr (hE : aWF E) {ci k tk nx : Nat} : aSnd E (s_putr ci k tk nx) (a_putr E ci k tk nx) := by
  rintro ⟨L, K, ov⟩ outs h s A0 ls st M ⟨g1, g2, g3, g4⟩ X Y hY
  unfold a_putr at h
  dsimp only at h g1 g2 g3 g4
  split at h
  · rename_i v a as
    obtain ⟨vz, r1, rfl, qv, h1⟩ := aF2_cons g2
    obtain ⟨va, r, rfl, qa, h2⟩ := aF2_cons h1
    cases hb : (isR a && isR v && Nat.beq (pK (obj a)) ci && Nat.beq (pK (obj v)) tk && leR (aR (obj v + 2 : Nat) (obj v + 2 : Nat)) (E.1 (obj a) k) && cov [(obj a, k)] E.2.2.2) with
    | false => rw [hb] at h; cases h
    | true =>
      rw [hb, cond_true] at h
      simp only [Bool.and_eq_true] at hb
      obtain ⟨⟨⟨⟨⟨b1, b0⟩, b2⟩, b3⟩, b4⟩, b5⟩ := hb
      have e := isR_ok b1 qa.1
      subst e
      have e := isR_ok b0 qv.1
      subst e
      cases h
      refine out1 (M' := pset M (obj a) k (Int.ofNat (obj v + 2))) (cov_ok b5 Fr_pset) ?_ (put_ok hE g1 h2 g3 g4 (aR_ok (Int.le_refl _) (Int.le_refl _)) (Or.inl rfl) b4)
      unfold s_putr
      dsimp only
      rw [b2, b3]
      rfl
  · cases h
def ixI (i : aV) (o : Nat) : Bool := Nat.beq i.1 0 && decide (0 ≤ i.2.1) && decide (i.2.2.1 < Int.ofNat (pL o))
theorem ixI_ok {i : aV} {o : Nat} {z : Int} (h : ixI i o = true) (g : gR i z) : 0 ≤ z ∧ z < Int.ofNat (pL o) := by
  unfold ixI at h
  simp only [Bool.and_eq_true, decide_eq_true_eq] at h
  have e1 := Nat.eq_of_beq_eq_true h.1.1
  rcases g with w | w | w <;> omega
theorem ixI_le {i : aV} {o : Nat} (h : ixI i o = true) : i.1 ≤ 2 := by
  unfold ixI at h
  simp only [Bool.and_eq_true, decide_eq_true_eq] at h
  have e1 := Nat.eq_of_beq_eq_true h.1.1
  omega
def clA (a : aV) : aV := (a.1, a.2.1, a.2.2.1, 0, 0, 0)
def ixK (i : aV) (d : Nat) : Nat := bif decide (i.2.1 = i.2.2.1) then i.2.1.toNat else d
theorem ixI_one {i : aV} {o : Nat} {z : Int} (h : ixI i o = true) (g : gR i z) (e : i.2.1 = i.2.2.1) : z = i.2.1 := by
  unfold ixI at h
  simp only [Bool.and_eq_true, decide_eq_true_eq] at h
  have e1 := Nat.eq_of_beq_eq_true h.1.1
  rcases g with w | w | w <;> omega
theorem ixK_rd (hE : aWF E) {i : aV} {o : Nat} {z w : Int} (h : ixI i o = true) (g : gR i z) (ho : 100 ≤ pK o) (hz : z.toNat < pL o) (m : gR (E.1 o z.toNat) w) : gR (E.1 o (ixK i 100000)) w := by
  unfold ixK
  by_cases e : i.2.1 = i.2.2.1
  · rw [decide_eq_true e, cond_true, ← ixI_one h g e]
    exact m
  · rw [decide_eq_false e, cond_false]
    exact (hE.2 o z.toNat ho hz w).1 m
theorem ixK_wr (hE : aWF E) {i : aV} {o : Nat} {z w : Int} (h : ixI i o = true) (g : gR i z) (ho : 100 ≤ pK o) (hz : z.toNat < pL o) (m : gR (E.1 o (ixK i 100001)) w) : gR (E.1 o z.toNat) w := by
  unfold ixK at m
  by_cases e : i.2.1 = i.2.2.1
  · rw [decide_eq_true e, cond_true, ← ixI_one h g e] at m
    exact m
  · rw [decide_eq_false e, cond_false] at m
    exact (hE.2 o z.toNat ho hz w).2 m
def a_get (E : aE) (kd nx : Nat) : aF := fun S => match S.2.1 with
  | i :: a :: r => bif isR a && Nat.beq (pK (obj a)) kd && Nat.ble 100 kd && ixI i (obj a) then
      (bif decide (i.2.1 = i.2.2.1) && Nat.ble i.2.1.toNat 63 then (let v := lkP E.1 S.2.2 (obj a) i.2.1.toNat
        aGo nx (S.1, (v.1, v.2.1, v.2.2.1, v.2.2.2.1, v.2.2.2.2.1, 64 + (64 * obj a + i.2.1.toNat)) :: r, S.2.2))
      else aGo nx (S.1, clA (E.1 (obj a) (ixK i 100000)) :: r, S.2.2)) else none
  | _ => none
theorem as_get (hE : aWF E) {kd nx : Nat} : aSnd E (s_get kd nx) (a_get E kd nx) := by
  rintro ⟨L, K, ov⟩ outs h s A0 ls st M ⟨g1, g2, g3, g4⟩ X Y hY
  unfold a_get at h
  dsimp only at h g1 g2 g3 g4
  split at h
  · rename_i i a as
    obtain ⟨vi, r1, rfl, qi, h1⟩ := aF2_cons g2
    obtain ⟨va, r, rfl, qa, h2⟩ := aF2_cons h1
    cases hb : (isR a && Nat.beq (pK (obj a)) kd && Nat.ble 100 kd && ixI i (obj a)) with
    | false => rw [hb] at h; cases h
    | true =>
      rw [hb, cond_true] at h
      simp only [Bool.and_eq_true] at hb
      obtain ⟨⟨⟨b1, b2⟩, b3⟩, b4⟩ := hb
      have e := isR_ok b1 qa.1
      subst e
      obtain ⟨z, rfl, rz⟩ := gW_int qi.1 (ixI_le b4)
      have b5 := ixI_ok b4 rz
      have b6 := Nat.eq_of_beq_eq_true b2
      have b7 := Nat.le_of_ble_eq_true b3
      have hz : z.toNat < pL (obj a) := by
        have : Int.ofNat (pL (obj a)) = (pL (obj a) : Int) := rfl
        omega
      have hs : s_get kd nx X Y ls (.inl z :: .inr (obj a + 2) :: r) M = X nx ls (.inl (M (obj a) z.toNat) :: r) M := by
        unfold s_get
        dsimp only
        rw [b2, cond_true, if_pos b5]
      rw [hs]
      cases hc : (decide (i.2.1 = i.2.2.1) && Nat.ble i.2.1.toNat 63) with
      | true =>
        rw [hc, cond_true] at h
        rw [Bool.and_eq_true, decide_eq_true_eq] at hc
        have c1 := ixI_one b4 rz hc.1
        have c2 := Nat.le_of_ble_eq_true hc.2
        cases h
        rw [← c1] at c2 ⊢
        have hl := lkP_ok hE g3 (o := obj a) (k := z.toNat) g4
        refine out1 Fr_rfl rfl ⟨g1, ⟨⟨Or.inl ⟨_, rfl, hl.1 hz⟩, hl.2, Or.inr (Or.inr ⟨Nat.le_add_right _ _, ?_⟩)⟩, h2⟩, g3, g4⟩
        show (Sum.inl _ : pV) = .inl (M ((64 + (64 * obj a + z.toNat) - 64) / 64) ((64 + (64 * obj a + z.toNat) - 64) % 64))
        rw [show (64 + (64 * obj a + z.toNat) - 64) / 64 = obj a by omega, show (64 + (64 * obj a + z.toNat) - 64) % 64 = z.toNat by omega]
      | false =>
        rw [hc, cond_false] at h
        cases h
        have hm := ixK_rd hE b4 rz (by omega) hz (g3 (obj a) z.toNat hz)
        exact out1 Fr_rfl rfl ⟨g1, ⟨⟨Or.inl ⟨_, rfl, hm⟩, Or.inl rfl, Or.inl rfl⟩, h2⟩, g3, g4⟩
  · cases h
/-- where a row is written: one place of it, if it is known -/
def wIx (i : aV) (o : Nat) : Nat × Nat := (o, bif decide (i.2.1 = i.2.2.1) && Nat.ble i.2.1.toNat 63 then i.2.1.toNat else 999)
def wOv (i v : aV) (o : Nat) (ov : aP) : aP := bif decide (i.2.1 = i.2.2.1) && Nat.ble i.2.1.toNat 63 then (o, i.2.1.toNat, clA v) :: dlW ov [wIx i o] else dlW ov [wIx i o]
theorem wIx_fr {i : aV} {o : Nat} {z w : Int} {M : pM} (h : ixI i o = true) (g : gR i z) : Fr [wIx i o] M (pset M o z.toNat w) := by
  unfold wIx
  cases hc : (decide (i.2.1 = i.2.2.1) && Nat.ble i.2.1.toNat 63) with
  | true =>
    rw [Bool.and_eq_true, decide_eq_true_eq] at hc
    rw [cond_true, ← ixI_one h g hc.1]
    exact Fr_pset
  | false => exact Fr_pset9
theorem set_ok (hE : aWF E) {s : Nat → Int} {A0 ls : List pV} {M : pM} {L : List aV} {ov : aP} {as : List aV} {r : List pV} {o : Nat} {i v : aV} {z w : Int} (g1 : aF2 (fun a v => gW a v ∧ gY s a v ∧ gL A0 a v) L ls) (h1 : aF2 (fun a v => gW a v ∧ gY s a v ∧ gO ls M a v) as r) (g3 : gM E.1 M) (g4 : gP s ov M) (hi : ixI i o = true) (rz : gR i z) (hl : gR (E.1 o z.toNat) w) (hw : gR v w) : gS E s A0 (L, as.map (clM [wIx i o]), wOv i v o ov) ls r (pset M o z.toNat w) := by
  have f := wIx_fr (M := M) (w := w) hi rz
  refine ⟨g1, Fr_loc f h1, gM_set hE g3 hl, ?_⟩
  have g5 := Fr_ov f g4
  intro e he
  change e ∈ wOv i v o ov at he
  unfold wOv at he
  cases hc : (decide (i.2.1 = i.2.2.1) && Nat.ble i.2.1.toNat 63) with
  | true =>
    rw [hc, cond_true] at he
    rcases List.mem_cons.mp he with rfl | he
    · rw [Bool.and_eq_true, decide_eq_true_eq] at hc
      have c1 := ixI_one hi rz hc.1
      show gR (clA v) (pset M o z.toNat w o i.2.1.toNat) ∧ gY s (clA v) _
      rw [← c1, pset_eq]
      exact ⟨hw, Or.inl rfl⟩
    · exact g5 e he
  | false =>
    rw [hc, cond_false] at he
    exact g5 e he
def a_set (E : aE) (kd c nx : Nat) : aF := fun S => match S.2.1 with
  | v :: i :: a :: r => let u := bif Nat.beq c 0 then v else aUn 1 v
      bif isR a && Nat.beq (pK (obj a)) kd && Nat.ble 100 kd && ixI i (obj a) && Nat.ble v.1 2 && leR u (E.1 (obj a) (ixK i 100001)) && cov [wIx i (obj a)] E.2.2.2 then
      aGo nx (S.1, r.map (clM [wIx i (obj a)]), wOv i u (obj a) S.2.2) else none
  | _ => none
def fSet (c : Nat) : Int → Int := match c with
  | 0 => fun v => v
  | _ => jb
theorem as_set (hE : aWF E) {kd c nx : Nat} : aSnd E (s_set kd (fSet c) nx) (a_set E kd c nx) := by
  rintro ⟨L, K, ov⟩ outs h s A0 ls st M ⟨g1, g2, g3, g4⟩ X Y hY
  unfold a_set at h
  dsimp only at h g1 g2 g3 g4
  split at h
  · rename_i v i a as
    obtain ⟨vv, r1, rfl, qv, h1⟩ := aF2_cons g2
    obtain ⟨vi, r2, rfl, qi, h2⟩ := aF2_cons h1
    obtain ⟨va, r, rfl, qa, h3⟩ := aF2_cons h2
    cases hb : (isR a && Nat.beq (pK (obj a)) kd && Nat.ble 100 kd && ixI i (obj a) && Nat.ble v.1 2 && leR (bif Nat.beq c 0 then v else aUn 1 v) (E.1 (obj a) (ixK i 100001)) && cov [wIx i (obj a)] E.2.2.2) with
    | false => rw [hb] at h; cases h
    | true =>
      rw [hb, cond_true] at h
      simp only [Bool.and_eq_true] at hb
      obtain ⟨⟨⟨⟨⟨⟨b1, b2⟩, b3⟩, b4⟩, b5⟩, b6⟩, b7⟩ := hb
      have e := isR_ok b1 qa.1
      subst e
      obtain ⟨z, rfl, rz⟩ := gW_int qi.1 (ixI_le b4)
      obtain ⟨w, rfl, rw1⟩ := gW_int qv.1 (Nat.le_of_ble_eq_true b5)
      have b8 := ixI_ok b4 rz
      have b9 := Nat.eq_of_beq_eq_true b2
      have b10 := Nat.le_of_ble_eq_true b3
      cases h
      have rw2 : gR (bif Nat.beq c 0 then v else aUn 1 v) (fSet c w) := by
        cases c with
        | zero => exact rw1
        | succ c => exact (aUn_ok 1 rw1).1
      have hz : z.toNat < pL (obj a) := by
        have : Int.ofNat (pL (obj a)) = (pL (obj a) : Int) := rfl
        omega
      refine out1 (cov_ok b7 (wIx_fr b4 rz)) ?_ (set_ok hE g1 h3 g3 g4 b4 rz (ixK_wr hE b4 rz (by omega) hz (leR_R b6 rw2 (hE.1 _ _).2)) rw2)
      unfold s_set
      dsimp only
      rw [b2, cond_true, if_pos b8]
  · cases h
def a_setz (E : aE) (nx : Nat) : aF := fun S => match S.2.1 with
  | v :: i :: a :: r => bif isR a && Nat.beq (pK (obj a)) 102 && ixI i (obj a) && a01 v && leR v (E.1 (obj a) (ixK i 100001)) && cov [wIx i (obj a)] E.2.2.2 then
      aGo nx (S.1, r.map (clM [wIx i (obj a)]), wOv i v (obj a) S.2.2) else none
  | _ => none
theorem as_setz (hE : aWF E) {nx : Nat} : aSnd E (s_setz nx) (a_setz E nx) := by
  rintro ⟨L, K, ov⟩ outs h s A0 ls st M ⟨g1, g2, g3, g4⟩ X Y hY
  unfold a_setz at h
  dsimp only at h g1 g2 g3 g4
  split at h
  · rename_i v i a as
    obtain ⟨vv, r1, rfl, qv, h1⟩ := aF2_cons g2
    obtain ⟨vi, r2, rfl, qi, h2⟩ := aF2_cons h1
    obtain ⟨va, r, rfl, qa, h3⟩ := aF2_cons h2
    cases hb : (isR a && Nat.beq (pK (obj a)) 102 && ixI i (obj a) && a01 v && leR v (E.1 (obj a) (ixK i 100001)) && cov [wIx i (obj a)] E.2.2.2) with
    | false => rw [hb] at h; cases h
    | true =>
      rw [hb, cond_true] at h
      simp only [Bool.and_eq_true] at hb
      obtain ⟨⟨⟨⟨⟨b1, b2⟩, b4⟩, b5⟩, b6⟩, b7⟩ := hb
      have e := isR_ok b1 qa.1
      subst e
      obtain ⟨z, rfl, rz⟩ := gW_int qi.1 (ixI_le b4)
      obtain ⟨w, rfl, rw1⟩ := gW_int qv.1 (a01_le b5)
      have b8 := ixI_ok b4 rz
      have b9 := Nat.eq_of_beq_eq_true b2
      cases h
      have hz : z.toNat < pL (obj a) := by
        have : Int.ofNat (pL (obj a)) = (pL (obj a) : Int) := rfl
        omega
      refine out1 (cov_ok b7 (wIx_fr b4 rz)) ?_ (set_ok hE g1 h3 g3 g4 b4 rz (ixK_wr hE b4 rz (by omega) hz (leR_R b6 rw1 (hE.1 _ _).2)) rw1)
      unfold s_setz
      dsimp only
      rw [b2, cond_true, if_pos b8, if_pos (a01_ok b5 rw1)]
  · cases h
def a_getq (nx : Nat) : aF := fun S => match S.2.1 with
  | i :: a :: r => bif isR a && Nat.beq (pK (obj a)) 103 && ixI i (obj a) then
      some ((List.range (pL (obj a))).map fun j => .inr (nx, (S.1, aRef (pFr (obj a) j + 2) :: r, S.2.2))) else none
  | _ => none
theorem as_getq {nx : Nat} : aSnd E (s_getq nx) (a_getq nx) := by
  rintro ⟨L, K, ov⟩ outs h s A0 ls st M ⟨g1, g2, g3, g4⟩ X Y hY
  unfold a_getq at h
  dsimp only at h g1 g2 g3 g4
  split at h
  · rename_i i a as
    obtain ⟨vi, r1, rfl, qi, h1⟩ := aF2_cons g2
    obtain ⟨va, r, rfl, qa, h2⟩ := aF2_cons h1
    cases hb : (isR a && Nat.beq (pK (obj a)) 103 && ixI i (obj a)) with
    | false => rw [hb] at h; cases h
    | true =>
      rw [hb, cond_true] at h
      simp only [Bool.and_eq_true] at hb
      obtain ⟨⟨b1, b2⟩, b4⟩ := hb
      have e := isR_ok b1 qa.1
      subst e
      obtain ⟨z, rfl, rz⟩ := gW_int qi.1 (ixI_le b4)
      have b5 := ixI_ok b4 rz
      have hz : z.toNat < pL (obj a) := by
        have : Int.ofNat (pL (obj a)) = (pL (obj a) : Int) := rfl
        omega
      cases h
      refine ⟨_, List.mem_map.mpr ⟨z.toNat, List.mem_range.mpr hz, rfl⟩, M, Fr_rfl, Or.inr ⟨_, _, ls, .inr (pFr (obj a) z.toNat + 2) :: r, rfl, ?_, g1, ⟨aRef_ok, h2⟩, g3, g4⟩⟩
      unfold s_getq
      dsimp only
      rw [b2, cond_true, if_pos b5]
  · cases h
def a_len (nx : Nat) : aF := fun S => match S.2.1 with
  | a :: r => bif isR a && (Nat.ble 100 (pK (obj a)) && Nat.ble (pK (obj a)) 103) then aGo nx (S.1, aR (Int.ofNat (pL (obj a))) (Int.ofNat (pL (obj a))) :: r, S.2.2) else none
  | _ => none
theorem as_len {nx : Nat} : aSnd E (s_len nx) (a_len nx) := by
  rintro ⟨L, K, ov⟩ outs h s A0 ls st M ⟨g1, g2, g3⟩ X Y hY
  unfold a_len at h
  dsimp only at h g1 g2 g3
  split at h
  · rename_i a as
    obtain ⟨va, r, rfl, qa, h2⟩ := aF2_cons g2
    cases hb : (isR a && (Nat.ble 100 (pK (obj a)) && Nat.ble (pK (obj a)) 103)) with
    | false => rw [hb] at h; cases h
    | true =>
      rw [hb, cond_true] at h
      rw [Bool.and_eq_true] at hb
      have e := isR_ok hb.1 qa.1
      subst e
      cases h
      refine out1 (ls' := ls) (st' := .inl (Int.ofNat (pL (obj a))) :: r) (M' := M) Fr_rfl ?_ ⟨g1, ⟨⟨Or.inl ⟨_, rfl, aR_ok (Int.le_refl _) (Int.le_refl _)⟩, Or.inl rfl, Or.inl rfl⟩, h2⟩, g3⟩
      unfold s_len
      dsimp only
      rw [hb.2, cond_true]
  · cases h
def a_sw (E : aE) (ps : List (Int × Nat)) (d : Nat) : aF := fun S => match S.2.1 with
  | x :: r => bif Nat.ble x.1 2 then some ((ps.flatMap fun q => aBr E 0 x (aR q.1 q.1) (S.1, r, S.2.2) q.2) ++ [.inr (d, S.1, r, S.2.2)]) else none
  | _ => none
theorem as_sw (hE : aWF E) {ps : List (Int × Nat)} {d : Nat} : aSnd E (s_sw ps d) (a_sw E ps d) := by
  rintro ⟨L, K, ov⟩ outs h s A0 ls st M ⟨g1, g2, g3⟩ X Y hY
  unfold a_sw at h
  dsimp only at h g1 g2 g3
  split at h
  · rename_i x as
    obtain ⟨vx, r, rfl, qx, h2⟩ := aF2_cons g2
    cases hb : Nat.ble x.1 2 with
    | false => rw [hb] at h; cases h
    | true =>
      rw [hb, cond_true] at h
      obtain ⟨z, rfl, rz⟩ := gW_int qx.1 (Nat.le_of_ble_eq_true hb)
      cases h
      have key : ∀ qs : List (Int × Nat), (∀ q, q ∈ qs → q ∈ ps) → aOut E ((ps.flatMap fun q => aBr E 0 x (aR q.1 q.1) (L, as, ov) q.2) ++ [.inr (d, L, as, ov)]) s A0 ls M X (qs.foldr (fun q e => if eq32 z q.1 then X q.2 ls r M else e) (X d ls r M)) := by
        intro qs
        induction qs with
        | nil => intro _; exact ⟨_, List.mem_append_right _ (List.mem_singleton.mpr rfl), M, Fr_rfl, Or.inr ⟨_, _, ls, r, rfl, rfl, g1, h2, g3⟩⟩
        | cons q qs ih =>
          intro hq
          rw [List.foldr_cons]
          by_cases c : eq32 z q.1
          · rw [if_pos c]
            exact aBr_ok hE (c := 0) (S := (L, as, ov)) (y := aR q.1 q.1) (zy := q.1) ⟨g1, h2, g3⟩ rz (aR_ok (Int.le_refl _) (Int.le_refl _)) qx.2.2 (Or.inl rfl) c rfl (fun o ho => List.mem_append_left _ (List.mem_flatMap.mpr ⟨q, hq q List.mem_cons_self, ho⟩))
          · rw [if_neg c]
            exact ih (fun q' h' => hq q' (List.mem_cons_of_mem _ h'))
      exact key ps (fun _ h => h)
  · cases h
def a_sfld (z : Int) (nx : Nat) : aF := fun S => match S.2.1 with
  | a :: r => bif Nat.beq a.1 3 && decide (a.2.1 = 93) then aGo nx (S.1, aR z z :: r, S.2.2) else none
  | _ => none
theorem as_sfld {z : Int} {nx : Nat} : aSnd E (s_sfld (.inl z) nx) (a_sfld z nx) := by
  rintro ⟨L, K, ov⟩ outs h s A0 ls st M ⟨g1, g2, g3⟩ X Y hY
  unfold a_sfld at h
  dsimp only at h g1 g2 g3
  split at h
  · rename_i a as
    obtain ⟨va, r, rfl, qa, h2⟩ := aF2_cons g2
    cases hb : (Nat.beq a.1 3 && decide (a.2.1 = 93)) with
    | false => rw [hb] at h; cases h
    | true =>
      rw [hb, cond_true] at h
      rw [Bool.and_eq_true, decide_eq_true_eq] at hb
      have e := gW_ref qa.1 (Nat.eq_of_beq_eq_true hb.1)
      rw [hb.2] at e
      subst e
      cases h
      exact out1 Fr_rfl rfl ⟨g1, ⟨⟨Or.inl ⟨_, rfl, aR_ok (Int.le_refl _) (Int.le_refl _)⟩, Or.inl rfl, Or.inl rfl⟩, h2⟩, g3⟩
  · cases h
def a_sfldr (n nx : Nat) : aF := fun S => match S.2.1 with
  | a :: r => bif Nat.beq a.1 3 && decide (a.2.1 = 93) then aGo nx (S.1, aRef n :: r, S.2.2) else none
  | _ => none
theorem as_sfldr {n nx : Nat} : aSnd E (s_sfld (.inr n) nx) (a_sfldr n nx) := by
  rintro ⟨L, K, ov⟩ outs h s A0 ls st M ⟨g1, g2, g3⟩ X Y hY
  unfold a_sfldr at h
  dsimp only at h g1 g2 g3
  split at h
  · rename_i a as
    obtain ⟨va, r, rfl, qa, h2⟩ := aF2_cons g2
    cases hb : (Nat.beq a.1 3 && decide (a.2.1 = 93)) with
    | false => rw [hb] at h; cases h
    | true =>
      rw [hb, cond_true] at h
      rw [Bool.and_eq_true, decide_eq_true_eq] at hb
      have e := gW_ref qa.1 (Nat.eq_of_beq_eq_true hb.1)
      rw [hb.2] at e
      subst e
      cases h
      exact out1 Fr_rfl rfl ⟨g1, ⟨aRef_ok, h2⟩, g3⟩
  · cases h
def a_slen (nx : Nat) : aF := fun S => match S.2.1 with
  | a :: r => bif Nat.beq a.1 3 && decide (a.2.1 = 94) then aGo nx (S.1, aR 9 9 :: r, S.2.2) else none
  | _ => none
theorem as_slen {nx : Nat} : aSnd E (s_slen nx) (a_slen nx) := by
  rintro ⟨L, K, ov⟩ outs h s A0 ls st M ⟨g1, g2, g3⟩ X Y hY
  unfold a_slen at h
  dsimp only at h g1 g2 g3
  split at h
  · rename_i a as
    obtain ⟨va, r, rfl, qa, h2⟩ := aF2_cons g2
    cases hb : (Nat.beq a.1 3 && decide (a.2.1 = 94)) with
    | false => rw [hb] at h; cases h
    | true =>
      rw [hb, cond_true] at h
      rw [Bool.and_eq_true, decide_eq_true_eq] at hb
      have e := gW_ref qa.1 (Nat.eq_of_beq_eq_true hb.1)
      rw [hb.2] at e
      subst e
      cases h
      exact out1 Fr_rfl rfl ⟨g1, ⟨⟨Or.inl ⟨_, rfl, aR_ok (Int.le_refl _) (Int.le_refl _)⟩, Or.inl rfl, Or.inl rfl⟩, h2⟩, g3⟩
  · cases h
def a_sbld (nx : Nat) : aF := fun S => match S.2.1 with
  | i :: a :: r => bif Nat.beq a.1 3 && decide (a.2.1 = 94) && Nat.beq i.1 0 && decide (0 ≤ i.2.1) && decide (i.2.2.1 < 9) then aGo nx (S.1, eT :: r, S.2.2) else none
  | _ => none
theorem as_sbld {nx : Nat} : aSnd E (s_sbld nx) (a_sbld nx) := by
  rintro ⟨L, K, ov⟩ outs h s A0 ls st M ⟨g1, g2, g3⟩ X Y hY
  unfold a_sbld at h
  dsimp only at h g1 g2 g3
  split at h
  · rename_i i a as
    obtain ⟨vi, r1, rfl, qi, h1⟩ := aF2_cons g2
    obtain ⟨va, r, rfl, qa, h2⟩ := aF2_cons h1
    cases hb : (Nat.beq a.1 3 && decide (a.2.1 = 94) && Nat.beq i.1 0 && decide (0 ≤ i.2.1) && decide (i.2.2.1 < 9)) with
    | false => rw [hb] at h; cases h
    | true =>
      rw [hb, cond_true] at h
      simp only [Bool.and_eq_true, decide_eq_true_eq] at hb
      obtain ⟨⟨⟨⟨b1, b2⟩, b3⟩, b4⟩, b5⟩ := hb
      have e := gW_ref qa.1 (Nat.eq_of_beq_eq_true b1)
      rw [b2] at e
      subst e
      have b6 := Nat.eq_of_beq_eq_true b3
      obtain ⟨z, rfl, rz⟩ := gW_int qi.1 (by omega)
      have b7 : 0 ≤ z ∧ z < 9 := by
        rcases rz with w | w | w <;> omega
      cases h
      refine out1 (ls' := ls) (st' := .inl (sbyt.getD z.toNat 0).toInt :: r) (M' := M) Fr_rfl ?_ ⟨g1, ⟨⟨Or.inl ⟨_, rfl, aT_ok (iv_can _)⟩, Or.inl rfl, Or.inl rfl⟩, h2⟩, g3⟩
      exact if_pos b7
  · cases h
def a_iret : aF := fun S => match S.2.1 with
  | [a] => bif Nat.ble a.1 2 then some [.inl (some a, S.1, [], S.2.2)] else none
  | _ => none
theorem as_iret : aSnd E s_iret a_iret := by
  rintro ⟨L, K, ov⟩ outs h s A0 ls st M ⟨g1, g2, g3⟩ X Y hY
  unfold a_iret at h
  dsimp only at h g1 g2 g3
  split at h
  · rename_i a
    obtain ⟨va, r, rfl, qa, h2⟩ := aF2_cons g2
    cases hb : Nat.ble a.1 2 with
    | false => rw [hb] at h; cases h
    | true =>
      rw [hb, cond_true] at h
      obtain ⟨z, rfl, rz⟩ := gW_int qa.1 (Nat.le_of_ble_eq_true hb)
      have e := aF2_nil h2
      subst e
      cases h
      exact ⟨_, List.mem_singleton.mpr rfl, M, Fr_rfl, Or.inl ⟨_, _, rfl, _, rfl, qa.1, g1, trivial, g3⟩⟩
  · cases h
def a_zret : aF := fun S => match S.2.1 with
  | [a] => bif a01 a then some [.inl (some a, S.1, [], S.2.2)] else none
  | _ => none
theorem as_zret : aSnd E s_zret a_zret := by
  rintro ⟨L, K, ov⟩ outs h s A0 ls st M ⟨g1, g2, g3⟩ X Y hY
  unfold a_zret at h
  dsimp only at h g1 g2 g3
  split at h
  · rename_i a
    obtain ⟨va, r, rfl, qa, h2⟩ := aF2_cons g2
    cases hb : a01 a with
    | false => rw [hb] at h; cases h
    | true =>
      rw [hb, cond_true] at h
      obtain ⟨z, rfl, rz⟩ := gW_int qa.1 (a01_le hb)
      have e := aF2_nil h2
      subst e
      cases h
      exact ⟨_, List.mem_singleton.mpr rfl, M, Fr_rfl, Or.inl ⟨_, _, rfl, _, if_pos (a01_ok hb rz), qa.1, g1, trivial, g3⟩⟩
  · cases h
def a_aret : aF := fun S => match S.2.1 with
  | [a] => bif Nat.beq a.1 3 && decide (1 ≤ a.2.1) then some [.inl (some a, S.1, [], S.2.2)] else none
  | _ => none
theorem as_aret : aSnd E s_aret a_aret := by
  rintro ⟨L, K, ov⟩ outs h s A0 ls st M ⟨g1, g2, g3⟩ X Y hY
  unfold a_aret at h
  dsimp only at h g1 g2 g3
  split at h
  · rename_i a
    obtain ⟨va, r, rfl, qa, h2⟩ := aF2_cons g2
    cases hb : (Nat.beq a.1 3 && decide (1 ≤ a.2.1)) with
    | false => rw [hb] at h; cases h
    | true =>
      rw [hb, cond_true] at h
      rw [Bool.and_eq_true, decide_eq_true_eq] at hb
      have e1 := gW_ref qa.1 (Nat.eq_of_beq_eq_true hb.1)
      obtain ⟨j, hj⟩ : ∃ j, a.2.1.toNat = j + 1 := ⟨a.2.1.toNat - 1, by omega⟩
      rw [hj] at e1
      subst e1
      have e := aF2_nil h2
      subst e
      cases h
      exact ⟨_, List.mem_singleton.mpr rfl, M, Fr_rfl, Or.inl ⟨_, _, rfl, _, rfl, qa.1, g1, trivial, g3⟩⟩
  · cases h
def a_vret : aF := fun S => match S.2.1 with
  | [] => some [.inl (none, S.1, [], S.2.2)]
  | _ => none
theorem as_vret : aSnd E s_vret a_vret := by
  rintro ⟨L, K, ov⟩ outs h s A0 ls st M ⟨g1, g2, g3⟩ X Y hY
  unfold a_vret at h
  dsimp only at h g1 g2 g3
  split at h
  · have e := aF2_nil g2
    subst e
    cases h
    exact ⟨_, List.mem_singleton.mpr rfl, M, Fr_rfl, Or.inl ⟨_, _, rfl, _, rfl, trivial, g1, trivial, g3⟩⟩
  · cases h
end STEPS2
end
section
/-! calls, by contract -/
section CALLS
variable {E : aE}
def leL : List aV → List aV → Bool
  | [], [] => true
  | a :: as, b :: bs => leR a b && leL as bs
  | _, _ => false
theorem leL_ok : ∀ {as bs : List aV} {vs : List pV}, leL as bs = true → aF2 gW as vs → aF2 gW bs vs
  | [], [], _, _, h => h
  | [], _ :: _, _, h, _ => by cases h
  | _ :: _, [], _, h, _ => by cases h
  | a :: as, b :: bs, v :: vs, h, g => by
    unfold leL at h
    rw [Bool.and_eq_true] at h
    exact ⟨leR_ok h.1 g.1, leL_ok h.2 g.2⟩
def leP (gG : Nat → Nat → aV) (ov p : aP) : Bool := p.all fun e => Nat.ble e.2.2.1 2 && Nat.ble (e.2.1 + 1) (pL e.1) && leR (lkP gG ov e.1 e.2.1) e.2.2
theorem leP_ok (hE : aWF E) {s : Nat → Int} {M : pM} (hm : gM E.1 M) {ov p : aP} (h : leP E.1 ov p = true) (g : gP s ov M) : gP0 p M := by
  intro e he
  unfold leP at h
  rw [List.all_eq_true] at h
  have := h e he
  simp only [Bool.and_eq_true] at this
  exact leR_R this.2 ((lkP_ok hE hm g).1 (Nat.le_of_ble_eq_true this.1.2)) (Nat.le_of_ble_eq_true this.1.1)
/-- what the call tells of its arguments: none, this can't be -/
def aRfs (gG : Nat → Nat → aV) : List aV → List aV → eS → Option eS
  | a :: as, r :: rs, S => bif Nat.beq r.1 0 then (bif Nat.beq a.1 0 then
      (let l := max a.2.1 r.2.1; let h := min a.2.2.1 r.2.2.1
       bif decide (l ≤ h) then aRfs gG as rs (aUpd gG S a.2.2.2.2.2 (aR l h)) else none)
      else aRfs gG as rs (aUpd gG S a.2.2.2.2.2 r)) else aRfs gG as rs S
  | _, _, S => some S
theorem aRfs_ok (hE : aWF E) {s : Nat → Int} {A0 ls st : List pV} {M : pM} : ∀ {as rs : List aV} {vs : List pV} {S : eS}, gS E s A0 S ls st M → aF2 (fun a v => gW a v ∧ gO ls M a v) as vs → (∀ j, j < rs.length → gW (rs.getD j aN) (vs.getD j (.inr 0))) → ∃ S', aRfs E.1 as rs S = some S' ∧ gS E s A0 S' ls st M
  | [], _, _, S, g, _, _ => ⟨S, by unfold aRfs; rfl, g⟩
  | _ :: _, [], _, S, g, _, _ => ⟨S, by unfold aRfs; rfl, g⟩
  | a :: as, r :: rs, v :: vs, S, g, h1, h2 => by
    have h3 : ∀ j, j < rs.length → gW (rs.getD j aN) (vs.getD j (.inr 0)) := fun j hj => by
      have := h2 (j + 1) (Nat.succ_lt_succ hj)
      rw [List.getD_cons_succ, List.getD_cons_succ] at this
      exact this
    have hr := h2 0 (Nat.succ_pos _)
    rw [List.getD_cons_zero, List.getD_cons_zero] at hr
    unfold aRfs
    cases hb : Nat.beq r.1 0 with
    | false => exact aRfs_ok hE g h1.2 h3
    | true =>
      rw [cond_true]
      have r0 := Nat.eq_of_beq_eq_true hb
      obtain ⟨z, e, rz⟩ := gW_int hr (by omega)
      subst e
      cases hc : Nat.beq a.1 0 with
      | false =>
        rw [cond_false]
        exact aRfs_ok hE (aUpd_ok hE g h1.1.2 rz) h1.2 h3
      | true =>
        rw [cond_true]
        have a0 := Nat.eq_of_beq_eq_true hc
        obtain ⟨z', e, az⟩ := gW_int h1.1.1 (by omega)
        cases e
        have b : max a.2.1 r.2.1 ≤ z ∧ z ≤ min a.2.2.1 r.2.2.1 := by
          rcases az with w | w | w
          · rcases rz with u | u | u
            · omega
            · omega
            · omega
          · omega
          · omega
        dsimp only
        rw [decide_eq_true (show max a.2.1 r.2.1 ≤ min a.2.2.1 r.2.2.1 by omega), cond_true]
        exact aRfs_ok hE (aUpd_ok hE g h1.1.2 (aR_ok b.1 b.2)) h1.2 h3
def lkO : aP → Nat → Nat → Option aV
  | [], _, _ => none
  | e :: r, o, k => bif Nat.beq e.1 o && Nat.beq e.2.1 k then some e.2.2 else lkO r o k
theorem lkO_ok {s : Nat → Int} {M : pM} : ∀ {ov : aP} {o k : Nat} {a : aV}, gP s ov M → lkO ov o k = some a → gR a (M o k) ∧ gY s a (.inl (M o k))
  | [], _, _, _, _, h => by cases h
  | e :: r, o, k, a, g, h => by
    unfold lkO at h
    cases hb : (Nat.beq e.1 o && Nat.beq e.2.1 k) with
    | true =>
      rw [hb, cond_true] at h
      cases h
      rw [Bool.and_eq_true] at hb
      have e1 : e.1 = o := Nat.eq_of_beq_eq_true hb.1
      have e2 : e.2.1 = k := Nat.eq_of_beq_eq_true hb.2
      have := g e List.mem_cons_self
      rw [e1, e2] at this
      exact this
    | false =>
      rw [hb, cond_false] at h
      exact lkO_ok (fun e he => g e (List.mem_cons_of_mem _ he)) h
/-- both are known of it -/
def mtV (a e : aV) : aV := bif k00 a e && decide (max a.2.1 e.2.1 ≤ min a.2.2.1 e.2.2.1) then (0, max a.2.1 e.2.1, min a.2.2.1 e.2.2.1, a.2.2.2.1, a.2.2.2.2.1, 0) else (e.1, e.2.1, e.2.2.1, a.2.2.2.1, a.2.2.2.2.1, 0)
theorem mtV_ok {s : Nat → Int} {a e : aV} {z : Int} (h1 : gR a z) (h2 : gY s a (.inl z)) (h3 : gR e z) : gR (mtV a e) z ∧ gY s (mtV a e) (.inl z) := by
  unfold mtV
  cases hb : (k00 a e && decide (max a.2.1 e.2.1 ≤ min a.2.2.1 e.2.2.1)) with
  | true =>
    rw [Bool.and_eq_true] at hb
    have := k00_ok hb.1 h1 h3
    exact ⟨Or.inl ⟨rfl, show max a.2.1 e.2.1 ≤ z by omega, show z ≤ min a.2.2.1 e.2.2.1 by omega⟩, h2⟩
  | false => exact ⟨h3, h2⟩
/-- it is so much greater than it was -/
def rlV (a e : aV) : aV := bif Nat.beq a.2.2.2.1 0 then clA e else bif Nat.ble 1000000 a.2.2.2.1 then (e.1, e.2.1, e.2.2.1, a.2.2.2.1, a.2.2.2.2.1 + e.2.2.2.2.1, 0) else (e.1, e.2.1, e.2.2.1, 1000000 + a.2.2.2.1, a.2.2.2.2.1 + e.2.2.2.2.1, 0)
theorem rlV_ok {s : Nat → Int} {a e : aV} {z w : Int} (h2 : gY s a (.inl z)) (h3 : gR e w) (h4 : z + e.2.2.2.2.1 ≤ w) : gR (rlV a e) w ∧ gY s (rlV a e) (.inl w) := by
  unfold rlV
  cases hb : Nat.beq a.2.2.2.1 0 with
  | true => exact ⟨h3, Or.inl rfl⟩
  | false =>
    rw [cond_false]
    have hn := Nat.ne_of_beq_eq_false hb
    cases hc : Nat.ble 1000000 a.2.2.2.1 with
    | true =>
      have hc2 := Nat.le_of_ble_eq_true hc
      refine ⟨h3, Or.inr (Or.inr ⟨hc2, w, rfl, ?_⟩)⟩
      show s (a.2.2.2.1 - 1000000) + (a.2.2.2.2.1 + e.2.2.2.2.1) ≤ w
      rcases h2 with h | ⟨h, -⟩ | ⟨-, z', e1, h⟩
      · omega
      · omega
      · have : z = z' := Sum.inl.inj e1
        omega
    | false =>
      have hc2 : a.2.2.2.1 < 1000000 := by
        rcases Nat.lt_or_ge a.2.2.2.1 1000000 with q | q
        · exact q
        · rw [Nat.ble_eq_true_of_le q] at hc; cases hc
      refine ⟨h3, Or.inr (Or.inr ⟨Nat.le_add_right _ _, w, rfl, ?_⟩)⟩
      show s (1000000 + a.2.2.2.1 - 1000000) + (a.2.2.2.2.1 + e.2.2.2.2.1) ≤ w
      rw [Nat.add_sub_cancel_left]
      rcases h2 with h | ⟨-, h⟩ | ⟨h, -⟩
      · omega
      · have : z = s a.2.2.2.1 + a.2.2.2.2.1 := Sum.inl.inj h
        omega
      · omega
/-- at least so much more than before -/
def loV (a e : aV) : aV := bif k00 a e then (0, max e.2.1 (a.2.1 + e.2.2.2.2.1), e.2.2.1, e.2.2.2.1, e.2.2.2.2.1, 0) else e
theorem loV_ok {a e : aV} {z w : Int} (h1 : gR a z) (h3 : gR e w) (h4 : z + e.2.2.2.2.1 ≤ w) : gR (loV a e) w ∧ (loV a e).2.2.2.2.1 = e.2.2.2.2.1 := by
  unfold loV
  cases hk : k00 a e with
  | false => exact ⟨h3, rfl⟩
  | true =>
    have h5 := hk
    unfold k00 at h5
    rw [Bool.and_eq_true] at h5
    have e1 := Nat.eq_of_beq_eq_true h5.1
    have e2 := Nat.eq_of_beq_eq_true h5.2
    rw [cond_true]
    refine ⟨Or.inl ⟨rfl, ?_, ?_⟩, rfl⟩
    · show max e.2.1 (a.2.1 + e.2.2.2.2.1) ≤ w
      rcases h1 with h1 | h1 | h1
      · rcases h3 with h3 | h3 | h3 <;> omega
      · omega
      · omega
    · show w ≤ e.2.2.1
      rcases h3 with h3 | h3 | h3 <;> omega
def newV (ov0 b : aP) (e : Nat × Nat × aV) : aV := bif Nat.beq e.2.2.2.2.2.1 0 then (match lkO b e.1 e.2.1 with
    | some a => mtV a e.2.2
    | none => clA e.2.2)
  else (match lkO ov0 e.1 e.2.1 with
    | some a => rlV a (loV a e.2.2)
    | none => clA e.2.2)
def addP (ov0 : aP) : aP → aP → aP
  | [], ov => ov
  | e :: p, ov => (e.1, e.2.1, newV ov0 (addP ov0 p ov) e) :: dlP (addP ov0 p ov) e.1 e.2.1
theorem addP_ok {s : Nat → Int} {M M' : pM} {ov0 : aP} (g0 : gP s ov0 M) : ∀ {p ov : aP}, gP1 M p M' → gP s ov M' → gP s (addP ov0 p ov) M'
  | [], _, _, g => g
  | e :: p, ov, h, g => by
    have ih := addP_ok g0 (p := p) (ov := ov) (fun y hy => h y (List.mem_cons_of_mem _ hy)) g
    intro x hx
    rcases List.mem_cons.mp hx with rfl | hx
    · have he := h e List.mem_cons_self
      show gR (newV ov0 (addP ov0 p ov) e) (M' e.1 e.2.1) ∧ gY s (newV ov0 (addP ov0 p ov) e) (.inl (M' e.1 e.2.1))
      unfold newV
      cases hb : Nat.beq e.2.2.2.2.2.1 0 with
      | true =>
        rw [cond_true]
        split
        · rename_i a ha
          have := lkO_ok ih ha
          exact mtV_ok this.1 this.2 he.1
        · exact ⟨he.1, Or.inl rfl⟩
      | false =>
        rw [cond_false]
        have hn := Nat.ne_of_beq_eq_false hb
        split
        · rename_i a ha
          have := lkO_ok g0 ha
          rcases he.2 with q | q
          · exact absurd q hn
          · have l := loV_ok this.1 he.1 q
            exact rlV_ok this.2 l.1 (by rw [l.2]; exact q)
        · exact ⟨he.1, Or.inl rfl⟩
    · exact ih x (List.mem_filter.mp hx).1
/-- what is told of a place agrees with what is known of it -/
def feasE (ov : aP) (e : Nat × Nat × aV) : Bool := match lkO ov e.1 e.2.1 with
  | none => true
  | some a => !(k00 a e.2.2) || decide (max a.2.1 e.2.2.2.1 ≤ min a.2.2.1 e.2.2.2.2.1)
theorem feas_ok {s : Nat → Int} {M M' : pM} {ov p : aP} (g : gP s ov M') (h : gP1 M p M') : p.all (feasE ov) = true := by
  rw [List.all_eq_true]
  intro e he
  unfold feasE
  split
  · rfl
  · rename_i a ha
    have r := (lkO_ok g ha).1
    have r2 := (h e he).1
    cases hk : k00 a e.2.2 with
    | false => rfl
    | true =>
      have := k00_ok hk r r2
      rw [decide_eq_true (by omega)]
      rfl
/-- none of the ranges is empty -/
def neE (e : Nat × Nat × aV) : Bool := !(Nat.beq e.2.2.1 0) || decide (e.2.2.2.1 ≤ e.2.2.2.2.1)
theorem ne_ok {s : Nat → Int} {M : pM} {ov : aP} (g : gP s ov M) : ov.all neE = true := by
  rw [List.all_eq_true]
  intro e he
  unfold neE
  have r := (g e he).1
  cases hb : Nat.beq e.2.2.1 0 with
  | false => rfl
  | true =>
    have h0 := Nat.eq_of_beq_eq_true hb
    have : e.2.2.2.1 ≤ e.2.2.2.2.1 := by
      rcases r with r | r | r
      · omega
      · omega
      · omega
    rw [decide_eq_true this]; rfl
def aEnd (kd nx : Nat) (q : Option aV) (S : eS) : Option (List aO) := match kd with
  | 0 => match q with
    | none => aGo nx S
    | some _ => none
  | 1 => match q with
    | some a => bif Nat.ble a.1 2 then aGo nx (S.1, clA a :: S.2.1, S.2.2) else none
    | none => none
  | _ => match q with
    | some a => bif Nat.beq a.1 3 && decide (1 ≤ a.2.1) then aGo nx (S.1, aRef a.2.1.toNat :: S.2.1, S.2.2) else none
    | none => none
def aAlt (E : aE) (ov0 : aP) (kd nx : Nat) (args : List aV) (S : eS) (t : aA) : Option (List aO) := match aRfs E.1 args t.2.1 S with
  | none => some []
  | some S2 => bif t.2.2.all (feasE S2.2.2) && (addP ov0 t.2.2 S2.2.2).all neE then aEnd kd nx t.1 (S2.1, S2.2.1, addP ov0 t.2.2 S2.2.2) else some []
def aAlts (E : aE) (ov0 : aP) (kd nx : Nat) (args : List aV) (S : eS) : List aA → Option (List aO)
  | [] => some []
  | t :: ts => match aAlt E ov0 kd nx args S t, aAlts E ov0 kd nx args S ts with
    | some l1, some l2 => some (l1 ++ l2)
    | _, _ => none
def aCall (E : aE) (kd k nx : Nat) (args : List aV) (S : eS) : Option (List aO) :=
  match (E.2.1.get k).find? (fun c => Nat.ble (c.1 + 1) E.2.2.1 && leL args c.2.1 && leP E.1 S.2.2 c.2.2.1 && cov c.2.2.2.1 E.2.2.2) with
  | none => none
  | some c => aAlts E S.2.2 kd nx (args.map (clM c.2.2.2.1)) (S.1, S.2.1.map (clM c.2.2.2.1), dlW S.2.2 c.2.2.2.1) c.2.2.2.2
theorem aAlts_mem {ov0 : aP} {kd nx : Nat} {args : List aV} {S : eS} : ∀ {ts : List aA} {outs : List aO}, aAlts E ov0 kd nx args S ts = some outs → ∀ t, t ∈ ts → ∃ l, aAlt E ov0 kd nx args S t = some l ∧ ∀ o, o ∈ l → o ∈ outs
  | [], _, _, t, ht => by cases ht
  | t' :: ts, outs, h, t, ht => by
    unfold aAlts at h
    split at h
    · rename_i l1 l2 e1 e2
      cases h
      rcases List.mem_cons.mp ht with rfl | ht
      · exact ⟨l1, e1, fun o ho => List.mem_append_left _ ho⟩
      · obtain ⟨l, e3, h3⟩ := aAlts_mem e2 t ht
        exact ⟨l, e3, fun o ho => List.mem_append_right _ (h3 o ho)⟩
    · cases h
theorem aCall_ok (hE : aWF E) {kd k nx : Nat} {args : List aV} {vs : List pV} {S : eS} {outs : List aO} (h : aCall E kd k nx args S = some outs) {s : Nat → Int} {A0 ls r : List pV} {M : pM} (g : gS E s A0 S ls r M) (ga : aF2 (fun a v => gW a v ∧ gY s a v ∧ gO ls M a v) args vs) {X : pX} {Y : pY} (hY : aYK E Y) : aOut E outs s A0 ls M X (pbk kd (Y k vs M) X nx ls r) := by
  unfold aCall at h
  split at h
  · cases h
  · rename_i c hc
    have hm := List.mem_of_find?_eq_some hc
    have hp := List.find?_some hc
    simp only [Bool.and_eq_true] at hp
    obtain ⟨⟨⟨p1, p2⟩, p3⟩, p4⟩ := hp
    have p5 : c.1 < E.2.2.1 := Nat.le_of_ble_eq_true p1
    obtain ⟨g1, g2, g3, g4⟩ := g
    obtain ⟨rv, M', e, m1, m2, t, ht, q1, q2, q3⟩ := hY k c hm p5 vs M (leL_ok p2 (aF2_mono (fun a v q => q.1) ga)) g3 (leP_ok hE g3 p3 g4)
    obtain ⟨l, hl, hl2⟩ := aAlts_mem h t ht
    have G : gS E s A0 (S.1, S.2.1.map (clM c.2.2.2.1), dlW S.2.2 c.2.2.2.1) ls r M' := ⟨g1, Fr_loc m2 g2, m1, Fr_ov m2 g4⟩
    unfold aAlt at hl
    obtain ⟨S2, e2, G2⟩ := aRfs_ok hE (as := args.map (clM c.2.2.2.1)) (rs := t.2.1) G (aF2_mono (fun a v q => ⟨q.1, q.2.2⟩) (Fr_loc m2 ga)) q2
    rw [e2] at hl
    dsimp only at hl
    obtain ⟨k1, k2, k3, k4⟩ := G2
    have k5 := addP_ok g4 q3 k4
    rw [feas_ok k4 q3, ne_ok k5, Bool.true_and, cond_true] at hl
    rw [e]
    have fin : ∀ {S' : eS} {st' : List pV}, l = [.inr (nx, S')] → gS E s A0 S' ls st' M' → pbk kd (some (rv, M')) X nx ls r = X nx ls st' M' → aOut E outs s A0 ls M X (pbk kd (some (rv, M')) X nx ls r) := by
      intro S' st' e1 G3 e3
      subst e1
      exact ⟨_, hl2 _ (List.mem_singleton.mpr rfl), M', cov_ok p4 m2, Or.inr ⟨nx, S', ls, st', rfl, e3, G3⟩⟩
    unfold aEnd at hl
    split at hl
    · split at hl
      · rename_i e4
        rw [e4] at q1
        cases rv with
        | some v => exact q1.elim
        | none => exact fin (Option.some.inj hl).symm ⟨k1, k2, k3, k5⟩ rfl
      · cases hl
    · split at hl
      · rename_i a e4
        rw [e4] at q1
        cases rv with
        | none => exact q1.elim
        | some v =>
          cases hb : Nat.ble a.1 2 with
          | false => rw [hb] at hl; cases hl
          | true =>
            rw [hb, cond_true] at hl
            obtain ⟨z, rfl, rz⟩ := gW_int q1 (Nat.le_of_ble_eq_true hb)
            exact fin (st' := .inl z :: r) (Option.some.inj hl).symm ⟨k1, ⟨⟨Or.inl ⟨z, rfl, rz⟩, Or.inl rfl, Or.inl rfl⟩, k2⟩, k3, k5⟩ rfl
      · cases hl
    · rename_i n1 n2
      split at hl
      · rename_i a e4
        rw [e4] at q1
        cases rv with
        | none => exact q1.elim
        | some v =>
          cases hb : (Nat.beq a.1 3 && decide (1 ≤ a.2.1)) with
          | false => rw [hb] at hl; cases hl
          | true =>
            rw [hb, cond_true] at hl
            rw [Bool.and_eq_true, decide_eq_true_eq] at hb
            have e1 := gW_ref q1 (Nat.eq_of_beq_eq_true hb.1)
            obtain ⟨j, hj⟩ : ∃ j, a.2.1.toNat = j + 1 := ⟨a.2.1.toNat - 1, by omega⟩
            rw [hj] at e1 hl
            subst e1
            refine fin (st' := .inr (j + 1) :: r) (Option.some.inj hl).symm ⟨k1, ⟨aRef_ok, k2⟩, k3, k5⟩ ?_
            rcases kd with _ | _ | kd
            · exact absurd rfl n1
            · exact absurd rfl n2
            · rfl
      · cases hl
def a_callS (E : aE) (kd k n nx : Nat) : aF := fun S => bif Nat.ble n S.2.1.length && Nat.ble S.2.1.length 8 then aCall E kd k nx (S.2.1.take n).reverse (S.1, S.2.1.drop n, S.2.2) else none
theorem as_callS (hE : aWF E) {kd k n nx : Nat} : aSnd E (s_callS kd k n nx) (a_callS E kd k n nx) := by
  rintro ⟨L, K, ov⟩ outs h s A0 ls st M ⟨g1, g2, g3⟩ X Y hY
  unfold a_callS at h
  dsimp only at h g1 g2 g3
  have hl := aF2_len g2
  cases hb : (Nat.ble n K.length && Nat.ble K.length 8) with
  | false => rw [hb] at h; cases h
  | true =>
    rw [hb, cond_true] at h
    have := aCall_ok hE h (S := (L, K.drop n, ov)) ⟨g1, aF2_drop n g2, g3⟩ (aF2_rev (aF2_take n g2)) (X := X) hY
    unfold s_callS
    rw [← hl, hb, cond_true]
    exact this
def a_callV (E : aE) (kd ci k n nx : Nat) : aF := fun S => match S.2.1.drop n with
  | a :: r => bif isR a && Nat.beq (pK (obj a)) ci && Nat.ble S.2.1.length 8 then aCall E kd k nx (clS a :: (S.2.1.take n).reverse) (S.1, r, S.2.2) else none
  | _ => none
theorem as_callV (hE : aWF E) {kd ci k n nx : Nat} : aSnd E (s_callV kd ci k n nx) (a_callV E kd ci k n nx) := by
  rintro ⟨L, K, ov⟩ outs h s A0 ls st M ⟨g1, g2, g3⟩ X Y hY
  unfold a_callV at h
  dsimp only at h g1 g2 g3
  have hl := aF2_len g2
  have hd := aF2_drop n g2
  split at h
  · rename_i a as e
    rw [e] at hd
    obtain ⟨v, r, e2, qa, h2⟩ := aF2_cons hd
    cases hb : (isR a && Nat.beq (pK (obj a)) ci && Nat.ble K.length 8) with
    | false => rw [hb] at h; cases h
    | true =>
      rw [hb, cond_true] at h
      simp only [Bool.and_eq_true] at hb
      have e3 := isR_ok hb.1.1 qa.1
      subst e3
      have := aCall_ok hE h (S := (L, as, ov)) (vs := .inr (obj a + 2) :: (st.take n).reverse) ⟨g1, h2, g3⟩ ⟨⟨qa.1, qa.2.1, Or.inl rfl⟩, aF2_rev (aF2_take n g2)⟩ (X := X) hY
      unfold s_callV
      rw [e2]
      dsimp only
      rw [hb.1.2, ← hl, hb.2]
      exact this
  · cases h
def a_callW (E : aE) (kd k n nx : Nat) : aF := fun S => match S.2.1.drop n with
  | a :: r => bif Nat.beq a.1 3 && decide (a.2.1 = 93) && Nat.ble S.2.1.length 8 then aCall E kd k nx (clS a :: (S.2.1.take n).reverse) (S.1, r, S.2.2) else none
  | _ => none
theorem as_callW (hE : aWF E) {kd k n nx : Nat} : aSnd E (s_callW kd k n nx) (a_callW E kd k n nx) := by
  rintro ⟨L, K, ov⟩ outs h s A0 ls st M ⟨g1, g2, g3⟩ X Y hY
  unfold a_callW at h
  dsimp only at h g1 g2 g3
  have hl := aF2_len g2
  have hd := aF2_drop n g2
  split at h
  · rename_i a as e
    rw [e] at hd
    obtain ⟨v, r, e2, qa, h2⟩ := aF2_cons hd
    cases hb : (Nat.beq a.1 3 && decide (a.2.1 = 93) && Nat.ble K.length 8) with
    | false => rw [hb] at h; cases h
    | true =>
      rw [hb, cond_true] at h
      simp only [Bool.and_eq_true, decide_eq_true_eq] at hb
      have e3 := gW_ref qa.1 (Nat.eq_of_beq_eq_true hb.1.1)
      rw [hb.1.2] at e3
      subst e3
      have := aCall_ok hE h (S := (L, as, ov)) (vs := .inr 93 :: (st.take n).reverse) ⟨g1, h2, g3⟩ ⟨⟨qa.1, qa.2.1, Or.inl rfl⟩, aF2_rev (aF2_take n g2)⟩ (X := X) hY
      unfold s_callW
      rw [e2]
      show aOut E outs s A0 ls M X (bif Nat.ble st.length 8 then pbk kd (Y k (.inr 93 :: (st.take n).reverse) M) X nx ls r else none)
      rw [← hl, hb.2]
      exact this
  · cases h
end CALLS
end
section
/-! a whole method: from its entry and from each place that has a note, to its ends or to places that have notes; a measure falls -/
abbrev aM : Type := Int × List (Int × Nat)
abbrev aAnn : Type := List (Nat × List (eS × aM))
def sg (ls : List pV) (M : pM) (n : Nat) : Int := if n < 64 then (match ls.getD (n - 1) (.inr 0) with
  | .inl z => z
  | .inr _ => 0) else M ((n - 64) / 64) ((n - 64) % 64)
def smM (f : Nat → Int) : List (Int × Nat) → Int
  | [] => 0
  | e :: r => e.1 * f e.2 + smM f r
def mV (m : aM) (f : Nat → Int) : Int := m.1 + smM f m.2
def srcA (gG : Nat → Nat → aV) (S : eS) (n : Nat) : Option aV := bif Nat.ble 1 n && Nat.ble n 63 then
    (bif Nat.ble (S.1.getD (n - 1) aN).1 2 then some (S.1.getD (n - 1) aN) else none)
  else bif Nat.ble 64 n && Nat.ble ((n - 64) % 64 + 1) (pL ((n - 64) / 64)) then some (lkP gG S.2.2 ((n - 64) / 64) ((n - 64) % 64)) else none
section EXPL
variable {E : aE}
theorem srcA_ok (hE : aWF E) {s : Nat → Int} {A0 ls st : List pV} {M : pM} {S : eS} {n : Nat} {a : aV} (h : srcA E.1 S n = some a) (g : gS E s A0 S ls st M) : gR a (sg ls M n) ∧ gY s a (.inl (sg ls M n)) := by
  unfold srcA at h
  cases hb : (Nat.ble 1 n && Nat.ble n 63) with
  | true =>
    rw [hb, cond_true] at h
    rw [Bool.and_eq_true] at hb
    have b1 := Nat.le_of_ble_eq_true hb.1
    have b2 := Nat.le_of_ble_eq_true hb.2
    cases hc : Nat.ble (S.1.getD (n - 1) aN).1 2 with
    | false => rw [hc] at h; cases h
    | true =>
      rw [hc, cond_true] at h
      cases h
      have b3 := Nat.le_of_ble_eq_true hc
      have q := loc_at g.1 (i := n - 1) (by omega)
      obtain ⟨z, e, r⟩ := gW_int q.1 b3
      have e2 : sg ls M n = z := by
        unfold sg
        rw [if_pos (by omega), e]
      rw [e2]
      rw [e] at q
      exact ⟨r, q.2.1⟩
  | false =>
    rw [hb, cond_false] at h
    cases hc : (Nat.ble 64 n && Nat.ble ((n - 64) % 64 + 1) (pL ((n - 64) / 64))) with
    | false => rw [hc] at h; cases h
    | true =>
      rw [hc, cond_true] at h
      cases h
      rw [Bool.and_eq_true] at hc
      have b1 := Nat.le_of_ble_eq_true hc.1
      have b2 := Nat.le_of_ble_eq_true hc.2
      have e2 : sg ls M n = M ((n - 64) / 64) ((n - 64) % 64) := by
        unfold sg
        rw [if_neg (by omega)]
      rw [e2]
      have := lkP_ok hE g.2.2.1 (o := (n - 64) / 64) (k := (n - 64) % 64) g.2.2.2
      exact ⟨this.1 b2, this.2⟩
def loC (c : Int) (a : aV) : Option Int := bif Nat.beq a.1 0 then some (bif decide (0 ≤ c) then c * a.2.1 else c * a.2.2.1) else none
theorem loC_ok {c l z : Int} {a : aV} (h : loC c a = some l) (g : gR a z) : l ≤ c * z := by
  unfold loC at h
  cases hb : Nat.beq a.1 0 with
  | false => rw [hb] at h; cases h
  | true =>
    rw [hb, cond_true] at h
    have e := Nat.eq_of_beq_eq_true hb
    have r : a.2.1 ≤ z ∧ z ≤ a.2.2.1 := by
      rcases g with w | w | w <;> omega
    by_cases q : 0 ≤ c
    · rw [decide_eq_true q, cond_true] at h
      cases h
      exact Int.mul_le_mul_of_nonneg_left r.1 q
    · rw [decide_eq_false q, cond_false] at h
      cases h
      exact Int.mul_le_mul_of_nonpos_left (by omega) r.2
def tkO (c : Int) (n : Nat) : List (Int × Nat) → Option (List (Int × Nat))
  | [] => none
  | e :: r => bif decide (e.1 = c) && Nat.beq e.2 n then some r else (match tkO c n r with
    | some t => some (e :: t)
    | none => none)
theorem tkO_ok {f : Nat → Int} {c : Int} {n : Nat} : ∀ {l l' : List (Int × Nat)}, tkO c n l = some l' → smM f l = c * f n + smM f l'
  | [], _, h => by cases h
  | e :: r, l', h => by
    unfold tkO at h
    cases hb : (decide (e.1 = c) && Nat.beq e.2 n) with
    | true =>
      rw [hb, cond_true] at h
      cases h
      rw [Bool.and_eq_true, decide_eq_true_eq] at hb
      have e2 := Nat.eq_of_beq_eq_true hb.2
      unfold smM
      rw [hb.1, e2]
      cases r <;> rfl
    | false =>
      rw [hb, cond_false] at h
      split at h
      · rename_i t ht
        cases h
        have ih := tkO_ok (f := f) ht
        show e.1 * f e.2 + smM f r = c * f n + (e.1 * f e.2 + smM f t)
        omega
      · cases h
def loS (gG : Nat → Nat → aV) (S : eS) : List (Int × Nat) → Option Int
  | [] => some 0
  | e :: r => match srcA gG S e.2 with
    | none => none
    | some a => match loC e.1 a, loS gG S r with
      | some x, some y => some (x + y)
      | _, _ => none
theorem loS_ok (hE : aWF E) {s : Nat → Int} {A0 ls st : List pV} {M : pM} {S : eS} (g : gS E s A0 S ls st M) : ∀ {m : List (Int × Nat)} {L : Int}, loS E.1 S m = some L → L ≤ smM (sg ls M) m
  | [], _, h => by cases h; exact Int.le_refl _
  | e :: r, L, h => by
    unfold loS at h
    split at h
    · cases h
    · rename_i a ha
      split at h
      · rename_i x y hx hy
        cases h
        have h1 := loC_ok hx (srcA_ok hE ha g).1
        have h2 := loS_ok hE g hy
        show x + y ≤ e.1 * sg ls M e.2 + smM (sg ls M) r
        omega
      · cases h
def dfM (gG : Nat → Nat → aV) (S0 S : eS) : List (Int × Nat) → List (Int × Nat) → Option Int
  | [], m0 => loS gG S0 m0
  | e :: r, m0 => match srcA gG S e.2 with
    | none => none
    | some a => match (bif Nat.beq a.2.2.2.1 0 then none else bif Nat.ble 1000000 a.2.2.2.1 then (bif decide (e.1 ≤ 0) then tkO e.1 (a.2.2.2.1 - 1000000) m0 else none) else tkO e.1 a.2.2.2.1 m0) with
      | some m1 => (match dfM gG S0 S r m1 with
        | some x => some (x - e.1 * a.2.2.2.2.1)
        | none => none)
      | none => match loC (-e.1) a, dfM gG S0 S r m0 with
        | some x, some y => some (x + y)
        | _, _ => none
theorem dfM_ok (hE : aWF E) {A0 A1 ls0 st0 ls st : List pV} {M0 M : pM} {S0 S : eS} (g0 : gS E (sg ls0 M0) A1 S0 ls0 st0 M0) (g : gS E (sg ls0 M0) A0 S ls st M) : ∀ {m m0 : List (Int × Nat)} {L : Int}, dfM E.1 S0 S m m0 = some L → L ≤ smM (sg ls0 M0) m0 - smM (sg ls M) m
  | [], m0, L, h => by
    unfold dfM at h
    have := loS_ok hE g0 h
    show L ≤ smM (sg ls0 M0) m0 - 0
    omega
  | e :: r, m0, L, h => by
    unfold dfM at h
    show L ≤ smM (sg ls0 M0) m0 - (e.1 * sg ls M e.2 + smM (sg ls M) r)
    split at h
    · cases h
    · rename_i a ha
      have hs := srcA_ok hE ha g
      split at h
      · rename_i m1 hm
        split at h
        · rename_i x hx
          cases h
          have ih := dfM_ok hE g0 g hx
          cases hz : Nat.beq a.2.2.2.1 0 with
          | true => rw [hz] at hm; cases hm
          | false =>
            rw [hz, cond_false] at hm
            have hn := Nat.ne_of_beq_eq_false hz
            cases hq : Nat.ble 1000000 a.2.2.2.1 with
            | true =>
              rw [hq, cond_true] at hm
              have hq2 := Nat.le_of_ble_eq_true hq
              by_cases hc : e.1 ≤ 0
              · rw [decide_eq_true hc, cond_true] at hm
                have t := tkO_ok (f := sg ls0 M0) hm
                rcases hs.2 with w | ⟨w, -⟩ | ⟨-, z, e1, w⟩
                · omega
                · omega
                · have e2 : sg ls M e.2 = z := Sum.inl.inj e1
                  have h5 : e.1 * z ≤ e.1 * (sg ls0 M0 (a.2.2.2.1 - 1000000) + a.2.2.2.2.1) := Int.mul_le_mul_of_nonpos_left hc w
                  rw [Int.mul_add] at h5
                  rw [e2, t]
                  omega
              · rw [decide_eq_false hc] at hm; cases hm
            | false =>
              rw [hq, cond_false] at hm
              have t := tkO_ok (f := sg ls0 M0) hm
              rcases hs.2 with w | ⟨-, w⟩ | ⟨w, -⟩
              · rw [w] at hz; cases hz
              · have w2 : sg ls M e.2 = sg ls0 M0 a.2.2.2.1 + a.2.2.2.2.1 := Sum.inl.inj w
                rw [w2, t, Int.mul_add]
                omega
              · rw [Nat.ble_eq_true_of_le w] at hq; cases hq
        · cases h
      · split at h
        · rename_i x y hx hy
          cases h
          have ih := dfM_ok hE g0 g hy
          have h1 := loC_ok hx hs.1
          rw [Int.neg_mul] at h1
          omega
        · cases h
/-! notes -/
def leS1 : List aV → List aV → Bool
  | [], [] => true
  | a :: as, b :: bs => leR a b && (Nat.beq b.2.2.2.2.2 0 || Nat.beq b.2.2.2.2.2 a.2.2.2.2.2) && leS1 as bs
  | _, _ => false
def leS (gG : Nat → Nat → aV) (S T : eS) : Bool := leS1 S.1 T.1 && leL S.2.1 T.2.1 && leP gG S.2.2 T.2.2
def szL : Nat → List aV → List aV
  | _, [] => []
  | i, a :: r => (bif Nat.ble a.1 2 && Nat.ble i 62 then (a.1, a.2.1, a.2.2.1, i + 1, 0, a.2.2.2.2.2) else (a.1, a.2.1, a.2.2.1, 0, 0, a.2.2.2.2.2)) :: szL (i + 1) r
def szE (e : Nat × Nat × aV) : Nat × Nat × aV := (e.1, e.2.1, bif Nat.ble e.2.1 63 && Nat.ble e.1 999 then (e.2.2.1, e.2.2.2.1, e.2.2.2.2.1, 64 + (64 * e.1 + e.2.1), 0, 0) else clA e.2.2)
def szS (T : eS) : eS := (szL 0 T.1, T.2.1.map clA, T.2.2.map szE)
theorem szL_ok {A0 LS : List pV} {M : pM} {s : Nat → Int} : ∀ {as bs : List aV} {vs : List pV} {i : Nat}, (∀ j, vs.getD j (.inr 0) = LS.getD (i + j) (.inr 0)) → leS1 as bs = true → aF2 (fun a v => gW a v ∧ gY s a v ∧ gL A0 a v) as vs → aF2 (fun a v => gW a v ∧ gY (sg LS M) a v ∧ gL A0 a v) (szL i bs) vs
  | [], [], [], _, _, _, _ => trivial
  | [], _ :: _, _, _, _, h, _ => by cases h
  | _ :: _, [], _, _, _, h, _ => by cases h
  | a :: as, b :: bs, v :: vs, i, hj, h, g => by
    unfold leS1 at h
    simp only [Bool.and_eq_true, Bool.or_eq_true] at h
    obtain ⟨⟨h1, h2⟩, h3⟩ := h
    have w := leR_ok h1 g.1.1
    have ol : gL A0 b v := by
      rcases h2 with e | e
      · exact Or.inl (Nat.eq_of_beq_eq_true e)
      · have e := Nat.eq_of_beq_eq_true e
        unfold gL
        rw [e]
        exact g.1.2.2
    refine ⟨?_, szL_ok (i := i + 1) (fun j => ?_) h3 g.2⟩
    · cases hb : (Nat.ble b.1 2 && Nat.ble i 62) with
      | false => exact ⟨w, Or.inl rfl, ol⟩
      | true =>
        rw [Bool.and_eq_true] at hb
        have b2 := Nat.le_of_ble_eq_true hb.2
        obtain ⟨z, e, -⟩ := gW_int w (Nat.le_of_ble_eq_true hb.1)
        refine ⟨w, Or.inr (Or.inl ⟨show i + 1 < 1000000 by omega, ?_⟩), ol⟩
        show v = .inl (sg LS M (i + 1) + 0)
        have e3 := hj 0
        rw [List.getD_cons_zero, Nat.add_zero] at e3
        unfold sg
        rw [if_pos (by omega), Nat.add_sub_cancel, ← e3, e, Int.add_zero]
    · have := hj (j + 1)
      rw [List.getD_cons_succ] at this
      rw [this]
      congr 1
      omega
theorem sg_pl {ls : List pV} {M : pM} {o k : Nat} (h : k ≤ 63) : sg ls M (64 + (64 * o + k)) = M o k := by
  unfold sg
  rw [if_neg (by omega), show (64 + (64 * o + k) - 64) / 64 = o by omega, show (64 + (64 * o + k) - 64) % 64 = k by omega]
theorem szE_ok {ls : List pV} {M : pM} {x : Nat × Nat × aV} (r : gR x.2.2 (M x.1 x.2.1)) : gR (szE x).2.2 (M (szE x).1 (szE x).2.1) ∧ gY (sg ls M) (szE x).2.2 (.inl (M (szE x).1 (szE x).2.1)) := by
  unfold szE
  cases hb : (Nat.ble x.2.1 63 && Nat.ble x.1 999) with
  | false => exact ⟨r, Or.inl rfl⟩
  | true =>
    rw [Bool.and_eq_true] at hb
    have b := Nat.le_of_ble_eq_true hb.1
    have b2 := Nat.le_of_ble_eq_true hb.2
    refine ⟨r, Or.inr (Or.inl ⟨show 64 + (64 * x.1 + x.2.1) < 1000000 by omega, ?_⟩)⟩
    show (Sum.inl (M x.1 x.2.1) : pV) = .inl (sg ls M (64 + (64 * x.1 + x.2.1)) + 0)
    rw [sg_pl b, Int.add_zero]
theorem szS_ok (hE : aWF E) {s : Nat → Int} {A0 ls st : List pV} {M : pM} {S T : eS} (h : leS E.1 S T = true) (g : gS E s A0 S ls st M) : gS E (sg ls M) A0 (szS T) ls st M := by
  unfold leS at h
  simp only [Bool.and_eq_true] at h
  obtain ⟨⟨h1, h2⟩, h3⟩ := h
  refine ⟨szL_ok (i := 0) (fun j => by rw [Nat.zero_add]) h1 g.1, ?_, g.2.2.1, ?_⟩
  · exact aF2_map (f := clA) (fun a v q => ⟨q, Or.inl rfl, Or.inl rfl⟩) (leL_ok h2 (aF2_mono (fun a v q => q.1) g.2.1))
  · intro e he
    obtain ⟨x, hx, rfl⟩ := List.mem_map.mp he
    have r := leP_ok hE g.2.2.1 h3 g.2.2.2 x hx
    unfold szE
    cases hb : (Nat.ble x.2.1 63 && Nat.ble x.1 999) with
    | false => exact ⟨r, Or.inl rfl⟩
    | true =>
      rw [Bool.and_eq_true] at hb
      have b := Nat.le_of_ble_eq_true hb.1
      have b2 := Nat.le_of_ble_eq_true hb.2
      refine ⟨r, Or.inr (Or.inl ⟨show 64 + (64 * x.1 + x.2.1) < 1000000 by omega, ?_⟩)⟩
      show (Sum.inl (M x.1 x.2.1) : pV) = .inl (sg ls M (64 + (64 * x.1 + x.2.1)) + 0)
      unfold sg
      rw [if_neg (by omega), show (64 + (64 * x.1 + x.2.1) - 64) / 64 = x.1 by omega, show (64 + (64 * x.1 + x.2.1) - 64) % 64 = x.2.1 by omega, Int.add_zero]
/-- places that do not become less: since the last note not at all, since the entry by so much they are more -/
def moOK (gG : Nat → Nat → aV) (f : Bool) (mo : List (Nat × Nat × Int)) (S : eS) : Bool := mo.all fun q => let a := lkP gG S.2.2 q.1 q.2.1
  Nat.ble q.2.1 63 && Nat.ble q.1 999 && (Nat.beq a.2.2.2.1 (64 + (64 * q.1 + q.2.1)) || Nat.beq a.2.2.2.1 (1000000 + (64 + (64 * q.1 + q.2.1)))) && decide ((bif f then q.2.2 else 0) ≤ a.2.2.2.2.1)
theorem moOK_ok (hE : aWF E) {s : Nat → Int} {A0 ls st : List pV} {M0 M : pM} {S : eS} {f : Bool} {mo : List (Nat × Nat × Int)} (h : moOK E.1 f mo S = true) (g : gS E s A0 S ls st M) (hb : ∀ q, q ∈ mo → q.2.1 ≤ 63 → M0 q.1 q.2.1 + q.2.2 ≤ s (64 + (64 * q.1 + q.2.1)) + (bif f then q.2.2 else 0)) : ∀ q, q ∈ mo → M0 q.1 q.2.1 + q.2.2 ≤ M q.1 q.2.1 := by
  intro q hq
  have h1 := List.all_eq_true.mp h q hq
  dsimp only at h1
  simp only [Bool.and_eq_true, Bool.or_eq_true, decide_eq_true_eq] at h1
  obtain ⟨⟨⟨h2, h6⟩, h3⟩, h4⟩ := h1
  have k1 := Nat.le_of_ble_eq_true h2
  have k2 := Nat.le_of_ble_eq_true h6
  have h5 := hb q hq k1
  have y := (lkP_ok hE g.2.2.1 (o := q.1) (k := q.2.1) g.2.2.2).2
  rcases h3 with h3 | h3
  · have e := Nat.eq_of_beq_eq_true h3
    rcases y with y | ⟨-, y⟩ | ⟨y, -⟩
    · omega
    · rw [e] at y
      have : M q.1 q.2.1 = s (64 + (64 * q.1 + q.2.1)) + (lkP E.1 S.2.2 q.1 q.2.1).2.2.2.2.1 := Sum.inl.inj y
      omega
    · omega
  · have e := Nat.eq_of_beq_eq_true h3
    rcases y with y | ⟨y, -⟩ | ⟨-, z, y, y2⟩
    · omega
    · omega
    · have : M q.1 q.2.1 = z := Sum.inl.inj y
      rw [e, Nat.add_sub_cancel_left] at y2
      omega
def retOK (gG : Nat → Nat → aV) (f : Bool) (mo : List (Nat × Nat × Int)) (alts : List aA) (q : Option aV) (S : eS) : Bool := alts.any fun t => (match q, t.1 with
    | none, none => true
    | some a, some b => leR a b
    | _, _ => false) && ((List.range t.2.1.length).all fun j => Nat.beq (t.2.1.getD j aN).1 4 || S.1.any fun a => Nat.beq a.2.2.2.2.2 (j + 1) && leR a (t.2.1.getD j aN)) && leP gG S.2.2 t.2.2 && t.2.2.all fun e => Nat.beq e.2.2.2.2.2.1 0 || ((mo.any fun p => Nat.beq p.1 e.1 && Nat.beq p.2.1 e.2.1 && decide (e.2.2.2.2.2.2.1 ≤ p.2.2)) || (f && moOK gG true [(e.1, e.2.1, e.2.2.2.2.2.2.1)] S))
theorem aF2_mem {R : aV → pV → Prop} : ∀ {as : List aV} {vs : List pV}, aF2 R as vs → ∀ a, a ∈ as → ∃ v, R a v
  | [], [], _, _, h => by cases h
  | a :: as, v :: vs, h, b, hb => by
    rcases List.mem_cons.mp hb with rfl | hb
    · exact ⟨v, h.1⟩
    · exact aF2_mem h.2 b hb
theorem retOK_ok (hE : aWF E) {s : Nat → Int} {A0 ls : List pV} {M0 M : pM} {S : eS} {alts : List aA} {q : Option aV} {rv : Option pV} {f : Bool} {mo : List (Nat × Nat × Int)} (hmo : ∀ p, p ∈ mo → M0 p.1 p.2.1 + p.2.2 ≤ M p.1 p.2.1) (hf : f = true → ∀ o k, k ≤ 63 → s (64 + (64 * o + k)) = M0 o k) (h : retOK E.1 f mo alts q S = true) (hq : gQ q rv) (g : gS E s A0 S ls [] M) : ∃ alt, alt ∈ alts ∧ gQ alt.1 rv ∧ (∀ j, j < alt.2.1.length → gW (alt.2.1.getD j aN) (A0.getD j (.inr 0))) ∧ gP1 M0 alt.2.2 M := by
  unfold retOK at h
  rw [List.any_eq_true] at h
  obtain ⟨t, ht, h⟩ := h
  simp only [Bool.and_eq_true] at h
  obtain ⟨⟨⟨h1, h2⟩, h3⟩, h6⟩ := h
  refine ⟨t, ht, ?_, ?_, fun e he => ⟨leP_ok hE g.2.2.1 h3 g.2.2.2 e he, ?_⟩⟩
  rotate_right
  · have h7 := List.all_eq_true.mp h6 e he
    rw [Bool.or_eq_true] at h7
    rcases h7 with h7 | h7
    · exact Or.inl (Nat.eq_of_beq_eq_true h7)
    · rw [Bool.or_eq_true] at h7
      rcases h7 with h7 | h7
      rotate_left
      · rw [Bool.and_eq_true] at h7
        refine Or.inr (moOK_ok hE (M0 := M0) h7.2 g (fun q hq hk => ?_) (e.1, e.2.1, e.2.2.2.2.2.2.1) (List.mem_singleton.mpr rfl))
        rw [hf h7.1 q.1 q.2.1 hk]
        exact Int.le_refl _
      rw [List.any_eq_true] at h7
      obtain ⟨p, hp, h8⟩ := h7
      simp only [Bool.and_eq_true, decide_eq_true_eq] at h8
      have p1 := Nat.eq_of_beq_eq_true h8.1.1
      have p2 := Nat.eq_of_beq_eq_true h8.1.2
      have p3 := hmo p hp
      rw [p1, p2] at p3
      exact Or.inr (by omega)
  · split at h1
    · rename_i e
      rw [e]
      exact hq
    · rename_i a b e
      rw [e]
      cases rv with
      | none => exact hq.elim
      | some v => exact leR_ok h1 hq
    · cases h1
  · intro j hj
    rw [List.all_eq_true] at h2
    have h4 := h2 j (List.mem_range.mpr hj)
    rw [Bool.or_eq_true] at h4
    rcases h4 with h4 | h4
    · exact Or.inr (Or.inr (Nat.eq_of_beq_eq_true h4))
    · rw [List.any_eq_true] at h4
      obtain ⟨a, ha, h5⟩ := h4
      rw [Bool.and_eq_true] at h5
      obtain ⟨v, w1, w2, w3⟩ := aF2_mem g.1 a ha
      have e := Nat.eq_of_beq_eq_true h5.1
      rcases w3 with w3 | w3
      · omega
      · rw [e, Nat.add_sub_cancel] at w3
        rw [w3]
        exact leR_ok h5.2 w1
def lkA : aAnn → Nat → Option (List (eS × aM))
  | [], _ => none
  | e :: r, pc => bif Nat.beq e.1 pc then some e.2 else lkA r pc
theorem lkA_mem : ∀ {ann : aAnn} {pc : Nat} {l : List (eS × aM)}, lkA ann pc = some l → (pc, l) ∈ ann
  | [], _, _, h => by cases h
  | e :: r, pc, l, h => by
    unfold lkA at h
    cases hb : Nat.beq e.1 pc with
    | true =>
      rw [hb, cond_true] at h
      cases h
      have := Nat.eq_of_beq_eq_true hb
      subst this
      exact List.mem_cons_self
    | false =>
      rw [hb, cond_false] at h
      exact List.mem_cons_of_mem _ (lkA_mem h)
def arrOK (gG : Nat → Nat → aV) (b : Option (eS × aM)) (S : eS) (l : List (eS × aM)) : Bool := l.any fun t => leS gG S t.1 && (match b with
  | none => true
  | some u => match dfM gG u.1 S t.2.2 u.2.2 with
    | some L => decide (1 ≤ u.2.1 - t.2.1 + L)
    | none => false)
abbrev aSpl : Type := List (Nat × List (Nat × Int))
def lkS : aSpl → Nat → List (Nat × Int)
  | [], _ => []
  | e :: r, pc => bif Nat.beq e.1 pc then e.2 else lkS r pc
/-- a place where two cases are told apart: what is told is at most v, or more -/
def aSp (gG : Nat → Nat → aV) (S : eS) (q : Nat × Int) : List eS := match srcA gG S q.1 with
    | none => [S]
    | some a => bif Nat.beq a.1 0 && decide (a.2.1 ≤ q.2) && decide (q.2 < a.2.2.1) then [aUpd gG S q.1 (aR a.2.1 q.2), aUpd gG S q.1 (aR (q.2 + 1) a.2.2.1)] else [S]
def aSps (gG : Nat → Nat → aV) : List (Nat × Int) → eS → List eS
  | [], S => [S]
  | q :: qs, S => (aSp gG S q).flatMap (aSps gG qs)
def expl (gG : Nat → Nat → aV) (A : Nat → aF) (ann : aAnn) (spl : aSpl) (mo : List (Nat × Nat × Int)) (alts : List aA) (b : Option (eS × aM)) : Nat → Nat → eS → Bool
  | 0, _, _ => false
  | n + 1, pc, S => (aSps gG (lkS spl pc) S).all fun S1 => match A pc S1 with
    | none => false
    | some outs => outs.all fun o => match o with
      | .inl q => moOK gG b.isNone mo q.2 && retOK gG b.isNone mo alts q.1 q.2
      | .inr q => match lkA ann q.1 with
        | some l => moOK gG b.isNone mo q.2 && arrOK gG b q.2 l
        | none => expl gG A ann spl mo alts b n q.1 q.2
def enL : Nat → List aV → List aV
  | _, [] => []
  | i, a :: r => (a.1, a.2.1, a.2.2.1, 0, 0, i + 1) :: enL (i + 1) r
def enS (nl : Nat) (c : aC) : eS := (enL 0 c.2.1 ++ List.replicate (nl - c.2.1.length) (aRef 0), [], c.2.2.1.map szE)
def chk (gG : Nat → Nat → aV) (A : Nat → aF) (ann : aAnn) (spl : aSpl) (mo : List (Nat × Nat × Int)) (nl fuel : Nat) (c : aC) : Bool := Nat.ble c.2.1.length nl &&
  (match lkA ann 0 with
    | some l => moOK gG true mo (enS nl c) && arrOK gG none (enS nl c) l
    | none => expl gG A ann spl mo c.2.2.2.2 none fuel 0 (enS nl c)) &&
  ann.all fun p => p.2.all fun t => (match loS gG (szS t.1) t.2.2 with
    | some L => decide (0 ≤ t.2.1 + L)
    | none => false) && expl gG A ann spl mo c.2.2.2.2 (some (szS t.1, t.2)) fuel p.1 (szS t.1)
def aGood (E : aE) (alts : List aA) (A0 : List pV) (M0 : pM) (o : Option pR) : Prop := ∃ rv M', o = some (rv, M') ∧ gM E.1 M' ∧ Fr E.2.2.2 M0 M' ∧ ∃ alt, alt ∈ alts ∧ gQ alt.1 rv ∧ (∀ j, j < alt.2.1.length → gW (alt.2.1.getD j aN) (A0.getD j (.inr 0))) ∧ gP1 M0 alt.2.2 M'
section RUN
variable {prog : Nat → Nat → pS} {nL : Nat → Nat}
theorem arr_in {b : Option (eS × aM)} {S : eS} {l : List (eS × aM)} (h : arrOK E.1 b S l = true) : ∃ t, t ∈ l ∧ leS E.1 S t.1 = true ∧ ∀ u, b = some u → ∃ L, dfM E.1 u.1 S t.2.2 u.2.2 = some L ∧ 1 ≤ u.2.1 - t.2.1 + L := by
  unfold arrOK at h
  rw [List.any_eq_true] at h
  obtain ⟨t, ht, h⟩ := h
  rw [Bool.and_eq_true] at h
  refine ⟨t, ht, h.1, fun u e => ?_⟩
  subst e
  have h2 := h.2
  dsimp only at h2
  split at h2
  · rename_i L hL
    exact ⟨L, hL, of_decide_eq_true h2⟩
  · cases h2
theorem aSp_ok (hE : aWF E) {s : Nat → Int} {A0 ls st : List pV} {M : pM} {S : eS} (q : Nat × Int) (g : gS E s A0 S ls st M) : ∃ S1, S1 ∈ aSp E.1 S q ∧ gS E s A0 S1 ls st M := by
  unfold aSp
  · split
    · exact ⟨S, List.mem_singleton.mpr rfl, g⟩
    · rename_i a ha
      cases hb : (Nat.beq a.1 0 && decide (a.2.1 ≤ q.2) && decide (q.2 < a.2.2.1)) with
      | false => exact ⟨S, List.mem_singleton.mpr rfl, g⟩
      | true =>
        have hr := (srcA_ok hE ha g).1
        rw [cond_true]
        simp only [Bool.and_eq_true, decide_eq_true_eq] at hb
        have e := Nat.eq_of_beq_eq_true hb.1.1
        have r : a.2.1 ≤ sg ls M q.1 ∧ sg ls M q.1 ≤ a.2.2.1 := by
          rcases hr with w | w | w <;> omega
        have ho : gO ls M (0, 0, 0, 0, 0, q.1) (.inl (sg ls M q.1)) := by
          unfold srcA at ha
          cases hc : (Nat.ble 1 q.1 && Nat.ble q.1 63) with
          | true =>
            rw [hc, cond_true] at ha
            rw [Bool.and_eq_true] at hc
            have b1 := Nat.le_of_ble_eq_true hc.1
            have b2 := Nat.le_of_ble_eq_true hc.2
            cases hd : Nat.ble (S.1.getD (q.1 - 1) aN).1 2 with
            | false => rw [hd] at ha; cases ha
            | true =>
              have b3 := Nat.le_of_ble_eq_true hd
              have q5 := loc_at g.1 (i := q.1 - 1) (by omega)
              obtain ⟨z, e5, r5⟩ := gW_int q5.1 b3
              refine Or.inr (Or.inl ⟨b1, show q.1 < 64 by omega, ?_⟩)
              show ls.getD (q.1 - 1) (.inr 0) = _
              unfold sg
              rw [if_pos (by omega), e5]
          | false =>
            rw [hc, cond_false] at ha
            cases hd : (Nat.ble 64 q.1 && Nat.ble ((q.1 - 64) % 64 + 1) (pL ((q.1 - 64) / 64))) with
            | false => rw [hd] at ha; cases ha
            | true =>
              rw [Bool.and_eq_true] at hd
              have b1 := Nat.le_of_ble_eq_true hd.1
              refine Or.inr (Or.inr ⟨b1, ?_⟩)
              unfold sg
              rw [if_neg (by omega)]
        by_cases c : sg ls M q.1 ≤ q.2
        · exact ⟨_, List.mem_cons_self, aUpd_ok hE (a := (0, 0, 0, 0, 0, q.1)) g ho (aR_ok r.1 c)⟩
        · exact ⟨_, List.mem_cons_of_mem _ List.mem_cons_self, aUpd_ok hE (a := (0, 0, 0, 0, 0, q.1)) g ho (aR_ok (by omega) r.2)⟩
theorem aSps_ok (hE : aWF E) {s : Nat → Int} {A0 ls st : List pV} {M : pM} : ∀ (qs : List (Nat × Int)) {S : eS}, gS E s A0 S ls st M → ∃ S1, S1 ∈ aSps E.1 qs S ∧ gS E s A0 S1 ls st M
  | [], S, g => ⟨S, List.mem_singleton.mpr rfl, g⟩
  | q :: qs, S, g => by
    obtain ⟨S1, h1, g1⟩ := aSp_ok hE q g
    obtain ⟨S2, h2, g2⟩ := aSps_ok hE qs g1
    exact ⟨S2, List.mem_flatMap.mpr ⟨S1, h1, h2⟩, g2⟩
theorem expl_ok (hF : ∀ k i, pForm (prog k i)) (hE : aWF E) {d k : Nat} {A : Nat → aF} (hA : ∀ pc, aSnd E (prog k pc) (A pc)) (hY : aYK E (pYE prog nL d)) {ann : aAnn} {spl : aSpl} {mo : List (Nat × Nat × Int)} {alts : List aA} {A0 : List pV} {M0 : pM} {b : Option (eS × aM)} {s : Nat → Int} (N : Int)
    (hs0 : b.isNone = true → ∀ o k, k ≤ 63 → s (64 + (64 * o + k)) = M0 o k) (hmb : ∀ q, q ∈ mo → q.2.1 ≤ 63 → M0 q.1 q.2.1 + q.2.2 ≤ s (64 + (64 * q.1 + q.2.1)) + (bif b.isNone then q.2.2 else 0))
    (hb : ∀ u, b = some u → ∃ ls0 st0 M1, s = sg ls0 M1 ∧ gS E s A0 u.1 ls0 st0 M1 ∧ mV u.2 s ≤ N)
    (hI : ∀ pc l t ls st M, (pc, l) ∈ ann → t ∈ l → gS E (sg ls M) A0 (szS t.1) ls st M → Fr E.2.2.2 M0 M → (∀ q, q ∈ mo → M0 q.1 q.2.1 + q.2.2 ≤ M q.1 q.2.1) → (b ≠ none → mV t.2 (sg ls M) < N) → aGood E alts A0 M0 (pE prog nL d k pc ls st M)) :
    ∀ n pc S ls st M, expl E.1 A ann spl mo alts b n pc S = true → gS E s A0 S ls st M → Fr E.2.2.2 M0 M → aGood E alts A0 M0 (pE prog nL d k pc ls st M) := by
  intro n
  induction n with
  | zero => intro pc S ls st M h; cases h
  | succ n ih =>
    intro pc S0 ls st M h g0 f
    unfold expl at h
    rw [List.all_eq_true] at h
    obtain ⟨S, hS, g⟩ := aSps_ok hE (lkS spl pc) g0
    have h := h S hS
    split at h
    · cases h
    · rename_i outs ho
      rw [List.all_eq_true] at h
      obtain ⟨o, hm, M', f2, w⟩ := hA pc S outs ho s A0 ls st M g (pE prog nL d k) (pYE prog nL d) hY
      have h2 := h o hm
      rw [pE_eq prog nL hF]
      rcases w with ⟨q, S', rfl, rv, e, hq, g2⟩ | ⟨pc', S', ls', st', rfl, e, g2⟩
      · rw [Bool.and_eq_true] at h2
        exact ⟨rv, M', e, g2.2.2.1, Fr_tr f f2, retOK_ok hE (moOK_ok hE h2.1 g2 hmb) hs0 h2.2 hq g2⟩
      · rw [e]
        dsimp only at h2
        split at h2
        · rename_i l hl
          rw [Bool.and_eq_true] at h2
          obtain ⟨t, ht, l1, l2⟩ := arr_in h2.2
          refine hI pc' l t ls' st' M' (lkA_mem hl) ht (szS_ok hE l1 g2) (Fr_tr f f2) (moOK_ok hE h2.1 g2 hmb) (fun hne => ?_)
          cases b with
          | none => exact absurd rfl hne
          | some u =>
            obtain ⟨L, e1, e2⟩ := l2 u rfl
            obtain ⟨ls0, st0, M1, e3, g0, e4⟩ := hb u rfl
            subst e3
            have := dfM_ok hE g0 g2 e1
            unfold mV at e4 ⊢
            omega
        · exact ih pc' S' ls' st' M' h2 g2 (Fr_tr f f2)
theorem enL_ok {A0 : List pV} {s : Nat → Int} : ∀ {as : List aV} {vs : List pV} {i : Nat}, (∀ j, vs.getD j (.inr 0) = A0.getD (i + j) (.inr 0)) → aF2 gW as vs → aF2 (fun a v => gW a v ∧ gY s a v ∧ gL A0 a v) (enL i as) vs
  | [], [], _, _, _ => trivial
  | a :: as, v :: vs, i, hj, g => by
    refine ⟨⟨g.1, Or.inl rfl, Or.inr ?_⟩, enL_ok (i := i + 1) (fun j => ?_) g.2⟩
    · have := hj 0
      rw [List.getD_cons_zero, Nat.add_zero] at this
      show A0.getD (i + 1 - 1) (.inr 0) = v
      rw [Nat.add_sub_cancel, this]
    · have := hj (j + 1)
      rw [List.getD_cons_succ] at this
      rw [this]
      congr 1
      omega
theorem rep_ok {R : aV → pV → Prop} {a : aV} {v : pV} (h : R a v) : ∀ n, aF2 R (List.replicate n a) (List.replicate n v)
  | 0 => trivial
  | n + 1 => ⟨h, rep_ok h n⟩
/-- the check of a method is right -/
theorem chk_ok (hF : ∀ k i, pForm (prog k i)) (hE : aWF E) {d k fuel : Nat} {A : Nat → aF} (hA : ∀ pc, aSnd E (prog k pc) (A pc)) (hY : aYK E (pYE prog nL d)) {ann : aAnn} {spl : aSpl} {mo : List (Nat × Nat × Int)} {c : aC} (hw : E.2.2.2 = c.2.2.2.1) (hc : chk E.1 A ann spl mo (nL k) fuel c = true) : cOK E.1 (pYE prog nL (d + 1)) k c := by
  intro A0 M0 ha hm hp
  unfold chk at hc
  simp only [Bool.and_eq_true] at hc
  obtain ⟨⟨c1, c2⟩, c3⟩ := hc
  rw [List.all_eq_true] at c3
  have hlen := aF2_len ha
  have e0 : pYE prog nL (d + 1) k A0 M0 = pE prog nL d k 0 (ppad nL k A0) [] M0 := by
    unfold pYE
    dsimp only
    rw [← hlen, c1, cond_true]
  rw [e0, ← hw]
  show aGood E c.2.2.2.2 A0 M0 _
  -- from the notes
  have key : ∀ N : Nat, ∀ pc l t ls st M, (pc, l) ∈ ann → t ∈ l → gS E (sg ls M) A0 (szS t.1) ls st M → Fr E.2.2.2 M0 M → (∀ q, q ∈ mo → M0 q.1 q.2.1 + q.2.2 ≤ M q.1 q.2.1) → mV t.2 (sg ls M) < (N : Int) → aGood E c.2.2.2.2 A0 M0 (pE prog nL d k pc ls st M) := by
    intro N
    induction N with
    | zero =>
      intro pc l t ls st M h1 h2 g f hmm hN
      exfalso
      have c4 := c3 _ h1
      rw [List.all_eq_true] at c4
      have c5 := c4 t h2
      rw [Bool.and_eq_true] at c5
      have c6 := c5.1
      split at c6
      · rename_i L hL
        have := loS_ok hE g hL
        have c7 := of_decide_eq_true c6
        unfold mV at hN
        omega
      · cases c6
    | succ N ih =>
      intro pc l t ls st M h1 h2 g f hmm hN
      have c4 := c3 _ h1
      rw [List.all_eq_true] at c4
      have c5 := c4 t h2
      rw [Bool.and_eq_true] at c5
      refine expl_ok hF hE hA hY (b := some (szS t.1, t.2)) (s := sg ls M) N (fun w => by cases w) (fun q hq hk => ?_) (fun u e => ?_) (fun pc' l' t' ls' st' M' m1 m2 g' f' m3 q => ih pc' l' t' ls' st' M' m1 m2 g' f' m3 (q (fun w => by cases w))) fuel pc (szS t.1) ls st M c5.2 g f
      · have := hmm q hq
        show _ ≤ sg ls M (64 + (64 * q.1 + q.2.1)) + 0
        rw [sg_pl hk, Int.add_zero]
        exact this
      · cases e
        exact ⟨ls, st, M, rfl, g, by
          show mV t.2 (sg ls M) ≤ N
          omega⟩
  have gE : gS E (sg [] M0) A0 (enS (nL k) c) (ppad nL k A0) [] M0 := by
    refine ⟨?_, trivial, hm, ?_⟩
    · unfold enS ppad
      dsimp only
      rw [hlen]
      exact aF2_app (enL_ok (i := 0) (fun j => by rw [Nat.zero_add]) ha) (rep_ok ⟨Or.inr (Or.inl ⟨rfl, rfl⟩), Or.inl rfl, Or.inl rfl⟩ _)
    · intro e he
      obtain ⟨x, hx, rfl⟩ := List.mem_map.mp he
      exact szE_ok (hp x hx)
  have hm0 : ∀ q : Nat × Nat × Int, q ∈ mo → q.2.1 ≤ 63 → M0 q.1 q.2.1 + q.2.2 ≤ sg [] M0 (64 + (64 * q.1 + q.2.1)) + (bif true then q.2.2 else 0) := fun q _ hk => by
    rw [sg_pl hk]; exact Int.le_refl _
  have fin : ∀ pc l t ls st M, (pc, l) ∈ ann → t ∈ l → gS E (sg ls M) A0 (szS t.1) ls st M → Fr E.2.2.2 M0 M → (∀ q, q ∈ mo → M0 q.1 q.2.1 + q.2.2 ≤ M q.1 q.2.1) → aGood E c.2.2.2.2 A0 M0 (pE prog nL d k pc ls st M) := fun pc l t ls st M h1 h2 g f m => key ((mV t.2 (sg ls M)).toNat + 1) pc l t ls st M h1 h2 g f m (by omega)
  split at c2
  · rename_i l hl
    rw [Bool.and_eq_true] at c2
    obtain ⟨t, ht, l1, -⟩ := arr_in c2.2
    exact fin 0 l t _ _ _ (lkA_mem hl) ht (szS_ok hE l1 gE) Fr_rfl (moOK_ok hE c2.1 gE hm0)
  · exact expl_ok hF hE hA hY (b := none) (s := sg [] M0) 0 (fun _ o k hk => sg_pl hk) hm0 (fun u e => by cases e) (fun pc' l' t' ls' st' M' m1 m2 g' f' m3 _ => fin pc' l' t' ls' st' M' m1 m2 g' f' m3) fuel 0 (enS (nL k) c) _ _ _ c2 gE Fr_rfl
/-- all contracts of a table, level by level -/
theorem ct_all {gG : Nat → Nat → aV} {CT : Lean.RArray (List aC)} (H : ∀ k c, c ∈ CT.get k → 1 ≤ c.1 ∧ ∀ d, c.1 ≤ d + 1 → aYK (gG, CT, c.1, c.2.2.2.1) (pYE prog nL d) → cOK gG (pYE prog nL (d + 1)) k c) : ∀ n d k c, d ≤ n → c ∈ CT.get k → c.1 ≤ d → cOK gG (pYE prog nL d) k c := by
  intro n
  induction n with
  | zero =>
    intro d k c hd hc hl
    have := (H k c hc).1
    omega
  | succ n ih =>
    intro d k c hd hc hl
    obtain ⟨h1, h2⟩ := H k c hc
    cases d with
    | zero => omega
    | succ d => exact h2 d hl (fun k' c' hc' hl' => ih d k' c' (by omega) hc' (by have : c'.1 < c.1 := hl'; omega))
end RUN
end EXPL
end
