/-! calls that may throw, and the law's own methods that catch it (by program) -/
def pNSE : String := "java/util/NoSuchElementException"
def pTall : List Cond := vx_atS RX11 144 pNSE ["java/lang/RuntimeException", "java/lang/Exception"]
def pTw : List Cond := pTall.filter (fun w => !goodWord w)
def pTh (A : Nat → Prop) (U : State) (H : Heap) (a1 a2 a3 : Nat) : Prop := vx_Zq Bundle.tN "UNASSIGNED_STACK" Bundle.steD A U H ∧ vx_Zq Bundle.tN "SUPPRESSED_SENTINEL" Bundle.listD A U H ∧ vk_R RX11 142 "no such room, or nothing told of it so" a1 U ∧ vk_R RX11 167 "no such thing, or nothing told of it so" a2 U ∧ vk_R RX11 440 "no such number in the row" a3 U
def pPreT (G : va_G) (ad : Nat → Nat) (cA : Nat → ClassId) (M : pM) (sz a1 a2 a3 : Nat) (U : State) : Prop := pPre G ad cA M sz U ∧ pTh (va_A (pW ad cA M) sz) U U.heap a1 a2 a3
theorem pblindT {G : va_G} {ad : Nat → Nat} {cA : Nat → ClassId} {M : pM} {sz a1 a2 a3 : Nat} {av : List Value} : FrameBlind (va_Pc av (pPreT G ad cA M sz a1 a2 a3)) := fun a U g mk q => by
  obtain ⟨q0, q1, q2, q3, q4, q5, q6⟩ := q
  have h := pblind (G := G) (ad := ad) (cA := cA) (M := M) (sz := sz) (av := av) a U g mk ⟨q0, q1⟩
  exact ⟨h.1, h.2, vx_Zq.moved (u := U) (U := U.calling g mk a) (Vm.Alike.refl U.vm) q2, vx_Zq.moved (u := U) (U := U.calling g mk a) (Vm.Alike.refl U.vm) q3, q4.same (U := U.calling g mk a) rfl, q5.same (U := U.calling g mk a) rfl, q6.same (U := U.calling g mk a) rfl⟩
theorem pTh_at {G : va_G} {ad : Nat → Nat} {cA : Nat → ClassId} {M : pM} {s : State} {H : Heap} {locs : List Loc} {A : Nat → Prop} {H0 : Heap} {a1 a2 a3 : Nat} (hA : ∀ q : Nat, H0.size ≤ q → A q) (hW : pWd G ad cA A H0 M H locs) (hH0 : H0 = s.heap) (hT : pTh A s s.heap a1 a2 a3) {U : State} (hU : U.heap = H) (hWm : s.WarmedH U.vm) : pTh (va_A (pW ad cA M) H.size) U U.heap a1 a2 a3 := by
  subst hH0
  have hk : ∀ a : Nat, a < s.heap.size → ¬ A a → H[a]? = s.heap[a]? := hW.2.2.2.1
  have hin : ∀ z, va_A (pW ad cA M) H.size z → A z := by
    rintro z (⟨k, e9, h⟩ | h)
    · exact hW.2.1.2 k _ h
    · exact hA z (Nat.le_trans hW.2.2.1 h)
  rw [hU]
  obtain ⟨q2, q3, q4, q5, q6⟩ := hT
  exact ⟨((vx_Zq.moved hWm.alike q2).kept hk).narrow hin, ((vx_Zq.moved hWm.alike q3).kept hk).narrow hin, q4.warm hWm, q5.warm hWm, q6.warm hWm⟩
theorem pTall_in0 : ∀ w ∈ pTall.filter goodWord, w ∈ lw_tbl := by decide +kernel
theorem pTall_in (w : Cond) (hw : w ∈ pTall) (hg : goodWord w = true) : w ∈ pws := List.mem_filter.mpr ⟨pTall_in0 w (List.mem_filter.mpr ⟨hw, hg⟩), hg⟩
/-- the run of a method up to the place where it throws -/
noncomputable def xRc (d k pl : Nat) (a : List pV) (M : pM) : Option pR := prun (pprog k) (fun i => Nat.beq i pl) (fun i _ st M => bif Nat.beq i pl && st.isEmpty then some (none, M) else none) (xF d) 60 0 (ppad pnl k a) [] M
/-- a method with a table of its own that returns -/
theorem pm_ofWH {l : Launch} {y : MethodName} {ws ws' : List Cond} {rm : Room} {Pc : Array Value → State → Prop} {Qc : Array Value → State → Outcome → State → Prop} {mc ms : Nat} {free : Addr → Prop} {cc : ByteArray} {maxL : Nat} {ret : Option FieldType} {hh : List (Nat × Nat × Nat × Nat)}
    (hy : plainName y.cls = true) (hw : ws = Cond.codeWith y cc maxL ret hh :: ws')
    (body : ∀ p e s m args below meth c s₁, BodyLoose p l y (headSpec ws rm) cc maxL ret e s m args below meth c s₁ → c.maxLocals = maxL → Pc args s →
      W p l e (headSpec ws rm).room s m args below meth c s.heap [] 0 0 (MQ below Qc args s mc ms free) (entryFrame m args maxL)) : Met l y ws rm Pc Qc mc ms free := by
  refine MetFree.of_bodyS (code := cc) (maxLocals := maxL) (ret := ret) hy ?_ ?_
  · intro args s m h hn
    obtain ⟨m9, meth, c, hn9, h1, h2, h3, h4, -, h5, h6, -⟩ := Cond.codeWith_spec (atoms_spec (ws := ws) h _ (by rw [hw]; exact List.mem_cons_self))
    cases hn.symm.trans hn9
    exact ⟨meth, c, h1, h2, h3, h4, h5, h6⟩
  · intro p e s m args below meth c s₁ B hml hP _
    have hh0 : s₁.heap = s.heap := by rw [B.state]; rfl
    obtain ⟨t, a1, o, b1, b2, b3⟩ := body p e s m args below meth c s₁ B hml hP s₁ hh0 (Stand.of_body B)
    exact ⟨t, o, a1, b1, b2, b3⟩
theorem pTw_nil : pTw = [] := by decide +kernel
noncomputable def yL (D k pl : Nat) (a : List pV) (M : pM) : Option pR := match xF D k a M with
  | some (some (.inl v), M1) => some (some (.inl 0), pset M1 90 0 (iI v).toInt)
  | _ => (match xRc D k pl a M with
    | some (none, M1) => some (some (.inl 1), M1)
    | _ => none)
theorem i64_32 (x : Int32) : Int64.ofInt x.toInt = x.toInt64 := by
  rw [← Int32.toInt_toInt64, Int64.ofInt_toInt]
theorem pW_outset {ad : Nat → Nat} {cA : Nat → ClassId} {M : pM} {x : Int32} : (pW ad cA M).set 90 (ad 90, .inl (cA 90, 1, .inr (.inl (vp_updL (fun i => Int64.ofInt (M 90 i)) 0 x.toInt64)))) = pW ad cA (pset M 90 0 x.toInt) := by
  refine pW_set (M' := pset M 90 0 x.toInt) (fun o' i hne => pset_ne hne) ?_
  show (ad 90, Sum.inl (cA 90, 1, Sum.inr (Sum.inl fun i => Int64.ofInt (pset M 90 0 x.toInt 90 i)))) = _
  refine congrArg (fun z => (ad 90, Sum.inl (cA 90, 1, Sum.inr (Sum.inl z)))) (funext fun j => ?_)
  unfold vp_updL
  by_cases e : j = 0
  · subst e; rw [if_pos rfl, pset_eq, i64_32]
  · rw [if_neg e, pset_ne2 e]
set_option maxRecDepth 100000 in
set_option maxHeartbeats 4000000 in
theorem thr_room (l : Launch) (hfl : l.stackTraces = false) (G : va_G) (ad : Nat → Nat) (cA : Nat → ClassId) (D : Nat) (M M1 : pM) (a : List pV) (ha : a.length ≤ 3) (h : xRc D 4 10 a M = some (none, M1)) (sz a1 a2 a3 : Nat) : vx_Met l (pyn 4) (pwk 4) ({ frames := D + 10, cells := 1, slots := 6, locals := 80 * (D + 2) }) (va_Pc (a.map (ptv ad)) (pPreT G ad cA M sz a1 a2 a3)) (va_Qi (fun (_ : Int32) (_ : Unit) => False) (fun _ _ => True) (va_A (pW ad cA M) sz)) (vx_X (fun _ : Unit => True) (fun E _ t => E = pNSE ∧ va_P G pcl (pW ad cA M1) t.heap) (va_A (pW ad cA M) sz)) 1 6 (va_A (pW ad cA M) sz) := by
  refine vx_ofW (cc := pcc 4) (maxL := 3) (ret := some .int) (by decide +kernel) rfl ?_
  intro p e s m args below meth c s₁ B hml htab hv
  obtain ⟨rfl, ⟨hsz, hP, hK, hD0, hN, hRO⟩, hT⟩ := hv
  have hx := B.exec
  have hb := B.bytes
  have hr := B.returns
  have hts := atoms_spec (ws := pwk 4) B.pre
  have hown : s.vm.findClass (pyn 4).cls = some m.cls := findClass_of_methodNamed B.named
  have hlocks := B.notSynchronized
  subst hsz
  have hD := hD0.self (sz := s.heap.size)
  have hl := lv_entry (a.map (ptv ad)) (n := 3) (by rw [p_args_len, List.length_map]; exact ha)
  rw [lg_entry_eq]
  generalize (lg_sl (a.map (ptv ad)) ++ List.replicate (3 - (lg_sl (a.map (ptv ad))).length) Slot.unset).toArray = arr at hl ⊢
  have hl := p_entry ha hl
  have hp : ∀ w ∈ pws, w.before (List.map (ptv ad) a).toArray s = true := fun w hw => hts w (List.mem_cons_of_mem _ hw)
  have hCx : pCx p (headSpec (pwk 4) ({ frames := D + 10, cells := 1, slots := 6, locals := 80 * (D + 2) })).room s m (List.map (ptv ad) a).toArray meth c G ad cA (va_A (pW ad cA M) s.heap.size) s.heap (pyn 4).cls (pcc 4) 3 0 0 := ⟨hx, hb, hml, hown, hp, hN, hK, Nat.zero_le _, Nat.zero_le _, by show 1 ≤ D + 10; omega, by show 30 ≤ 80 * (D + 2); omega, rfl, hRO⟩
  have hRt : pRt p l e (headSpec (pwk 4) ({ frames := D + 10, cells := 1, slots := 6, locals := 80 * (D + 2) })).room s m (List.map (ptv ad) a).toArray below meth c G ad cA (va_A (pW ad cA M) s.heap.size) s.heap 0 0 (fun r => if r.1 = none then vx_MQ below (va_Qi (fun (_ : Int32) (_ : Unit) => False) (fun _ _ => True) (va_A (pW ad cA M) s.heap.size)) (vx_X (fun _ : Unit => True) (fun E _ t => E = pNSE ∧ va_P G pcl (pW ad cA r.2) t.heap) (va_A (pW ad cA M) s.heap.size)) (List.map (ptv ad) a).toArray s 1 6 (va_A (pW ad cA M) s.heap.size) else fun _ => True) (pcc 4) (some .int) := by
    refine ⟨fun _ v M9 H9 locs9 arr9 pc9 _ _ => ?_, fun hr9 => ?_, fun hr9 => (by cases hr9), fun hr9 => ?_⟩
    · intro T _ _; exact ⟨_, Steps.refl _, trivial⟩
    · rcases hr9 with hr9 | hr9 <;> cases hr9
    · obtain ⟨_, hr9⟩ := hr9; cases hr9
  have hX : pGd p l e (headSpec (pwk 4) ({ frames := D + 10, cells := 1, slots := 6, locals := 80 * (D + 2) })).room s m (List.map (ptv ad) a).toArray below meth c G ad cA (va_A (pW ad cA M) s.heap.size) s.heap 0 0 (fun r => if r.1 = none then vx_MQ below (va_Qi (fun (_ : Int32) (_ : Unit) => False) (fun _ _ => True) (va_A (pW ad cA M) s.heap.size)) (vx_X (fun _ : Unit => True) (fun E _ t => E = pNSE ∧ va_P G pcl (pW ad cA r.2) t.heap) (va_A (pW ad cA M) s.heap.size)) (List.map (ptv ad) a).toArray s 1 6 (va_A (pW ad cA M) s.heap.size) else fun _ => True) 3 (ppcs 4) (fun i _ st M => bif Nat.beq i 10 && st.isEmpty then some (none, M) else none) := by
    intro i ls st M9 r h9 H locs arr9 hW9 hl9
    cases hi : (Nat.beq i 10 && st.isEmpty) with
    | false => dsimp only at h9; rw [hi] at h9; cases h9
    | true =>
      dsimp only at h9
      rw [hi] at h9
      cases h9
      have hi1 : i = 10 := Nat.eq_of_beq_eq_true (Bool.and_eq_true_iff.mp hi).1
      have hs1 : st = [] := List.isEmpty_iff.mp (Bool.and_eq_true_iff.mp hi).2
      subst hi1
      subst hs1
      rw [if_pos rfl]
      refine vx_throwS (own := RX11) (cls := pNSE) (names := ["java/lang/RuntimeException", "java/lang/Exception"]) (ik := 140) (is := 142) (ic := 144) hx hb hfl hown (by decide +kernel) (by decide +kernel) (hp _ (pmt6 48 rfl rfl)) (hp _ (pmt1 24 rfl rfl)) hT.2.2.1 (fun w hw => ?_) (by decide +kernel) hT.1 hT.2.1 hW9.2.2 (hl9.2.1.trans hml.symm) (by decide +kernel) (by decide +kernel) (by decide +kernel) (by decide +kernel) (by decide +kernel) (fun x hx9 => (htab x hx9).elim) (by show 2 + 3 < D + 10; omega) (by show 0 + (13 * (2 + 1) + 43) ≤ 80 * (D + 2); omega) (Nat.le_refl 1) (Nat.le_refl 6) hlocks (fun t hal hsz9 hk9 => ⟨(), trivial, ⟨rfl, hW9.1.kept fun k q hq => hk9 _ (hW9.1 k q hq).lt⟩, Nat.le_trans hW9.2.2.1 hsz9, fun q h1 h2 => (hk9 q (Nat.lt_of_lt_of_le h1 hW9.2.2.1)).trans (hW9.2.2.2.1 q h1 h2)⟩) hW9.2.2.2.2 (Nat.le_refl 1) (Nat.le_refl 6)
      refine hp w ?_
      have hg : goodWord w = true := by
        cases hg : goodWord w with
        | true => rfl
        | false =>
          have h8 : w ∈ pTw := List.mem_filter.mpr ⟨hw, by rw [hg]; rfl⟩
          rw [pTw_nil] at h8
          cases h8
      exact pTall_in w hw hg
  have hG := prun_snd0 (x_hS 4) hCx (fun q hq => Or.inr hq) hRt (fun i => Nat.beq i 10) hX (x_sound (d := D) (by show D + 1 ≤ D + 10; omega) (by show 80 * (D + 1) ≤ 80 * (D + 2); omega)) 60
  have h7 := hG 0 _ _ _ _ h s.heap [] arr ⟨hP, hD, va_S.rf⟩ hl
  rw [if_pos rfl] at h7
  exact h7
set_option maxRecDepth 100000 in
set_option maxHeartbeats 4000000 in
theorem thr_thing (l : Launch) (hfl : l.stackTraces = false) (G : va_G) (ad : Nat → Nat) (cA : Nat → ClassId) (D : Nat) (M M1 : pM) (a : List pV) (ha : a.length ≤ 3) (h : xRc D 5 10 a M = some (none, M1)) (sz a1 a2 a3 : Nat) : vx_Met l (pyn 5) (pwk 5) ({ frames := D + 10, cells := 1, slots := 6, locals := 80 * (D + 2) }) (va_Pc (a.map (ptv ad)) (pPreT G ad cA M sz a1 a2 a3)) (va_Qi (fun (_ : Int32) (_ : Unit) => False) (fun _ _ => True) (va_A (pW ad cA M) sz)) (vx_X (fun _ : Unit => True) (fun E _ t => E = pNSE ∧ va_P G pcl (pW ad cA M1) t.heap) (va_A (pW ad cA M) sz)) 1 6 (va_A (pW ad cA M) sz) := by
  refine vx_ofW (cc := pcc 5) (maxL := 3) (ret := some .int) (by decide +kernel) rfl ?_
  intro p e s m args below meth c s₁ B hml htab hv
  obtain ⟨rfl, ⟨hsz, hP, hK, hD0, hN, hRO⟩, hT⟩ := hv
  have hx := B.exec
  have hb := B.bytes
  have hr := B.returns
  have hts := atoms_spec (ws := pwk 5) B.pre
  have hown : s.vm.findClass (pyn 5).cls = some m.cls := findClass_of_methodNamed B.named
  have hlocks := B.notSynchronized
  subst hsz
  have hD := hD0.self (sz := s.heap.size)
  have hl := lv_entry (a.map (ptv ad)) (n := 3) (by rw [p_args_len, List.length_map]; exact ha)
  rw [lg_entry_eq]
  generalize (lg_sl (a.map (ptv ad)) ++ List.replicate (3 - (lg_sl (a.map (ptv ad))).length) Slot.unset).toArray = arr at hl ⊢
  have hl := p_entry ha hl
  have hp : ∀ w ∈ pws, w.before (List.map (ptv ad) a).toArray s = true := fun w hw => hts w (List.mem_cons_of_mem _ hw)
  have hCx : pCx p (headSpec (pwk 5) ({ frames := D + 10, cells := 1, slots := 6, locals := 80 * (D + 2) })).room s m (List.map (ptv ad) a).toArray meth c G ad cA (va_A (pW ad cA M) s.heap.size) s.heap (pyn 5).cls (pcc 5) 3 0 0 := ⟨hx, hb, hml, hown, hp, hN, hK, Nat.zero_le _, Nat.zero_le _, by show 1 ≤ D + 10; omega, by show 30 ≤ 80 * (D + 2); omega, rfl, hRO⟩
  have hRt : pRt p l e (headSpec (pwk 5) ({ frames := D + 10, cells := 1, slots := 6, locals := 80 * (D + 2) })).room s m (List.map (ptv ad) a).toArray below meth c G ad cA (va_A (pW ad cA M) s.heap.size) s.heap 0 0 (fun r => if r.1 = none then vx_MQ below (va_Qi (fun (_ : Int32) (_ : Unit) => False) (fun _ _ => True) (va_A (pW ad cA M) s.heap.size)) (vx_X (fun _ : Unit => True) (fun E _ t => E = pNSE ∧ va_P G pcl (pW ad cA r.2) t.heap) (va_A (pW ad cA M) s.heap.size)) (List.map (ptv ad) a).toArray s 1 6 (va_A (pW ad cA M) s.heap.size) else fun _ => True) (pcc 5) (some .int) := by
    refine ⟨fun _ v M9 H9 locs9 arr9 pc9 _ _ => ?_, fun hr9 => ?_, fun hr9 => (by cases hr9), fun hr9 => ?_⟩
    · intro T _ _; exact ⟨_, Steps.refl _, trivial⟩
    · rcases hr9 with hr9 | hr9 <;> cases hr9
    · obtain ⟨_, hr9⟩ := hr9; cases hr9
  have hX : pGd p l e (headSpec (pwk 5) ({ frames := D + 10, cells := 1, slots := 6, locals := 80 * (D + 2) })).room s m (List.map (ptv ad) a).toArray below meth c G ad cA (va_A (pW ad cA M) s.heap.size) s.heap 0 0 (fun r => if r.1 = none then vx_MQ below (va_Qi (fun (_ : Int32) (_ : Unit) => False) (fun _ _ => True) (va_A (pW ad cA M) s.heap.size)) (vx_X (fun _ : Unit => True) (fun E _ t => E = pNSE ∧ va_P G pcl (pW ad cA r.2) t.heap) (va_A (pW ad cA M) s.heap.size)) (List.map (ptv ad) a).toArray s 1 6 (va_A (pW ad cA M) s.heap.size) else fun _ => True) 3 (ppcs 5) (fun i _ st M => bif Nat.beq i 10 && st.isEmpty then some (none, M) else none) := by
    intro i ls st M9 r h9 H locs arr9 hW9 hl9
    cases hi : (Nat.beq i 10 && st.isEmpty) with
    | false => dsimp only at h9; rw [hi] at h9; cases h9
    | true =>
      dsimp only at h9
      rw [hi] at h9
      cases h9
      have hi1 : i = 10 := Nat.eq_of_beq_eq_true (Bool.and_eq_true_iff.mp hi).1
      have hs1 : st = [] := List.isEmpty_iff.mp (Bool.and_eq_true_iff.mp hi).2
      subst hi1
      subst hs1
      rw [if_pos rfl]
      refine vx_throwS (own := RX11) (cls := pNSE) (names := ["java/lang/RuntimeException", "java/lang/Exception"]) (ik := 140) (is := 167) (ic := 144) hx hb hfl hown (by decide +kernel) (by decide +kernel) (hp _ (pmt6 48 rfl rfl)) (hp _ (pmt1 24 rfl rfl)) hT.2.2.2.1 (fun w hw => ?_) (by decide +kernel) hT.1 hT.2.1 hW9.2.2 (hl9.2.1.trans hml.symm) (by decide +kernel) (by decide +kernel) (by decide +kernel) (by decide +kernel) (by decide +kernel) (fun x hx9 => (htab x hx9).elim) (by show 2 + 3 < D + 10; omega) (by show 0 + (13 * (2 + 1) + 43) ≤ 80 * (D + 2); omega) (Nat.le_refl 1) (Nat.le_refl 6) hlocks (fun t hal hsz9 hk9 => ⟨(), trivial, ⟨rfl, hW9.1.kept fun k q hq => hk9 _ (hW9.1 k q hq).lt⟩, Nat.le_trans hW9.2.2.1 hsz9, fun q h1 h2 => (hk9 q (Nat.lt_of_lt_of_le h1 hW9.2.2.1)).trans (hW9.2.2.2.1 q h1 h2)⟩) hW9.2.2.2.2 (Nat.le_refl 1) (Nat.le_refl 6)
      refine hp w ?_
      have hg : goodWord w = true := by
        cases hg : goodWord w with
        | true => rfl
        | false =>
          have h8 : w ∈ pTw := List.mem_filter.mpr ⟨hw, by rw [hg]; rfl⟩
          rw [pTw_nil] at h8
          cases h8
      exact pTall_in w hw hg
  have hG := prun_snd0 (x_hS 5) hCx (fun q hq => Or.inr hq) hRt (fun i => Nat.beq i 10) hX (x_sound (d := D) (by show D + 1 ≤ D + 10; omega) (by show 80 * (D + 1) ≤ 80 * (D + 2); omega)) 60
  have h7 := hG 0 _ _ _ _ h s.heap [] arr ⟨hP, hD, va_S.rf⟩ hl
  rw [if_pos rfl] at h7
  exact h7
set_option maxRecDepth 100000 in
set_option maxHeartbeats 4000000 in
theorem thr_row (l : Launch) (hfl : l.stackTraces = false) (G : va_G) (ad : Nat → Nat) (cA : Nat → ClassId) (D : Nat) (M M1 : pM) (a : List pV) (ha : a.length ≤ 2) (h : xRc D 46 7 a M = some (none, M1)) (sz a1 a2 a3 : Nat) : vx_Met l (pyn 46) (pwk 46) ({ frames := D + 10, cells := 1, slots := 6, locals := 80 * (D + 2) }) (va_Pc (a.map (ptv ad)) (pPreT G ad cA M sz a1 a2 a3)) (va_Qi (fun (_ : Int32) (_ : Unit) => False) (fun _ _ => True) (va_A (pW ad cA M) sz)) (vx_X (fun _ : Unit => True) (fun E _ t => E = pNSE ∧ va_P G pcl (pW ad cA M1) t.heap) (va_A (pW ad cA M) sz)) 1 6 (va_A (pW ad cA M) sz) := by
  refine vx_ofW (cc := pcc 46) (maxL := 2) (ret := some .int) (by decide +kernel) rfl ?_
  intro p e s m args below meth c s₁ B hml htab hv
  obtain ⟨rfl, ⟨hsz, hP, hK, hD0, hN, hRO⟩, hT⟩ := hv
  have hx := B.exec
  have hb := B.bytes
  have hr := B.returns
  have hts := atoms_spec (ws := pwk 46) B.pre
  have hown : s.vm.findClass (pyn 46).cls = some m.cls := findClass_of_methodNamed B.named
  have hlocks := B.notSynchronized
  subst hsz
  have hD := hD0.self (sz := s.heap.size)
  have hl := lv_entry (a.map (ptv ad)) (n := 2) (by rw [p_args_len, List.length_map]; exact ha)
  rw [lg_entry_eq]
  generalize (lg_sl (a.map (ptv ad)) ++ List.replicate (2 - (lg_sl (a.map (ptv ad))).length) Slot.unset).toArray = arr at hl ⊢
  have hl := p_entry ha hl
  have hp : ∀ w ∈ pws, w.before (List.map (ptv ad) a).toArray s = true := fun w hw => hts w (List.mem_cons_of_mem _ hw)
  have hCx : pCx p (headSpec (pwk 46) ({ frames := D + 10, cells := 1, slots := 6, locals := 80 * (D + 2) })).room s m (List.map (ptv ad) a).toArray meth c G ad cA (va_A (pW ad cA M) s.heap.size) s.heap (pyn 46).cls (pcc 46) 2 0 0 := ⟨hx, hb, hml, hown, hp, hN, hK, Nat.zero_le _, Nat.zero_le _, by show 1 ≤ D + 10; omega, by show 30 ≤ 80 * (D + 2); omega, rfl, hRO⟩
  have hRt : pRt p l e (headSpec (pwk 46) ({ frames := D + 10, cells := 1, slots := 6, locals := 80 * (D + 2) })).room s m (List.map (ptv ad) a).toArray below meth c G ad cA (va_A (pW ad cA M) s.heap.size) s.heap 0 0 (fun r => if r.1 = none then vx_MQ below (va_Qi (fun (_ : Int32) (_ : Unit) => False) (fun _ _ => True) (va_A (pW ad cA M) s.heap.size)) (vx_X (fun _ : Unit => True) (fun E _ t => E = pNSE ∧ va_P G pcl (pW ad cA r.2) t.heap) (va_A (pW ad cA M) s.heap.size)) (List.map (ptv ad) a).toArray s 1 6 (va_A (pW ad cA M) s.heap.size) else fun _ => True) (pcc 46) (some .int) := by
    refine ⟨fun _ v M9 H9 locs9 arr9 pc9 _ _ => ?_, fun hr9 => ?_, fun hr9 => (by cases hr9), fun hr9 => ?_⟩
    · intro T _ _; exact ⟨_, Steps.refl _, trivial⟩
    · rcases hr9 with hr9 | hr9 <;> cases hr9
    · obtain ⟨_, hr9⟩ := hr9; cases hr9
  have hX : pGd p l e (headSpec (pwk 46) ({ frames := D + 10, cells := 1, slots := 6, locals := 80 * (D + 2) })).room s m (List.map (ptv ad) a).toArray below meth c G ad cA (va_A (pW ad cA M) s.heap.size) s.heap 0 0 (fun r => if r.1 = none then vx_MQ below (va_Qi (fun (_ : Int32) (_ : Unit) => False) (fun _ _ => True) (va_A (pW ad cA M) s.heap.size)) (vx_X (fun _ : Unit => True) (fun E _ t => E = pNSE ∧ va_P G pcl (pW ad cA r.2) t.heap) (va_A (pW ad cA M) s.heap.size)) (List.map (ptv ad) a).toArray s 1 6 (va_A (pW ad cA M) s.heap.size) else fun _ => True) 2 (ppcs 46) (fun i _ st M => bif Nat.beq i 7 && st.isEmpty then some (none, M) else none) := by
    intro i ls st M9 r h9 H locs arr9 hW9 hl9
    cases hi : (Nat.beq i 7 && st.isEmpty) with
    | false => dsimp only at h9; rw [hi] at h9; cases h9
    | true =>
      dsimp only at h9
      rw [hi] at h9
      cases h9
      have hi1 : i = 7 := Nat.eq_of_beq_eq_true (Bool.and_eq_true_iff.mp hi).1
      have hs1 : st = [] := List.isEmpty_iff.mp (Bool.and_eq_true_iff.mp hi).2
      subst hi1
      subst hs1
      rw [if_pos rfl]
      refine vx_throwSW (own := RX11) (cls := pNSE) (names := ["java/lang/RuntimeException", "java/lang/Exception"]) (ik := 140) (is := 440) (ic := 144) hx hb hfl hown (by decide +kernel) (by decide +kernel) (hp _ (pmt6 48 rfl rfl)) (hp _ (pmt1 24 rfl rfl)) hT.2.2.2.2 (fun w hw => ?_) (by decide +kernel) hT.1 hT.2.1 hW9.2.2 (hl9.2.1.trans hml.symm) (by decide +kernel) (by decide +kernel) (by decide +kernel) (by decide +kernel) (by decide +kernel) (fun x hx9 => (htab x hx9).elim) (by show 2 + 3 < D + 10; omega) (by show 0 + (13 * (2 + 1) + 43) ≤ 80 * (D + 2); omega) (Nat.le_refl 1) (Nat.le_refl 6) hlocks (fun t hal hsz9 hk9 => ⟨(), trivial, ⟨rfl, hW9.1.kept fun k q hq => hk9 _ (hW9.1 k q hq).lt⟩, Nat.le_trans hW9.2.2.1 hsz9, fun q h1 h2 => (hk9 q (Nat.lt_of_lt_of_le h1 hW9.2.2.1)).trans (hW9.2.2.2.1 q h1 h2)⟩) hW9.2.2.2.2 (Nat.le_refl 1) (Nat.le_refl 6)
      refine hp w ?_
      have hg : goodWord w = true := by
        cases hg : goodWord w with
        | true => rfl
        | false =>
          have h8 : w ∈ pTw := List.mem_filter.mpr ⟨hw, by rw [hg]; rfl⟩
          rw [pTw_nil] at h8
          cases h8
      exact pTall_in w hw hg
  have hG := prun_snd0 (x_hS 46) hCx (fun q hq => Or.inr hq) hRt (fun i => Nat.beq i 7) hX (x_sound (d := D) (by show D + 1 ≤ D + 10; omega) (by show 80 * (D + 1) ≤ 80 * (D + 2); omega)) 60
  have h7 := hG 0 _ _ _ _ h s.heap [] arr ⟨hP, hD, va_S.rf⟩ hl
  rw [if_pos rfl] at h7
  exact h7
set_option maxRecDepth 100000 in
set_option maxHeartbeats 4000000 in
theorem L_room (l : Launch) (hfl : l.stackTraces = false) (G : va_G) (ad : Nat → Nat) (cA : Nat → ClassId) (D : Nat) (M M2 : pM) (p0 p1 v : Int) (h : yL D 4 10 [.inr 2, .inl p0, .inl p1] M = some (some (.inl v), M2)) (sz a1 a2 a3 : Nat) : Met l yL_room (Cond.codeWith yL_room cL_room 5 (some .int) [(0, 10, 13, 13)] :: pws) ({ frames := D + 12, cells := 1, slots := 6, locals := 80 * (D + 3) } : Room) (va_Pc [.ref (ad 0), .int (iI p0), .int (iI p1), .ref (ad 90)] (pPreT G ad cA M sz a1 a2 a3)) (pQ G ad cA (va_A (pW ad cA M) sz) (some (.inl v), M2)) 1 6 (va_A (pW ad cA M) sz) := by
  refine pm_ofWH (cc := cL_room) (maxL := 5) (ret := some .int) (hh := [(0, 10, 13, 13)]) (by decide +kernel) rfl ?_
  intro p e s m args below meth c s₁ B hml hv
  obtain ⟨rfl, ⟨hsz, hP, hK, hD0, hN, hRO⟩, hT⟩ := hv
  have hx := B.exec
  have hb := B.bytes
  have hr := B.returns
  have hts := atoms_spec (ws := Cond.codeWith yL_room cL_room 5 (some .int) [(0, 10, 13, 13)] :: pws) B.pre
  have htab := vx_table B (hts _ List.mem_cons_self)
  have hown : s.vm.findClass RL = some m.cls := findClass_of_methodNamed B.named
  have hlocks := B.notSynchronized
  have hp : ∀ w ∈ pws, w.before (List.toArray [.ref (ad 0), .int (iI p0), .int (iI p1), .ref (ad 90)]) s = true := fun w hw => hts w (List.mem_cons_of_mem _ hw)
  subst hsz
  have hD := hD0.self (sz := s.heap.size)
  have hA : ∀ q : Nat, s.heap.size ≤ q → va_A (pW ad cA M) s.heap.size q := fun q hq => Or.inr hq
  have hl := lv_entry ([.ref (ad 0), .int (iI p0), .int (iI p1), .ref (ad 90)]) (n := 5) (Nat.le_of_ble_eq_true rfl)
  rw [lg_entry_eq]
  generalize (lg_sl ([.ref (ad 0), .int (iI p0), .int (iI p1), .ref (ad 90)]) ++ List.replicate (5 - (lg_sl ([.ref (ad 0), .int (iI p0), .int (iI p1), .ref (ad 90)])).length) Slot.unset).toArray = ls at hl ⊢
  have hl : lv_has ls 5 [(0, .ref (ad 0)), (1, .int (iI p0)), (2, .int (iI p1)), (3, .ref (ad 90))] := hl
  have hW : pWd G ad cA (va_A (pW ad cA M) s.heap.size) s.heap M s.heap [] := ⟨hP, hD, va_S.rf⟩
  refine lv_aload_n (k := 3) hx hb (show decode cL_room 0 = .ok (.aload_n 3, 1) by decide +kernel) rfl (lv_at hl 3 rfl) ?_
  refine lv_iconst (v := iI 0) hx hb (show decode cL_room 1 = .ok (.iconst 0, 1) by decide +kernel) rfl ?_
  refine lv_aload_n (k := 0) hx hb (show decode cL_room 2 = .ok (.aload_n 0, 1) by decide +kernel) rfl (lv_at hl 0 rfl) ?_
  refine lv_iload_n (k := 1) hx hb (show decode cL_room 3 = .ok (.iload_n 1, 1) by decide +kernel) rfl (lv_at hl 1 rfl) ?_
  refine lv_iload_n (k := 2) hx hb (show decode cL_room 4 = .ok (.iload_n 2, 1) by decide +kernel) rfl (lv_at hl 2 rfl) ?_
  have hat : (pW ad cA M)[0]? = some (ad 0, .inr (11, (List.range (pL 0)).map fun k => ptv ad (pfv 0 k M))) := pW_at ad cA M (by decide)
  unfold yL at h
  split at h
  · rename_i v1 M1 hF
    cases h
    obtain ⟨rm, c1, c2, c3, c4, hMet⟩ := x_sound (l := l) (G := G) (ad := ad) (cA := cA) (d := D) (R := ({ frames := D + 12, cells := 1, slots := 6, locals := 80 * (D + 3) } : Room)) (by show D + 1 ≤ D + 12; omega) (by show 80 * (D + 1) ≤ 80 * (D + 3); omega) 4 _ _ _ hF
    refine pcall_go hA hW (va_runV (b := ad 0) (C := RX11) (As := [.int (iI p0), .int (iI p1)]) (rest := [.int (iI 0), .ref (ad 90)]) ⟨hx, hb, hml, hown, hp⟩ (hMet s.heap.size) ⟨pCB (n := 2) cal_4 hp (pmt6 44 rfl rfl) c1 c2 c3 c4, hp _ (pmt6 45 rfl rfl), hp _ (pmt6 46 rfl rfl)⟩ ⟨pblind, va_recv (ci := 11) hK hP rfl hat, fun U hU hWm => ⟨rfl, ppre hA hW rfl hRO hK hN U hU hWm⟩⟩ rfl rfl hl.1 rfl (lv_room (Nat.le_of_ble_eq_true rfl)) (show decode cL_room 5 = .ok (.invokevirtual 7, 3) by decide +kernel) ⟨Nat.zero_le _, Nat.zero_le _⟩) (fun H1 locs1 hW1 => ?_)
    refine W.widen (k := 1) (n := 6) (Nat.zero_le _) (Nat.zero_le _) ?_
    show W p l e _ s m _ below meth c H1 locs1 1 6 _ (F0 m 8 ls [.int (iI v1), .int (iI 0), .ref (ad 90)])
    refine lv_i2l hx hb (show decode cL_room 8 = .ok (.i2l, 1) by decide +kernel) rfl ?_
    obtain ⟨t0, ht0⟩ := pty_out cA
    refine va_last hx hb hK hW1.1 hW1.2.1 hW1.2.2 90 t0 pW_out ht0 (by unfold vp_in; decide +kernel) (show decode cL_room 9 = .ok (.lastore, 1) by decide +kernel) (fun H2 locs2 hP2 hD2 hS2 => ?_)
    have hP2 : va_P G pcl ((pW ad cA M1).set 90 (ad 90, .inl (cA 90, 1, .inr (.inl (vp_updL (fun i => Int64.ofInt (M1 90 i)) 0 (iI v1).toInt64))))) H2 := hP2
    rw [pW_outset] at hP2
    refine lv_goto (tgt := 17) hx hb (show decode cL_room 10 = .ok (.goto 7, 3) by decide +kernel) (by decide +kernel) ?_
    refine lv_iconst (v := iI 0) hx hb (show decode cL_room 17 = .ok (.iconst 0, 1) by decide +kernel) rfl ?_
    exact W.iret (v := iI 0) hx hb hr (fun t ht hWm => ⟨rfl, by rw [ht]; exact hP2, hS2.F ht⟩) hS2.2.2 (show decode cL_room 18 = .ok (.ireturn, 1) by decide +kernel) hlocks
  · split at h
    · rename_i M1 hF
      cases h
      have hMet := thr_room l hfl G ad cA D M M2 [.inr 2, .inl p0, .inl p1] (by decide) hF s.heap.size a1 a2 a3
      refine vx_calli (hr := vx_runV (b := ad 0) (C := RX11) (As := [.int (iI p0), .int (iI p1)]) (rest := [.int (iI 0), .ref (ad 90)]) ⟨hx, hb, hml, hown, hp⟩ hMet ⟨callB_of (n := 2) hp (pGoodIn cal_4) rfl rfl rfl (hp _ (cal_4).2.2.2.1) (hp _ (pmt6 44 rfl rfl)) (cal_4).2.2.2.2 ⟨by show D + 10 + 1 ≤ D + 12; omega, by show 8 + (3 + 11) + 80 * (D + 2) ≤ 80 * (D + 3); omega⟩, hp _ (pmt6 45 rfl rfl), hp _ (pmt6 46 rfl rfl)⟩ ⟨pblindT, va_recv (ci := 11) hK hP rfl hat, fun U hU hWm => ⟨rfl, ppre hA hW rfl hRO hK hN U hU hWm, pTh_at hA hW rfl hT hU hWm⟩⟩ rfl rfl hl.1 rfl (lv_room (Nat.le_of_ble_eq_true rfl)) (show decode cL_room 5 = .ok (.invokevirtual 7, 3) by decide +kernel) ⟨Nat.le_refl 1, Nat.le_refl 6⟩) va_S.rf (fun q _ h => h) (fun q h => h) (fun q _ h => h) (fun E ce q9 u t H1 locs1 ht hvm _ hBX hz hk hS1 hcell hcv hcl => ?_) (fun r u t H1 locs1 _ _ hf _ _ _ _ => hf.elim)
      obtain ⟨rfl, hP1⟩ := hBX
      rw [ht] at hP1
      refine vx_catch (name := pNSE) hown [] _ [] htab (fun z hz => nomatch hz) rfl (by decide +kernel) (hp _ (pmt6 43 rfl rfl)) (hp _ (pmt6 50 rfl rfl)) hcell hcv hcl ?_
      show W p l e _ s m _ below meth c H1 locs1 1 6 _ (F0 m 13 ls [.ref q9])
      refine lv_astore (lv' := (4, .ref q9) :: [(0, .ref (ad 0)), (1, .int (iI p0)), (2, .int (iI p1)), (3, .ref (ad 90))]) hx hb (show decode cL_room 13 = .ok (.astore 4, 2) by decide +kernel) hl (by decide) rfl (fun ls2 hl2 => ?_)
      refine lv_iconst (v := iI 1) hx hb (show decode cL_room 15 = .ok (.iconst 1, 1) by decide +kernel) rfl ?_
      exact W.iret (v := iI 1) hx hb hr (fun t ht hWm => ⟨rfl, by rw [ht]; exact hP1, hS1.F ht⟩) hS1.2.2 (show decode cL_room 16 = .ok (.ireturn, 1) by decide +kernel) hlocks
    · cases h
set_option maxRecDepth 100000 in
set_option maxHeartbeats 4000000 in
theorem L_thing (l : Launch) (hfl : l.stackTraces = false) (G : va_G) (ad : Nat → Nat) (cA : Nat → ClassId) (D : Nat) (M M2 : pM) (p0 p1 v : Int) (h : yL D 5 10 [.inr 2, .inl p0, .inl p1] M = some (some (.inl v), M2)) (sz a1 a2 a3 : Nat) : Met l yL_thing (Cond.codeWith yL_thing cL_thing 5 (some .int) [(0, 10, 13, 13)] :: pws) ({ frames := D + 12, cells := 1, slots := 6, locals := 80 * (D + 3) } : Room) (va_Pc [.ref (ad 0), .int (iI p0), .int (iI p1), .ref (ad 90)] (pPreT G ad cA M sz a1 a2 a3)) (pQ G ad cA (va_A (pW ad cA M) sz) (some (.inl v), M2)) 1 6 (va_A (pW ad cA M) sz) := by
  refine pm_ofWH (cc := cL_thing) (maxL := 5) (ret := some .int) (hh := [(0, 10, 13, 13)]) (by decide +kernel) rfl ?_
  intro p e s m args below meth c s₁ B hml hv
  obtain ⟨rfl, ⟨hsz, hP, hK, hD0, hN, hRO⟩, hT⟩ := hv
  have hx := B.exec
  have hb := B.bytes
  have hr := B.returns
  have hts := atoms_spec (ws := Cond.codeWith yL_thing cL_thing 5 (some .int) [(0, 10, 13, 13)] :: pws) B.pre
  have htab := vx_table B (hts _ List.mem_cons_self)
  have hown : s.vm.findClass RL = some m.cls := findClass_of_methodNamed B.named
  have hlocks := B.notSynchronized
  have hp : ∀ w ∈ pws, w.before (List.toArray [.ref (ad 0), .int (iI p0), .int (iI p1), .ref (ad 90)]) s = true := fun w hw => hts w (List.mem_cons_of_mem _ hw)
  subst hsz
  have hD := hD0.self (sz := s.heap.size)
  have hA : ∀ q : Nat, s.heap.size ≤ q → va_A (pW ad cA M) s.heap.size q := fun q hq => Or.inr hq
  have hl := lv_entry ([.ref (ad 0), .int (iI p0), .int (iI p1), .ref (ad 90)]) (n := 5) (Nat.le_of_ble_eq_true rfl)
  rw [lg_entry_eq]
  generalize (lg_sl ([.ref (ad 0), .int (iI p0), .int (iI p1), .ref (ad 90)]) ++ List.replicate (5 - (lg_sl ([.ref (ad 0), .int (iI p0), .int (iI p1), .ref (ad 90)])).length) Slot.unset).toArray = ls at hl ⊢
  have hl : lv_has ls 5 [(0, .ref (ad 0)), (1, .int (iI p0)), (2, .int (iI p1)), (3, .ref (ad 90))] := hl
  have hW : pWd G ad cA (va_A (pW ad cA M) s.heap.size) s.heap M s.heap [] := ⟨hP, hD, va_S.rf⟩
  refine lv_aload_n (k := 3) hx hb (show decode cL_thing 0 = .ok (.aload_n 3, 1) by decide +kernel) rfl (lv_at hl 3 rfl) ?_
  refine lv_iconst (v := iI 0) hx hb (show decode cL_thing 1 = .ok (.iconst 0, 1) by decide +kernel) rfl ?_
  refine lv_aload_n (k := 0) hx hb (show decode cL_thing 2 = .ok (.aload_n 0, 1) by decide +kernel) rfl (lv_at hl 0 rfl) ?_
  refine lv_iload_n (k := 1) hx hb (show decode cL_thing 3 = .ok (.iload_n 1, 1) by decide +kernel) rfl (lv_at hl 1 rfl) ?_
  refine lv_iload_n (k := 2) hx hb (show decode cL_thing 4 = .ok (.iload_n 2, 1) by decide +kernel) rfl (lv_at hl 2 rfl) ?_
  have hat : (pW ad cA M)[0]? = some (ad 0, .inr (11, (List.range (pL 0)).map fun k => ptv ad (pfv 0 k M))) := pW_at ad cA M (by decide)
  unfold yL at h
  split at h
  · rename_i v1 M1 hF
    cases h
    obtain ⟨rm, c1, c2, c3, c4, hMet⟩ := x_sound (l := l) (G := G) (ad := ad) (cA := cA) (d := D) (R := ({ frames := D + 12, cells := 1, slots := 6, locals := 80 * (D + 3) } : Room)) (by show D + 1 ≤ D + 12; omega) (by show 80 * (D + 1) ≤ 80 * (D + 3); omega) 5 _ _ _ hF
    refine pcall_go hA hW (va_runV (b := ad 0) (C := RX11) (As := [.int (iI p0), .int (iI p1)]) (rest := [.int (iI 0), .ref (ad 90)]) ⟨hx, hb, hml, hown, hp⟩ (hMet s.heap.size) ⟨pCB (n := 2) cal_5 hp (pmt6 119 rfl rfl) c1 c2 c3 c4, hp _ (pmt6 120 rfl rfl), hp _ (pmt6 121 rfl rfl)⟩ ⟨pblind, va_recv (ci := 11) hK hP rfl hat, fun U hU hWm => ⟨rfl, ppre hA hW rfl hRO hK hN U hU hWm⟩⟩ rfl rfl hl.1 rfl (lv_room (Nat.le_of_ble_eq_true rfl)) (show decode cL_thing 5 = .ok (.invokevirtual 15, 3) by decide +kernel) ⟨Nat.zero_le _, Nat.zero_le _⟩) (fun H1 locs1 hW1 => ?_)
    refine W.widen (k := 1) (n := 6) (Nat.zero_le _) (Nat.zero_le _) ?_
    show W p l e _ s m _ below meth c H1 locs1 1 6 _ (F0 m 8 ls [.int (iI v1), .int (iI 0), .ref (ad 90)])
    refine lv_i2l hx hb (show decode cL_thing 8 = .ok (.i2l, 1) by decide +kernel) rfl ?_
    obtain ⟨t0, ht0⟩ := pty_out cA
    refine va_last hx hb hK hW1.1 hW1.2.1 hW1.2.2 90 t0 pW_out ht0 (by unfold vp_in; decide +kernel) (show decode cL_thing 9 = .ok (.lastore, 1) by decide +kernel) (fun H2 locs2 hP2 hD2 hS2 => ?_)
    have hP2 : va_P G pcl ((pW ad cA M1).set 90 (ad 90, .inl (cA 90, 1, .inr (.inl (vp_updL (fun i => Int64.ofInt (M1 90 i)) 0 (iI v1).toInt64))))) H2 := hP2
    rw [pW_outset] at hP2
    refine lv_goto (tgt := 17) hx hb (show decode cL_thing 10 = .ok (.goto 7, 3) by decide +kernel) (by decide +kernel) ?_
    refine lv_iconst (v := iI 0) hx hb (show decode cL_thing 17 = .ok (.iconst 0, 1) by decide +kernel) rfl ?_
    exact W.iret (v := iI 0) hx hb hr (fun t ht hWm => ⟨rfl, by rw [ht]; exact hP2, hS2.F ht⟩) hS2.2.2 (show decode cL_thing 18 = .ok (.ireturn, 1) by decide +kernel) hlocks
  · split at h
    · rename_i M1 hF
      cases h
      have hMet := thr_thing l hfl G ad cA D M M2 [.inr 2, .inl p0, .inl p1] (by decide) hF s.heap.size a1 a2 a3
      refine vx_calli (hr := vx_runV (b := ad 0) (C := RX11) (As := [.int (iI p0), .int (iI p1)]) (rest := [.int (iI 0), .ref (ad 90)]) ⟨hx, hb, hml, hown, hp⟩ hMet ⟨callB_of (n := 2) hp (pGoodIn cal_5) rfl rfl rfl (hp _ (cal_5).2.2.2.1) (hp _ (pmt6 119 rfl rfl)) (cal_5).2.2.2.2 ⟨by show D + 10 + 1 ≤ D + 12; omega, by show 8 + (3 + 11) + 80 * (D + 2) ≤ 80 * (D + 3); omega⟩, hp _ (pmt6 120 rfl rfl), hp _ (pmt6 121 rfl rfl)⟩ ⟨pblindT, va_recv (ci := 11) hK hP rfl hat, fun U hU hWm => ⟨rfl, ppre hA hW rfl hRO hK hN U hU hWm, pTh_at hA hW rfl hT hU hWm⟩⟩ rfl rfl hl.1 rfl (lv_room (Nat.le_of_ble_eq_true rfl)) (show decode cL_thing 5 = .ok (.invokevirtual 15, 3) by decide +kernel) ⟨Nat.le_refl 1, Nat.le_refl 6⟩) va_S.rf (fun q _ h => h) (fun q h => h) (fun q _ h => h) (fun E ce q9 u t H1 locs1 ht hvm _ hBX hz hk hS1 hcell hcv hcl => ?_) (fun r u t H1 locs1 _ _ hf _ _ _ _ => hf.elim)
      obtain ⟨rfl, hP1⟩ := hBX
      rw [ht] at hP1
      refine vx_catch (name := pNSE) hown [] _ [] htab (fun z hz => nomatch hz) rfl (by decide +kernel) (hp _ (pmt6 43 rfl rfl)) (hp _ (pmt6 50 rfl rfl)) hcell hcv hcl ?_
      show W p l e _ s m _ below meth c H1 locs1 1 6 _ (F0 m 13 ls [.ref q9])
      refine lv_astore (lv' := (4, .ref q9) :: [(0, .ref (ad 0)), (1, .int (iI p0)), (2, .int (iI p1)), (3, .ref (ad 90))]) hx hb (show decode cL_thing 13 = .ok (.astore 4, 2) by decide +kernel) hl (by decide) rfl (fun ls2 hl2 => ?_)
      refine lv_iconst (v := iI 1) hx hb (show decode cL_thing 15 = .ok (.iconst 1, 1) by decide +kernel) rfl ?_
      exact W.iret (v := iI 1) hx hb hr (fun t ht hWm => ⟨rfl, by rw [ht]; exact hP1, hS1.F ht⟩) hS1.2.2 (show decode cL_thing 16 = .ok (.ireturn, 1) by decide +kernel) hlocks
    · cases h
set_option maxRecDepth 100000 in
set_option maxHeartbeats 4000000 in
theorem L_row (l : Launch) (hfl : l.stackTraces = false) (G : va_G) (ad : Nat → Nat) (cA : Nat → ClassId) (D : Nat) (M M2 : pM) (p0 v : Int) (h : yL D 46 7 [.inr 2, .inl p0] M = some (some (.inl v), M2)) (sz a1 a2 a3 : Nat) : Met l yL_row (Cond.codeWith yL_row cL_row 4 (some .int) [(0, 9, 12, 13)] :: pws) ({ frames := D + 12, cells := 1, slots := 6, locals := 80 * (D + 3) } : Room) (va_Pc [.ref (ad 0), .int (iI p0), .ref (ad 90)] (pPreT G ad cA M sz a1 a2 a3)) (pQ G ad cA (va_A (pW ad cA M) sz) (some (.inl v), M2)) 1 6 (va_A (pW ad cA M) sz) := by
  refine pm_ofWH (cc := cL_row) (maxL := 4) (ret := some .int) (hh := [(0, 9, 12, 13)]) (by decide +kernel) rfl ?_
  intro p e s m args below meth c s₁ B hml hv
  obtain ⟨rfl, ⟨hsz, hP, hK, hD0, hN, hRO⟩, hT⟩ := hv
  have hx := B.exec
  have hb := B.bytes
  have hr := B.returns
  have hts := atoms_spec (ws := Cond.codeWith yL_row cL_row 4 (some .int) [(0, 9, 12, 13)] :: pws) B.pre
  have htab := vx_table B (hts _ List.mem_cons_self)
  have hown : s.vm.findClass RL = some m.cls := findClass_of_methodNamed B.named
  have hlocks := B.notSynchronized
  have hp : ∀ w ∈ pws, w.before (List.toArray [.ref (ad 0), .int (iI p0), .ref (ad 90)]) s = true := fun w hw => hts w (List.mem_cons_of_mem _ hw)
  subst hsz
  have hD := hD0.self (sz := s.heap.size)
  have hA : ∀ q : Nat, s.heap.size ≤ q → va_A (pW ad cA M) s.heap.size q := fun q hq => Or.inr hq
  have hl := lv_entry ([.ref (ad 0), .int (iI p0), .ref (ad 90)]) (n := 4) (Nat.le_of_ble_eq_true rfl)
  rw [lg_entry_eq]
  generalize (lg_sl ([.ref (ad 0), .int (iI p0), .ref (ad 90)]) ++ List.replicate (4 - (lg_sl ([.ref (ad 0), .int (iI p0), .ref (ad 90)])).length) Slot.unset).toArray = ls at hl ⊢
  have hl : lv_has ls 4 [(0, .ref (ad 0)), (1, .int (iI p0)), (2, .ref (ad 90))] := hl
  have hW : pWd G ad cA (va_A (pW ad cA M) s.heap.size) s.heap M s.heap [] := ⟨hP, hD, va_S.rf⟩
  refine lv_aload_n (k := 2) hx hb (show decode cL_row 0 = .ok (.aload_n 2, 1) by decide +kernel) rfl (lv_at hl 2 rfl) ?_
  refine lv_iconst (v := iI 0) hx hb (show decode cL_row 1 = .ok (.iconst 0, 1) by decide +kernel) rfl ?_
  refine lv_aload_n (k := 0) hx hb (show decode cL_row 2 = .ok (.aload_n 0, 1) by decide +kernel) rfl (lv_at hl 0 rfl) ?_
  refine lv_iload_n (k := 1) hx hb (show decode cL_row 3 = .ok (.iload_n 1, 1) by decide +kernel) rfl (lv_at hl 1 rfl) ?_
  have hat : (pW ad cA M)[0]? = some (ad 0, .inr (11, (List.range (pL 0)).map fun k => ptv ad (pfv 0 k M))) := pW_at ad cA M (by decide)
  unfold yL at h
  split at h
  · rename_i v1 M1 hF
    cases h
    obtain ⟨rm, c1, c2, c3, c4, hMet⟩ := x_sound (l := l) (G := G) (ad := ad) (cA := cA) (d := D) (R := ({ frames := D + 12, cells := 1, slots := 6, locals := 80 * (D + 3) } : Room)) (by show D + 1 ≤ D + 12; omega) (by show 80 * (D + 1) ≤ 80 * (D + 3); omega) 46 _ _ _ hF
    refine pcall_go hA hW (va_runV (b := ad 0) (C := RX11) (As := [.int (iI p0)]) (rest := [.int (iI 0), .ref (ad 90)]) ⟨hx, hb, hml, hown, hp⟩ (hMet s.heap.size) ⟨pCB (n := 1) cal_46 hp (pmt6 128 rfl rfl) c1 c2 c3 c4, hp _ (pmt6 129 rfl rfl), hp _ (pmt6 130 rfl rfl)⟩ ⟨pblind, va_recv (ci := 11) hK hP rfl hat, fun U hU hWm => ⟨rfl, ppre hA hW rfl hRO hK hN U hU hWm⟩⟩ rfl rfl hl.1 rfl (lv_room (Nat.le_of_ble_eq_true rfl)) (show decode cL_row 4 = .ok (.invokevirtual 18, 3) by decide +kernel) ⟨Nat.zero_le _, Nat.zero_le _⟩) (fun H1 locs1 hW1 => ?_)
    refine W.widen (k := 1) (n := 6) (Nat.zero_le _) (Nat.zero_le _) ?_
    show W p l e _ s m _ below meth c H1 locs1 1 6 _ (F0 m 7 ls [.int (iI v1), .int (iI 0), .ref (ad 90)])
    refine lv_i2l hx hb (show decode cL_row 7 = .ok (.i2l, 1) by decide +kernel) rfl ?_
    obtain ⟨t0, ht0⟩ := pty_out cA
    refine va_last hx hb hK hW1.1 hW1.2.1 hW1.2.2 90 t0 pW_out ht0 (by unfold vp_in; decide +kernel) (show decode cL_row 8 = .ok (.lastore, 1) by decide +kernel) (fun H2 locs2 hP2 hD2 hS2 => ?_)
    have hP2 : va_P G pcl ((pW ad cA M1).set 90 (ad 90, .inl (cA 90, 1, .inr (.inl (vp_updL (fun i => Int64.ofInt (M1 90 i)) 0 (iI v1).toInt64))))) H2 := hP2
    rw [pW_outset] at hP2
    refine lv_goto (tgt := 15) hx hb (show decode cL_row 9 = .ok (.goto 6, 3) by decide +kernel) (by decide +kernel) ?_
    refine lv_iconst (v := iI 0) hx hb (show decode cL_row 15 = .ok (.iconst 0, 1) by decide +kernel) rfl ?_
    exact W.iret (v := iI 0) hx hb hr (fun t ht hWm => ⟨rfl, by rw [ht]; exact hP2, hS2.F ht⟩) hS2.2.2 (show decode cL_row 16 = .ok (.ireturn, 1) by decide +kernel) hlocks
  · split at h
    · rename_i M1 hF
      cases h
      have hMet := thr_row l hfl G ad cA D M M2 [.inr 2, .inl p0] (by decide) hF s.heap.size a1 a2 a3
      refine vx_calli (hr := vx_runV (b := ad 0) (C := RX11) (As := [.int (iI p0)]) (rest := [.int (iI 0), .ref (ad 90)]) ⟨hx, hb, hml, hown, hp⟩ hMet ⟨callB_of (n := 1) hp (pGoodIn cal_46) rfl rfl rfl (hp _ (cal_46).2.2.2.1) (hp _ (pmt6 128 rfl rfl)) (cal_46).2.2.2.2 ⟨by show D + 10 + 1 ≤ D + 12; omega, by show 8 + (2 + 11) + 80 * (D + 2) ≤ 80 * (D + 3); omega⟩, hp _ (pmt6 129 rfl rfl), hp _ (pmt6 130 rfl rfl)⟩ ⟨pblindT, va_recv (ci := 11) hK hP rfl hat, fun U hU hWm => ⟨rfl, ppre hA hW rfl hRO hK hN U hU hWm, pTh_at hA hW rfl hT hU hWm⟩⟩ rfl rfl hl.1 rfl (lv_room (Nat.le_of_ble_eq_true rfl)) (show decode cL_row 4 = .ok (.invokevirtual 18, 3) by decide +kernel) ⟨Nat.le_refl 1, Nat.le_refl 6⟩) va_S.rf (fun q _ h => h) (fun q h => h) (fun q _ h => h) (fun E ce q9 u t H1 locs1 ht hvm _ hBX hz hk hS1 hcell hcv hcl => ?_) (fun r u t H1 locs1 _ _ hf _ _ _ _ => hf.elim)
      obtain ⟨rfl, hP1⟩ := hBX
      rw [ht] at hP1
      refine vx_catch (name := pNSE) hown [] _ [] htab (fun z hz => nomatch hz) rfl (by decide +kernel) (hp _ (pmt6 43 rfl rfl)) (hp _ (pmt6 50 rfl rfl)) hcell hcv hcl ?_
      show W p l e _ s m _ below meth c H1 locs1 1 6 _ (F0 m 12 ls [.ref q9])
      refine lv_astore_n (k := 3) (lv' := (3, .ref q9) :: [(0, .ref (ad 0)), (1, .int (iI p0)), (2, .ref (ad 90))]) hx hb (show decode cL_row 12 = .ok (.astore_n 3, 1) by decide +kernel) rfl hl (by decide) rfl (fun ls2 hl2 => ?_)
      refine lv_iconst (v := iI 1) hx hb (show decode cL_row 13 = .ok (.iconst 1, 1) by decide +kernel) rfl ?_
      exact W.iret (v := iI 1) hx hb hr (fun t ht hWm => ⟨rfl, by rw [ht]; exact hP1, hS1.F ht⟩) hS1.2.2 (show decode cL_row 14 = .ok (.ireturn, 1) by decide +kernel) hlocks
    · cases h
