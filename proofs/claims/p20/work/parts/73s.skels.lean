section
/-! THE CLAIM OUT OF ONE WALK OF THE LAW'S BODY. Your part is whole_start (and what it stands on); all else here is the same for every law, but numbers. -/
def R_law : String := "SetsStayTogetherLaw"
def lw_P (b : Addr) (xs : List Int32) (args : Array Value) (s : State) : Prop := args = #[.ref b] ∧ s.IntsAt b xs ∧ xs.length ≤ 2560 ∧ (Jvm.Cond.and given_1 narrow_1).before args s = true
def lw_Q (_ : Array Value) (s : State) (o : Outcome) (t : State) : Prop := o = .returned (some (.int 1)) ∧ Framed s o t [] 601024 7293034
def lw_Z (below : List Frame) (a : Array Value) (s : State) : State → Prop := fun t => ∃ o, t.status = .running ∧ Ended t below o ∧ lw_Q a s o t
/-- the law's own end, with 1 on the stack, nothing written that was there before, its room as the claim has it -/
theorem lw_ret {p : Program} {l : Launch} {e : Env} {s : State} {m : MethodId} {below : List Frame} {meth : Method} {c : Code} {b : Nat} (hx : p.tables.exec = Jvm.exec) (hb : c.code = code) (hr : meth.sig.returnType = ret) (hlocks : meth.locks = false) {pc : Nat} {H : Heap} {ls : Array Slot} (hdg : decode code pc = .ok (.ireturn, 1)) : W p l e room_1 s m #[Value.ref b] below meth c H [] 601024 7293034 (lw_Z below #[Value.ref b] s) (F0 m pc ls [.int 1]) := by
  intro T hT X
  obtain ⟨fs, hret, hrun, hended, hW, hframe⟩ := X.leave (v := some (.int 1)) (hlocks := hlocks) (fun h => by rw [hr] at h; cases h)
  have hmeth' : T.vm.method? m = some meth := X.method'
  refine ⟨T.setFrames fs, ?_, .returned (some (.int 1)), hrun, hended, rfl, ⟨_, rfl⟩, hW, hframe⟩
  jvm_step X.here [X.here.top, hx, hb, hdg, hmeth', hr, ret, narrow_b1]
  (try refine ⟨rfl, ?_⟩); (try refine ⟨rfl, ?_⟩)
  first | (intro acts; rw [hret _ acts rfl rfl rfl]) | rw [hret _ _ rfl rfl rfl]
  exact Steps.refl _
/-- what holds at the law's entry: the machine, the code, the tables' words (any of lw_tbl by 'hts w (by decide +kernel)'), the script of L ints xs at the cell b, what the Statement gives of the start (any of its parts by flat_of_before) -/
def lw_At (p : Program) (s : State) (m : MethodId) (meth : Method) (c : Code) (b L : Nat) (xs : Nat → Int32) : Prop :=
  p.tables.exec = Jvm.exec ∧ c.code = code ∧ meth.sig.returnType = ret ∧ c.maxLocals = 7 ∧ s.vm.findClass R_law = some m.cls ∧ (∀ w ∈ lw_tbl, w.before #[Value.ref b] s = true) ∧ va_X b L xs s s.heap ∧ b < s.heap.size ∧ meth.locks = false ∧ (Jvm.Cond.and given_1 narrow_1).before #[Value.ref b] s = true
end
section
/-! the law's loop: what one turn does in the pure machine, and that the real law does it too -/
noncomputable def lawX (Inv : Nat → pM → Prop) (j : Nat) : pX := fun i ls st M => @ite _ (i = 13 ∧ st = [] ∧ Inv (j + 1) M ∧ ∃ u5 u6, ls = [.inr 95, .inr 2, .inr 62, .inr 92, .inl (Int.ofNat (5 * j) + 5), u5, u6]) (Classical.propDecidable _) (some (some (.inl 1), M)) none
noncomputable def lawR (D L : Nat) (xs : Nat → Int32) (Inv : Nat → pM → Prop) (j : Nat) : pX := prun (lawc L xs) lstH (lawX Inv j) (xF D) 90
noncomputable def lawX1 (D L : Nat) (xs : Nat → Int32) (Inv : Nat → pM → Prop) (j : Nat) : pX := fun i ls st M =>
  bif Nat.beq i 85 then (match st with
    | [.inr 92, .inl p1, .inl p0, .inr 2] => pbI (yL D 4 10 [.inr 2, .inl p0, .inl p1] M) fun v M1 => lawR D L xs Inv j (85 + 1) ls [.inl v] M1
    | _ => none)
  else bif Nat.beq i 113 then (match st with
    | [.inr 92, .inl p1, .inl p0, .inr 2] => pbI (yL D 5 10 [.inr 2, .inl p0, .inl p1] M) fun v M1 => lawR D L xs Inv j (113 + 1) ls [.inl v] M1
    | _ => none)
  else bif Nat.beq i 766 then (match st with
    | [.inr 92, .inl p0, .inr 2] => pbI (yL D 46 7 [.inr 2, .inl p0] M) fun v M1 => lawR D L xs Inv j (766 + 1) ls [.inl v] M1
    | _ => none)
  else lawX Inv j i ls st M
noncomputable def lawC (D L : Nat) (xs : Nat → Int32) (Inv : Nat → pM → Prop) (j : Nat) : pX := prun (lawc L xs) lstC (lawX1 D L xs Inv j) (xF D) 90
noncomputable def lawXt (D L : Nat) (xs : Nat → Int32) (Inv : Nat → pM → Prop) (j : Nat) : pX := fun i ls st M => bif lstT i then lawC D L xs Inv j i ls st M else none
noncomputable def lawT (D L : Nat) (xs : Nat → Int32) (Inv : Nat → pM → Prop) (j : Nat) : pX := prun (lawc L xs) lstT (lawXt D L xs Inv j) (xF D) 90
/-- what a turn owes -/
def lawStep (D L : Nat) (xs : Nat → Int32) (Inv : Nat → pM → Prop) (j : Nat) (M : pM) : Prop := ∀ u5 u6 : pV, ∃ M', lawT D L xs Inv j 13 [.inr 95, .inr 2, .inr 62, .inr 92, .inl (Int.ofNat (5 * j)), u5, u6] [] M = some (some (.inl 1), M')
theorem pcall_go2 {p : Program} {l : Launch} {e : Env} {R : Room} {s : State} {m : MethodId} {args : Array Value} {below : List Frame} {meth : Method} {c : Code} {H : Heap} {locs : List Loc} {kc ks mc ms : Nat} {Q : State → Prop} {pc : Nat} {arr : Array Slot} {st0 rest : List Value} {G : va_G} {ad : Nat → Nat} {cA : Nat → ClassId} {A0 : Nat → Prop} {H0 : Heap} {M : pM} {q : pR} {a : Array Value}
    (hA : ∀ q : Nat, H0.size ≤ q → A0 q) (hW : pWd G ad cA A0 H0 M H locs)
    (hr : va_Run p l e R s m args below meth c H locs kc ks mc ms (F0 m pc arr st0) rest (pQ G ad cA (va_A (pW ad cA M) H.size) q a) (va_A (pW ad cA M) H.size))
    (kk : ∀ (H1 : Heap) (locs1 : List Loc), pWd G ad cA A0 H0 q.2 H1 locs1 → W p l e R s m args below meth c H1 locs1 (kc + mc) (ks + ms) Q (F0 m (pc + 3) arr ((q.1.map (ptv ad)).toList ++ rest))) : W p l e R s m args below meth c H locs kc ks Q (F0 m pc arr st0) := by
  intro T hT X
  obtain ⟨v, st₀, t, T', L, h0, X', hL, e1, e2, ⟨hv, hP1, hF⟩, st⟩ := hr T hT X
  cases hv
  have hin : ∀ z, va_A (pW ad cA M) H.size z → A0 z := by
    rintro z (⟨k, e9, h⟩ | h)
    · exact hW.2.1.2 k _ h
    · exact hA z (Nat.le_trans hW.2.2.1 h)
  obtain ⟨hz, hk⟩ := hF
  rw [h0] at hz hk
  obtain ⟨t2, a1, b1⟩ := kk T'.heap (locs ++ L) ⟨by rw [e1]; exact hP1, pD_of hW.2.1, Nat.le_trans hW.2.2.1 (by rw [e1]; exact hz), fun z h1 h2 => by rw [e1, hk z (Nat.lt_of_lt_of_le h1 hW.2.2.1) (fun y => h2 (hin z y))]; exact hW.2.2.2.1 z h1 h2, fun z hz9 => by
      rcases List.mem_append.mp hz9 with h | h
      · exact hW.2.2.2.2 z h
      · exact hin _ (hL z h)⟩ T' rfl X'
  exact ⟨t2, st t2 a1, b1⟩
theorem pgiW {y : MethodName} {c : ByteArray} {n : Nat} {r : Option FieldType} {hh : List (Nat × Nat × Nat × Nat)} (h : Cond.codeWith y c n r hh ∈ pws) : GoodIn pws (Cond.codeWith y c n r hh :: pws) := fun w hw => by
  have hm : w ∈ pws := by
    rcases List.mem_cons.mp hw with rfl | hw
    · exact h
    · exact hw
  exact ⟨hm, good_of_word (pGood hm).2⟩
/-- what holds of the law's frame all along -/
def lawCtx (p : Program) (l : Launch) (s : State) (m : MethodId) (meth : Method) (c : Code) (G : va_G) (ad : Nat → Nat) (cA : Nat → ClassId) (L : Nat) (xs : Nat → Int32) (a1 a2 a3 : Nat) : Prop :=
  p.tables.exec = Jvm.exec ∧ c.code = code ∧ c.maxLocals = 7 ∧ s.vm.findClass RL = some m.cls ∧ (∀ w ∈ pws, w.before #[Value.ref (ad 93)] s = true) ∧ pNw s ∧ va_K G pcl (ptys cA) s ∧ pRO ad (fun q : Nat => s.heap.size ≤ q) s s.heap ∧ meth.sig.returnType = ret ∧ meth.locks = false ∧ l.stackTraces = false ∧ pTh (fun q : Nat => s.heap.size ≤ q) s s.heap a1 a2 a3 ∧ pSc ad (fun q : Nat => s.heap.size ≤ q) s L xs
section LOOP
variable {p : Program} {l : Launch} {e : Env} {s : State} {m : MethodId} {below : List Frame} {meth : Method} {c : Code} {G : va_G} {ad : Nat → Nat} {cA : Nat → ClassId} {L : Nat} {xs : Nat → Int32} {a1 a2 a3 : Nat}
abbrev lawQ (below : List Frame) (ad : Nat → Nat) (s : State) : pR → State → Prop := fun r => if r.1 = some (.inl 1) then lw_Z below #[Value.ref (ad 93)] s else fun _ => True
theorem lawCx (hC : lawCtx p l s m meth c G ad cA L xs a1 a2 a3) {kc ks : Nat} (h1 : kc ≤ 601024) (h2 : ks ≤ 7293034) : pCx p room_1 s m #[Value.ref (ad 93)] meth c G ad cA (fun q : Nat => s.heap.size ≤ q) s.heap RL code 7 kc ks := by
  obtain ⟨q1, q2, q3, q4, q5, q6, q7, q8, q9⟩ := hC
  exact ⟨q1, q2, q3, q4, q5, q6, q7, h1, h2, Nat.le_of_ble_eq_true rfl, Nat.le_of_ble_eq_true rfl, rfl, q8⟩
theorem lawRt (hC : lawCtx p l s m meth c G ad cA L xs a1 a2 a3) {kc ks : Nat} (h1 : kc ≤ 601024) (h2 : ks ≤ 7293034) : pRt p l e room_1 s m #[Value.ref (ad 93)] below meth c G ad cA (fun q : Nat => s.heap.size ≤ q) s.heap kc ks (lawQ below ad s) code ret := by
  obtain ⟨q1, q2, q3, q4, q5, q6, q7, q8, q9, q10, -, -, q13⟩ := hC
  have hany : ∀ (v : Option pV) (M : pM) (H : Heap) (locs : List Loc) (g : JFrame), v ≠ some (.inl 1) → W p l e room_1 s m #[Value.ref (ad 93)] below meth c H locs kc ks (lawQ below ad s (v, M)) g := by
    intro v M H locs g hv T _ _
    refine ⟨_, Steps.refl _, ?_⟩
    show (if v = some (.inl 1) then _ else fun _ => True) _
    rw [if_neg hv]
    trivial
  refine ⟨fun hr => ?_, fun hr v M H locs arr pc hv hd hW => ?_, fun hr => ?_, fun hr => ?_⟩
  · cases hr
  · rcases hv with rfl | rfl
    · exact hany _ _ _ _ _ (by decide)
    · show W p l e room_1 s m #[Value.ref (ad 93)] below meth c H locs kc ks (if (some (.inl 1) : Option pV) = some (.inl 1) then lw_Z below #[Value.ref (ad 93)] s else fun _ => True) _
      rw [if_pos rfl]
      refine W.widen h1 h2 ?_
      have hbl : ad 93 < s.heap.size := q13.2.1
      have e0 : ∀ q ∈ locs, s.heap.size ≤ q.base := hW.2.2.2.2
      show W p l e room_1 s m #[Value.ref (ad 93)] below meth c H locs 601024 7293034 (lw_Z below #[Value.ref (ad 93)] s) (F0 m pc arr [.int (iI 1)])
      refine va_forget e0 ?_
      exact lw_ret q1 q2 q9 q10 hd
  · cases hr
  · obtain ⟨_, hr⟩ := hr; cases hr
theorem lawY (D : Nat) (hD : D ≤ 1000) : pMt l G ad cA pyn pwk room_1 (xF D) := x_sound (by show D + 1 ≤ 2048; omega) (by show 80 * (D + 1) ≤ 84000; omega)
theorem lawCall (hC : lawCtx p l s m meth c G ad cA L xs a1 a2 a3) {y : MethodName} {cc : ByteArray} {mx idx n : Nat} {hh : List (Nat × Nat × Nat × Nat)} {rm : Room} {av rest : List Value} {M M2 : pM} {v : Int} {kc ks pc : Nat} {arr : Array Slot} {H : Heap} {locs : List Loc} {Q : State → Prop}
    (hM : ∀ sz, Met l y (Cond.codeWith y cc mx (some .int) hh :: pws) rm (va_Pc av (pPreT G ad cA M sz a1 a2 a3)) (pQ G ad cA (va_A (pW ad cA M) sz) (some (.inl v), M2)) 1 6 (va_A (pW ad cA M) sz)) (hcd : Cond.codeWith y cc mx (some .int) hh ∈ pws) (hin : Cond.initialized y.cls ∈ pws) (hlk : Cond.methodLink RL idx y ∈ pws) (hst : Cond.static y ∈ pws)
    (hy : y.cls ≠ "java/lang/invoke/MethodHandle" ∧ y.cls ≠ "java/lang/invoke/VarHandle") (hn : (parseMethodDescriptor y.desc).map (fun d => d.parameters.length) = some n) (hav : av.length = n) (h1 : rm.cells = 1) (h2 : rm.slots = 6) (h3 : rm.frames + 1 ≤ 2048) (h4 : 8 + (mx + 11) + rm.locals ≤ 84000) (hsum : (rest.map fun v => v.category).sum ≤ 8)
    (hd : decode code pc = .ok (.invokestatic idx, 3)) (hkc : kc + 1 ≤ 601024) (hks : ks + 6 ≤ 7293034) (hW : pWd G ad cA (fun q : Nat => s.heap.size ≤ q) s.heap M H locs) (hsz : arr.size = 7)
    (kk : ∀ (H1 : Heap) (locs1 : List Loc), pWd G ad cA (fun q : Nat => s.heap.size ≤ q) s.heap M2 H1 locs1 → W p l e room_1 s m #[Value.ref (ad 93)] below meth c H1 locs1 (kc + 1) (ks + 6) Q (F0 m (pc + 3) arr (.int (iI v) :: rest))) : W p l e room_1 s m #[Value.ref (ad 93)] below meth c H locs kc ks Q (F0 m pc arr (av.reverse ++ rest)) := by
  obtain ⟨q1, q2, q3, q4, q5, q6, q7, q8, q9, q10, q11, q12, q13⟩ := hC
  have hA : ∀ q : Nat, s.heap.size ≤ q → (fun q : Nat => s.heap.size ≤ q) q := fun _ h => h
  refine pcall_go2 hA hW (vx_runSW (n := n) (As := av) (rest := rest) ⟨q1, q2, q3, q4, q5⟩ (hM H.size) ⟨⟨h1, h2, h3, h4, pay_in q5 (pgiW hcd), List.mem_cons_self⟩, q5 _ hcd, q5 _ hin, hy, fun sig h => ?_, q5 _ hlk, q5 _ hst⟩ ⟨pblindT, fun U hU hWm => ⟨rfl, ppre hA hW rfl q8 q7 q6 U hU hWm, pTh_at hA hW rfl q12 hU hWm⟩⟩ rfl hav hsz rfl (lv_room hsum) hd ⟨hkc, hks⟩) (fun H1 locs1 hW1 => kk H1 locs1 hW1)
  rw [h] at hn
  exact (Option.some.inj hn).symm
set_option maxRecDepth 100000 in
set_option maxHeartbeats 4000000 in
theorem lawX1_gd (hC : lawCtx p l s m meth c G ad cA L xs a1 a2 a3) {Inv : Nat → pM → Prop} {j D : Nat} (hD : D ≤ 1000) {kc ks : Nat} (hkc : kc + 1 ≤ 601024) (hks : ks + 6 ≤ 7293034)
    (hX : pGd p l e room_1 s m #[Value.ref (ad 93)] below meth c G ad cA (fun q : Nat => s.heap.size ≤ q) s.heap (kc + 1) (ks + 6) (lawQ below ad s) 7 lawpc (lawX Inv j)) :
    pGd p l e room_1 s m #[Value.ref (ad 93)] below meth c G ad cA (fun q : Nat => s.heap.size ≤ q) s.heap kc ks (lawQ below ad s) 7 lawpc (lawX1 D L xs Inv j) := by
  have hR : pGd p l e room_1 s m #[Value.ref (ad 93)] below meth c G ad cA (fun q : Nat => s.heap.size ≤ q) s.heap (kc + 1) (ks + 6) (lawQ below ad s) 7 lawpc (lawR D L xs Inv j) :=
    prun_snd (lawc_snd L xs) (lawCx hC hkc hks) hC.2.2.2.2.2.2.2.2.2.2.2.2 (fun _ h => h) (lawRt hC hkc hks) lstH hX (lawY D hD) 90
  intro i ls st M r h H locs arr hW hl
  unfold lawX1 at h
  cases h1 : Nat.beq i 85 with
  | true =>
    have hi : i = 85 := Nat.eq_of_beq_eq_true h1
    subst hi
    rw [h1, cond_true] at h
    split at h
    · rename_i p1 p0
      cases hy : yL D 4 10 [.inr 2, .inl p0, .inl p1] M with
      | none => rw [hy] at h; cases h
      | some q =>
        rw [hy] at h
        rcases q with ⟨_ | v | k, M2⟩
        · cases h
        · show W p l e room_1 s m #[Value.ref (ad 93)] below meth c H locs kc ks (lawQ below ad s r) (F0 m (lawpc 85) arr (([.ref (ad 0), .int (iI p0), .int (iI p1), .ref (ad 90)] : List Value).reverse ++ []))
          refine lawCall (n := 4) (mx := 5) hC (fun sz => L_room l hC.2.2.2.2.2.2.2.2.2.2.1 G ad cA D M M2 p0 p1 v hy sz a1 a2 a3) (pmt6 42 rfl rfl) (pmt1 0 rfl rfl) (pmt6 40 rfl rfl) (pmt6 41 rfl rfl) (by decide +kernel) (by decide +kernel) rfl rfl rfl (by show D + 12 + 1 ≤ 2048; omega) (by show 8 + (5 + 11) + 80 * (D + 3) ≤ 84000; omega) (Nat.zero_le _) (by decide +kernel) hkc hks hW hl.2.1 (fun H1 locs1 hW1 => ?_)
          exact hR _ _ _ _ _ h _ _ _ hW1 hl
        · cases k <;> cases h
    · cases h
  | false =>
  rw [h1, cond_false] at h
  cases h2 : Nat.beq i 113 with
  | true =>
    have hi : i = 113 := Nat.eq_of_beq_eq_true h2
    subst hi
    rw [h2, cond_true] at h
    split at h
    · rename_i p1 p0
      cases hy : yL D 5 10 [.inr 2, .inl p0, .inl p1] M with
      | none => rw [hy] at h; cases h
      | some q =>
        rw [hy] at h
        rcases q with ⟨_ | v | k, M2⟩
        · cases h
        · show W p l e room_1 s m #[Value.ref (ad 93)] below meth c H locs kc ks (lawQ below ad s r) (F0 m (lawpc 113) arr (([.ref (ad 0), .int (iI p0), .int (iI p1), .ref (ad 90)] : List Value).reverse ++ []))
          refine lawCall (n := 4) (mx := 5) hC (fun sz => L_thing l hC.2.2.2.2.2.2.2.2.2.2.1 G ad cA D M M2 p0 p1 v hy sz a1 a2 a3) (pmt6 118 rfl rfl) (pmt1 0 rfl rfl) (pmt6 116 rfl rfl) (pmt6 117 rfl rfl) (by decide +kernel) (by decide +kernel) rfl rfl rfl (by show D + 12 + 1 ≤ 2048; omega) (by show 8 + (5 + 11) + 80 * (D + 3) ≤ 84000; omega) (Nat.zero_le _) (by decide +kernel) hkc hks hW hl.2.1 (fun H1 locs1 hW1 => ?_)
          exact hR _ _ _ _ _ h _ _ _ hW1 hl
        · cases k <;> cases h
    · cases h
  | false =>
  rw [h2, cond_false] at h
  cases h3 : Nat.beq i 766 with
  | true =>
    have hi : i = 766 := Nat.eq_of_beq_eq_true h3
    subst hi
    rw [h3, cond_true] at h
    split at h
    · rename_i p0
      cases hy : yL D 46 7 [.inr 2, .inl p0] M with
      | none => rw [hy] at h; cases h
      | some q =>
        rw [hy] at h
        rcases q with ⟨_ | v | k, M2⟩
        · cases h
        · show W p l e room_1 s m #[Value.ref (ad 93)] below meth c H locs kc ks (lawQ below ad s r) (F0 m (lawpc 766) arr (([.ref (ad 0), .int (iI p0), .ref (ad 90)] : List Value).reverse ++ []))
          refine lawCall (n := 3) (mx := 4) hC (fun sz => L_row l hC.2.2.2.2.2.2.2.2.2.2.1 G ad cA D M M2 p0 v hy sz a1 a2 a3) (pmt6 127 rfl rfl) (pmt1 0 rfl rfl) (pmt6 125 rfl rfl) (pmt6 126 rfl rfl) (by decide +kernel) (by decide +kernel) rfl rfl rfl (by show D + 12 + 1 ≤ 2048; omega) (by show 8 + (4 + 11) + 80 * (D + 3) ≤ 84000; omega) (Nat.zero_le _) (by decide +kernel) hkc hks hW hl.2.1 (fun H1 locs1 hW1 => ?_)
          exact hR _ _ _ _ _ h _ _ _ hW1 hl
        · cases k <;> cases h
    · cases h
  | false =>
  rw [h3, cond_false] at h
  exact W.widen (Nat.le_succ _) (Nat.le_add_right _ 6) (hX _ _ _ _ _ h _ _ _ hW hl)
theorem lawN {j L : Nat} (h : 5 * j + 5 ≤ L) (h2 : L ≤ 2560) : 100 + j + 1 ≤ 601024 ∧ 200000 + 6 * j + 6 ≤ 7293034 ∧ 100 + j ≤ 601024 ∧ 200000 + 6 * j ≤ 7293034 := by omega
set_option maxRecDepth 100000 in
/-- THE LOOP -/
theorem law_loop (hC : lawCtx p l s m meth c G ad cA L xs a1 a2 a3) {Inv : Nat → pM → Prop} {D : Nat} (hD : D ≤ 1000) (hLN : L ≤ 2560) (hstep : ∀ j M, Inv j M → 5 * j + 5 ≤ L → lawStep D L xs Inv j M) : ∀ n j M, 5 * j ≤ L → L < 5 * (j + n) + 5 → Inv j M → ∀ H locs arr u5 u6, pWd G ad cA (fun q : Nat => s.heap.size ≤ q) s.heap M H locs → pLs ad 7 [.inr 95, .inr 2, .inr 62, .inr 92, .inl (Int.ofNat (5 * j)), u5, u6] arr →
    W p l e room_1 s m #[Value.ref (ad 93)] below meth c H locs (100 + j) (200000 + 6 * j) (lw_Z below #[Value.ref (ad 93)] s) (F0 m (lawpc 13) arr []) := by
  have hend : ∀ j M, 5 * j ≤ L → L < 5 * j + 5 → ∀ H locs arr u5 u6, pWd G ad cA (fun q : Nat => s.heap.size ≤ q) s.heap M H locs → pLs ad 7 [.inr 95, .inr 2, .inr 62, .inr 92, .inl (Int.ofNat (5 * j)), u5, u6] arr →
    W p l e room_1 s m #[Value.ref (ad 93)] below meth c H locs (100 + j) (200000 + 6 * j) (lw_Z below #[Value.ref (ad 93)] s) (F0 m (lawpc 13) arr []) := by
    intro j M hj1 hj2 H locs arr u5 u6 hW hl
    have hG := prun_snd (e := e) (below := below) (lawc_snd L xs) (lawCx hC (kc := 100 + j) (ks := 200000 + 6 * j) (by omega) (by omega)) hC.2.2.2.2.2.2.2.2.2.2.2.2 (fun _ h => h) (lawRt hC (by omega) (by omega)) lstT (X := fun _ _ _ _ => none) (fun _ _ _ _ _ h => by cases h) (lawY D hD) 90
    have h1 : prun (lawc L xs) lstT (fun _ _ _ _ => none) (xF D) 90 13 [.inr 95, .inr 2, .inr 62, .inr 92, .inl (Int.ofNat (5 * j)), u5, u6] [] M = some (some (.inl 1), M) := by
      rw [LT_top, if_pos]
      rw [lt32_iff]
      all_goals (simp only [Int.ofNat_eq_natCast]; omega)
    exact hG _ _ _ _ _ h1 H locs arr hW hl
  intro n
  induction n with
  | zero =>
    intro j M hj1 hj hI H locs arr u5 u6 hW hl
    exact hend j M hj1 (by omega) H locs arr u5 u6 hW hl
  | succ n ih =>
    intro j M hj1 hj hI H locs arr u5 u6 hW hl
    rcases Nat.lt_or_ge L (5 * j + 5) with h9 | h9
    · exact hend j M hj1 h9 H locs arr u5 u6 hW hl
    have hX : pGd p l e room_1 s m #[Value.ref (ad 93)] below meth c G ad cA (fun q : Nat => s.heap.size ≤ q) s.heap (100 + j + 1) (200000 + 6 * j + 6) (lawQ below ad s) 7 lawpc (lawX Inv j) := by
      intro i ls st M9 r h H9 locs9 arr9 hW9 hl9
      unfold lawX at h
      split at h
      · rename_i hq
        cases h
        obtain ⟨rfl, rfl, hI9, v5, v6, rfl⟩ := hq
        exact ih (j + 1) M9 (by omega) (by omega) hI9 H9 locs9 arr9 v5 v6 hW9 hl9
      · cases h
    obtain ⟨h1, h2, h3, h4⟩ := lawN h9 hLN
    have hX1 := lawX1_gd (e := e) (below := below) (kc := 100 + j) (ks := 200000 + 6 * j) hC hD h1 h2 hX
    have hCg := prun_snd (e := e) (below := below) (lawc_snd L xs) (lawCx hC (kc := 100 + j) (ks := 200000 + 6 * j) h3 h4) hC.2.2.2.2.2.2.2.2.2.2.2.2 (fun _ h => h) (lawRt hC h3 h4) lstC hX1 (lawY D hD) 90
    have hTg := prun_snd (e := e) (below := below) (lawc_snd L xs) (lawCx hC (kc := 100 + j) (ks := 200000 + 6 * j) h3 h4) hC.2.2.2.2.2.2.2.2.2.2.2.2 (fun _ h => h) (lawRt hC h3 h4) lstT (X := lawXt D L xs Inv j) (fun i ls st M9 r h => by
      unfold lawXt at h
      cases hb : lstT i with
      | true => rw [hb] at h; exact hCg i ls st M9 r h
      | false => rw [hb] at h; cases h) (lawY D hD) 90
    obtain ⟨M', h5⟩ := hstep j M hI h9 u5 u6
    exact hTg _ _ _ _ _ h5 H locs arr hW hl
end LOOP
end
