section
/-! NoSuchElementException's constructor: its superclass's constructor stands at place 13 of its pool (the kit's law for thrown exceptions takes place 7), so its law is made here, out of the library's parts -/
def pNSE : String := "java/util/NoSuchElementException"
def pRTE : String := "java/lang/RuntimeException"
def nseB : ByteArray := ⟨#[0x2a, 0x2b, 0xb7, 0x00, 0x0d, 0xb1]⟩
def pTown : List Cond := Bundle.throwableAtoms ++ Bundle.throwableSAtoms ++ Bundle.passSAtoms pNSE pRTE 13 nseB ++ Bundle.chainSAtoms pRTE ["java/lang/Exception"] ++
  [.methodLink RX11 144 (Bundle.initS pNSE), .instantiable pNSE 6, .selects pNSE Bundle.tFill0 Bundle.tFill0, .selects pNSE Bundle.tFill Bundle.tFill,
   .lays pNSE Bundle.tN "cause" "Ljava/lang/Throwable;", .lays pNSE Bundle.tN "stackTrace" Bundle.steD, .lays pNSE Bundle.tN "suppressedExceptions" Bundle.listD, .lays pNSE Bundle.tN "detailMessage" "Ljava/lang/String;",
   .isRef (.static Bundle.tN "UNASSIGNED_STACK" Bundle.steD), .isRef (.static Bundle.tN "SUPPRESSED_SENTINEL" Bundle.listD),
   .fieldLink Bundle.tN 198 Bundle.tN "backtrace" "Ljava/lang/Object;", .lays Bundle.tN Bundle.tN "backtrace" "Ljava/lang/Object;", .lays pNSE Bundle.tN "backtrace" "Ljava/lang/Object;"]
def pTall : List Cond := pTown.filter vx_no
theorem in_th {w : Cond} (h : w ∈ Bundle.throwableAtoms) : w ∈ pTown := by unfold pTown; simp [h]
theorem in_ts {w : Cond} (h : w ∈ Bundle.throwableSAtoms) : w ∈ pTown := by unfold pTown; simp [h]
theorem in_ps {w : Cond} (h : w ∈ Bundle.passSAtoms pNSE pRTE 13 nseB) : w ∈ pTown := by unfold pTown; simp [h]
theorem in_ch {w : Cond} (h : w ∈ Bundle.chainSAtoms pRTE ["java/lang/Exception"]) : w ∈ pTown := by unfold pTown; simp [h]
set_option maxHeartbeats 4000000 in
theorem nse_ctor {p : Program} {l : Launch} {e : Env} {R : Room} {s : State} {m₀ : MethodId} {args : Array Value} {below : List Frame} {meth : Method} {c : Code} {W : State} {locs : List Loc} {cells slots : Nat}
    (X : Stand p l e R s m₀ args below meth c W locs cells slots) (hexec : p.tables.exec = Jvm.exec) (htr : e.platform.stackTraces = false) (hown : s.vm.findClass RX11 = some m₀.cls)
    (h : ∀ a ∈ pTown, a.before args s = true) (hlocs : ∀ x ∈ locs, ∀ cell, s.heap[x.base]? = some cell → cell.vm.isStatics = false)
    {a : Addr} {cX : ClassId} {kX : Class} (hfoundX : s.vm.findClass pNSE = some cX) (hkX : s.vm.classes[cX]? = some kX) (hcell : W.heap[a]? = some (freshCell cX kX)) (hnew : s.heap.size ≤ a)
    {msg : Value} (hmsg : msg.isRef = true) {g : JFrame} (hg : g.method = m₀) (hsize : g.locals.size = c.maxLocals) (hlocked : g.locked = none) (hentered : g.entered = []) {rest : List Value} (hstack : g.stack = msg :: .ref a :: .ref a :: rest)
    (hd6 : decode c.code g.pc = .ok (.invokespecial 144, 3)) (hd9 : decode c.code (g.pc + 3) = .ok (.athrow, 1)) (hout : ∀ x ∈ c.exceptionTable.toList, covers x (g.pc + 3) = false)
    (hRframes : 5 < R.frames) (hRlocals : 2 * g.monitorRoom + ((Value.ref a :: rest).map fun v => v.category).sum + 81 ≤ R.locals) (hlocks : meth.locks = false) :
    ∃ U : State, Steps p.tables e below (W.setTop g) U ∧ U.status = .running ∧ Ended U below (.threw a) ∧ s.WarmedH U.vm ∧ s.sameButNew ({ U with vm := s.vm } : State) locs cells slots ∧
      ∃ ce : Cell, U.heap[a]? = some ce ∧ ce.vm = .none ∧ s.vm.findClass pNSE = some ce.cls := by
  have hpl : e.platform.magicAccessors = ({} : Platform).magicAccessors := by rw [X.admits.platform]
  have A : ∀ x, x ∈ pTown → x.holds args s none s [] = true := fun x hx => h x hx
  obtain ⟨T, Z0, L, -, Y⟩ := ThrowableC.of_atoms (args := args) (show e.platform.frameOwnsMonitors = true by rw [X.admits.platform]) (show e.platform.finalization = false by rw [X.admits.platform]) hpl (fun x hx => h x (in_th hx))
  obtain ⟨Z, Mq, LZ, LM, hnZ⟩ := Init0T.ofS_atoms (args := args) hpl L Y (fun x hx => h x (in_ts hx))
  obtain ⟨P1, L1, hP1m, hs1⟩ := PassC.ofS_atoms (args := args) (s := s) hpl (X := pNSE) (Y := pRTE) (index := 13) (bytes := nseB) (by decide +kernel) (by decide +kernel) (by decide +kernel) (by decide +kernel) (by decide +kernel) (by decide +kernel) (fun x hx => h x (in_ps hx))
  obtain ⟨P2, Ps, hlen, L2, hL, hP2m, hlink2, hpass⟩ := Bundle.chainS (args := args) hpl hnZ ["java/lang/Exception"] pRTE (by decide +kernel) (by decide +kernel) (fun x hx => h x (in_ch hx))
  have hfound : s.vm.findClass pNSE = some P1.m.cls := findClass_of_methodNamed hP1m
  cases Option.some.inj (hfoundX.symm.trans hfound)
  obtain ⟨c1, kX', hc1, hk, hord, -, -, hn6⟩ := Cond.instantiable_spec (A (.instantiable pNSE 6) (by simp [pTown]))
  cases Option.some.inj (hc1.symm.trans hfound)
  cases Option.some.inj (hkX.symm.trans hk)
  have hsel0 : selectMethod e.platform s.vm P1.m.cls T.fill0 = .method T.fill0 := by
    obtain ⟨c2, r2, m2, q1, q2, q3, q4, -⟩ := Cond.selects_spec (A (.selects pNSE Bundle.tFill0 Bundle.tFill0) (by simp [pTown]))
    cases Option.some.inj (q1.symm.trans hfound)
    cases Option.some.inj (q2.symm.trans (State.methodFound?_of_named Y.fill0 (by decide)))
    cases Option.some.inj (q3.symm.trans Y.fill0)
    rw [Launch.admits_selectMethod X.admits]; exact q4
  have hselF : selectMethod e.platform s.vm P1.m.cls T.fill = .method T.fill := by
    obtain ⟨c2, r2, m2, q1, q2, q3, q4, -⟩ := Cond.selects_spec (A (.selects pNSE Bundle.tFill Bundle.tFill) (by simp [pTown]))
    cases Option.some.inj (q1.symm.trans hfound)
    cases Option.some.inj (q2.symm.trans (State.methodFound?_of_named Y.fill (by decide)))
    cases Option.some.inj (q3.symm.trans Y.fill)
    rw [Launch.admits_selectMethod X.admits]; exact q4
  obtain ⟨cS0, hcS0, hiss⟩ := Y.statics
  obtain ⟨u0, hu0⟩ := Cond.staticRefV Y.unassigned L.unassignedStatic L.statics hcS0 hiss (A (.isRef (.static Bundle.tN "UNASSIGNED_STACK" Bundle.steD)) (by simp [pTown]))
  obtain ⟨sen, hsen⟩ := Cond.staticRefV Y.sentinel L.sentinelStatic L.statics hcS0 hiss (A (.isRef (.static Bundle.tN "SUPPRESSED_SENTINEL" Bundle.listD)) (by simp [pTown]))
  obtain ⟨ci198, i198, fB, hk198, hg198, ha198, hsB, -, hnB, htB, hffB⟩ := Cond.ownField (t := .object "java/lang/Object") Y.found L.cls (by decide +kernel) (A (.fieldLink Bundle.tN 198 Bundle.tN "backtrace" "Ljava/lang/Object;") (by simp [pTown])) (A (.lays Bundle.tN Bundle.tN "backtrace" "Ljava/lang/Object;") (by simp [pTown])) e.platform hpl
  obtain ⟨cS, hcS', heS, -, hkeep⟩ := X.same.2.2.2.2.2 T.aS cS0 hcS0
  have hcS : W.heap[T.aS]? = some cS := hcS'
  have hout' : ∀ i, (⟨T.aS, i⟩ : Loc) ∉ locs := fun i hmem => by
    have := hlocs _ hmem cS0 hcS0
    rw [hiss] at this; cases this
  have hknownS : cS.vm ≠ .unknown := by
    rw [heS]; intro hu
    rw [show cS0.vm = .unknown from hu] at hiss
    cases hiss
  have hneS : T.aS ≠ a := Nat.ne_of_lt (Nat.lt_of_lt_of_le (Array.getElem?_eq_some_iff.mp hcS0).1 hnew)
  obtain ⟨iM, hffM⟩ := Y.msg
  obtain ⟨tyC, dC, hdC, hdnC⟩ := Cond.laysAt hfound hk Y.cause (A (.lays pNSE Bundle.tN "cause" "Ljava/lang/Throwable;") (by simp [pTown]))
  obtain ⟨tyS, dS, hdS, hdnS⟩ := Cond.laysAt hfound hk Y.stack (A (.lays pNSE Bundle.tN "stackTrace" Bundle.steD) (by simp [pTown]))
  obtain ⟨tyP, dP, hdP, hdnP⟩ := Cond.laysAt hfound hk Y.supp (A (.lays pNSE Bundle.tN "suppressedExceptions" Bundle.listD) (by simp [pTown]))
  obtain ⟨tyM, dM, hdM, hdnM⟩ := Cond.laysAt hfound hk hffM (A (.lays pNSE Bundle.tN "detailMessage" "Ljava/lang/String;") (by simp [pTown]))
  obtain ⟨tyB, dB, hdB, hdnB⟩ := Cond.laysAt hfound hk hffB (A (.lays pNSE Bundle.tN "backtrace" "Ljava/lang/Object;") (by simp [pTown]))
  have bC := Cond.laysApart hdB hdC hdnB hdnC (by rw [hnB, Y.causeName]; decide)
  have bS := Cond.laysApart hdB hdS hdnB hdnS (by rw [hnB, Y.stackName]; decide)
  have bP := Cond.laysApart hdB hdP hdnB hdnP (by rw [hnB, Y.suppName]; decide)
  have hskip : SkipFacts T e.platform s (fun u => u) u0 ((preparedCellV T.toThrowableT (freshCell P1.m.cls kX) a u0 sen).withEntry W.cur) :=
    ⟨{ ci198 := ci198, i198 := i198, fBack := fB }, ⟨hk198, hg198, ha198, hsB⟩, by
      have := fresh_default (c := P1.m.cls) tyB
      rw [htB] at this
      simpa [preparedCellV, Cell.setSlot, Cell.withEntry, Array.getElem?_setIfInBounds, bC, bS, bP, bC.symm, bS.symm, bP.symm, defaultValue] using this, fun _ _ => rfl⟩
  obtain ⟨tm, methC, cdC, kC, vm₁, hnC, -, -, -, -, -, -, -, hW₁, st1⟩ := Steps.initColdS (tb := p.tables) (e := e) (below := below) (s := s) (U := W) X.here hexec X.warmed hpl hown (t := Bundle.initS pNSE) rfl rfl (by decide +kernel)
    (A (.methodLink RX11 144 (Bundle.initS pNSE)) (by simp [pTown])) (h (.instanceMethod (Bundle.initS pNSE)) (in_ps (by simp [Bundle.passSAtoms]))) (bytes := nseB) (maxL := 2) (h (.code (Bundle.initS pNSE) nseB 2 none) (in_ps (by simp [Bundle.passSAtoms])))
    (f := g) hg (a := a) (msg := msg) (rest := .ref a :: rest) hstack hd6
  cases Option.some.inj (hnC.symm.trans hP1m)
  have X₁ := X.noted hW₁
  have hl2 : Ps.length = 1 := hlen
  obtain ⟨vm₂, X₂, st2⟩ := X₁.ctorMessageOffV hexec (g := { g with stack := .ref a :: rest }) hg hsize T L Z LZ Mq LM (P1 :: P2 :: Ps)
    (fun P hP => by
      rcases List.mem_cons.mp hP with rfl | hP
      · exact L1
      · rcases List.mem_cons.mp hP with rfl | hP
        · exact L2
        · exact hL P hP) ⟨Option.some.inj (hs1.symm.trans hP2m), hlink2, hpass⟩ (u0 := u0) (sen := sen) (self := a) hmsg (cell := freshCell P1.m.cls kX) (cellS := cS)
    hcell (fun _ => by simp) (by simp) rfl rfl hsel0 hselF hcS hneS hknownS (by rw [hkeep _ (hout' _)]; exact hu0) (by rw [hkeep _ (hout' _)]; exact hsen)
    (Takes.of_laid hk hord tyC (by rw [Y.causeType]; rfl)) (Takes.of_laid hk hord tyS (by rw [Y.stackType]; exact fits_refV_array _ u0)) (Takes.of_laid hk hord tyP (by rw [Y.suppType]; exact fits_refV_object _ sen))
    (Takes.of_laid hk hord tyM (by rw [Y.msgType]; exact fits_refV_object _ ⟨msg, hmsg⟩)) Y.objLocals hskip htr [] hd6
    (by simp only [List.length_cons, hl2]; omega) (by simp only [List.length_cons, hl2]; exact hRlocals)
  obtain ⟨hwalk, hrun, hended, hWU, hsame⟩ := X₂.athrowLeaves hexec (g := { g with stack := .ref a :: rest, pc := g.pc + 3 }) hg hlocked hentered hout (a := a) (rest := rest) rfl hd9
  have hlt : a < ((W.setVm vm₁).setVm vm₂).heap.size := (Array.getElem?_eq_some_iff.mp hcell).1
  have hU := heapAt_setCell_self (s := (W.setVm vm₁).setVm vm₂) (plainBareV T.toThrowableT (freshCell P1.m.cls kX) a u0 sen msg) hlt
  refine ⟨_, st1 _ (fun acts => ?_), hrun, hended, hWU, hsame.weaken (fun y hy hlt' => ?_) (Nat.le_refl _) (Nat.le_refl _), _, hU, rfl, hfound⟩
  · rw [doInvoke_state]
    exact st2 _ hwalk
  · rcases List.mem_append.mp hy with h1 | h1
    · exact h1
    · exfalso
      have hb : y.base = a := by
        simp only [List.mem_cons, List.not_mem_nil, or_false] at h1
        rcases h1 with rfl | rfl | rfl | rfl | rfl <;> rfl
      rw [hb] at hlt'
      exact Nat.not_lt.mpr hnew hlt'
theorem pT_own {args : Array Value} {s : State} (h1 : ∀ w ∈ pTall, w.before args s = true)
    (hU : (Cond.isRef (.static Bundle.tN "UNASSIGNED_STACK" Bundle.steD)).before args s = true) (hN : (Cond.isRef (.static Bundle.tN "SUPPRESSED_SENTINEL" Bundle.listD)).before args s = true)
    (lU : (Cond.laysStatic Bundle.tN "UNASSIGNED_STACK" Bundle.steD).before args s = true) (lN : (Cond.laysStatic Bundle.tN "SUPPRESSED_SENTINEL" Bundle.listD).before args s = true) : ∀ w ∈ pTown, w.before args s = true := vx_own (L := pTown) h1 hU hN lU lN
/-- 'throw new NoSuchElementException("text")', from the new on; wide: the text by a wide index -/
theorem nse_throw {p : Program} {l : Launch} {e : Env} {R : Room} {s : State} {m : MethodId} {args : Array Value} {below : List Frame} {meth : Method} {c : Code} {H : Heap} {locs : List Loc} {cells slots : Nat} {Qc : Array Value → State → Outcome → State → Prop} {XC : String → State → State → Prop} {free : Addr → Prop} {ls : Array Slot} {rest : List Value}
    {cc : ByteArray} {pc : Nat} (hexec : p.tables.exec = Jvm.exec) (hb : c.code = cc) (hl : l.stackTraces = false) {text : String} {is mc ms sa k : Nat} {A : Nat → Prop}
    (hown : s.vm.findClass RX11 = some m.cls) (hk : (Cond.classLink RX11 140 pNSE).before args s = true) (hini : (Cond.initialized pNSE).before args s = true) (hstr : vk_R RX11 is text sa s) (hat : ∀ w ∈ pTall, w.before args s = true)
    (hgood : ∀ w ∈ Cond.classLink RX11 140 pNSE :: Cond.initialized pNSE :: pTall, vx_ot w = true)
    (hU : vx_Zq Bundle.tN "UNASSIGNED_STACK" Bundle.steD A s s.heap) (hN : vx_Zq Bundle.tN "SUPPRESSED_SENTINEL" Bundle.listD A s s.heap) (hS : va_S A s.heap H locs) (hsize : ls.size = c.maxLocals)
    (d0 : decode cc pc = .ok (.new 140, 3)) (d3 : decode cc (pc + 3) = .ok (.dup, 1)) (d4 : (decode cc (pc + 4) = .ok (.ldc is, 2) ∧ k = 2) ∨ (decode cc (pc + 4) = .ok (.ldc_w is, 3) ∧ k = 3)) (d6 : decode cc (pc + 4 + k) = .ok (.invokespecial 144, 3)) (d9 : decode cc (pc + 4 + k + 3) = .ok (.athrow, 1))
    (hout : ∀ x ∈ c.exceptionTable.toList, covers x (pc + 4 + k + 3) = false)
    (hRframes : 5 < R.frames) (hRlocals : (rest.map fun v => v.category).sum + 82 ≤ R.locals) (hRcells : cells + 1 ≤ R.cells) (hRslots : slots + 6 ≤ R.slots) (hlocks : meth.locks = false)
    (hx : ∀ t : State, s.vm.Alike t.vm → H.size ≤ t.heap.size → (∀ q : Nat, q < H.size → t.heap[q]? = H[q]?) → XC pNSE s t)
    (hf : ∀ z ∈ locs, free z.base) (hc : cells + 1 ≤ mc) (hs : slots + 6 ≤ ms) :
    W p l e R s m args below meth c H locs cells slots (vx_MQ below Qc XC args s mc ms free) (F0 m pc ls rest) := by
  intro T hT X
  have htr : e.platform.stackTraces = false := (show e.platform.stackTraces = l.stackTraces by rw [X.admits.platform]).trans hl
  have Y := vx_rebase X (R' := { frames := R.frames, locals := R.locals, cells := 1, slots := 6 }) (Nat.le_refl _) (Nat.le_refl _) hRcells hRslots
  obtain ⟨s', hA⟩ : ∃ z, z = (T.setVm s.vm).setFrames (.invoking m args :: below) := ⟨_, rfl⟩
  rw [← hA] at Y
  have hvm : s'.vm = s.vm := by rw [hA]; rfl
  have hhp : s'.heap = H := by rw [hA]; exact hT
  have hW0 : s.WarmedH s'.vm := by rw [hvm]; exact State.WarmedH.refl s
  have hmv : ∀ w ∈ Cond.classLink RX11 140 pNSE :: Cond.initialized pNSE :: pTall, w.before args s = true → w.before args s' = true := fun w hw hq => vx_ot_at hW0 hvm.symm (hgood w hw) hq
  have hU' : vx_Zq Bundle.tN "UNASSIGNED_STACK" Bundle.steD A s' s'.heap := by rw [hhp]; exact vx_Zq.moved hW0.alike (hU.kept hS.2.1)
  have hN' : vx_Zq Bundle.tN "SUPPRESSED_SENTINEL" Bundle.listD A s' s'.heap := by rw [hhp]; exact vx_Zq.moved hW0.alike (hN.kept hS.2.1)
  have h : ∀ w ∈ pTown, w.before args s' = true := pT_own (fun w hw => hmv w (List.mem_cons_of_mem _ (List.mem_cons_of_mem _ hw)) (hat w hw)) (vx_isRefq hU'.1) (vx_isRefq hN'.1) hU'.2.word hN'.2.word
  have hown' : s'.vm.findClass RX11 = some m.cls := by rw [hvm]; exact hown
  obtain ⟨vm₁, cX, kX, hfX, hkX, -, -, X₁, st1⟩ := Y.newCold hexec (own := RX11) (C := pNSE) (index := 140) (n := 6) hown' (hmv _ List.mem_cons_self hk) (h _ (by simp [pTown])) (hmv _ (List.mem_cons_of_mem _ List.mem_cons_self) hini)
    (g := F0 m pc ls rest) rfl (by rw [hb]; exact d0) (Nat.le_refl _) (Nat.le_refl _)
  generalize hT1 : (T.setVm vm₁).pushCell { cls := cX, slots := kX.instanceTypes.map defaultValue, vm := .none } = T1 at X₁ st1
  have hcat : (Value.ref T.heap.size).category = 1 := rfl
  have hcellA : T1.heap[T.heap.size]? = some (freshCell cX kX) := by rw [← hT1]; exact State.heap_pushCell_size _ _
  have d3' : decode c.code (pc + 3) = .ok (.dup, 1) := by rw [hb]; exact d3
  have hstr' : vk_R RX11 is text sa s' := vk_R.warm hW0 hstr
  obtain ⟨U, hsteps, hrun, hend, hW, hsame, ce, hce, hvm9, hcls9⟩ := nse_ctor X₁ hexec htr hown' h (fun x hx => nomatch hx) hfX hkX hcellA (by rw [hhp, hT]; exact Nat.le_refl _) (msg := .ref sa) rfl
    (g := { method := m, pc := pc + 4 + k, locals := ls, stack := .ref sa :: .ref T.heap.size :: .ref T.heap.size :: rest, locked := none }) rfl hsize rfl rfl (rest := rest) rfl
    (by rw [hb]; exact d6) (by rw [hb]; exact d9) hout hRframes (by simp only [List.map_cons, List.sum_cons, hcat]; omega) hlocks
  obtain ⟨f1, f2⟩ := vx_frame hsame
  rw [hhp] at f1 f2
  have hWs : s.WarmedH U.vm := State.WarmedH.trans hW0 hW
  have hcl : s.vm.findClass pNSE = some ce.cls := by rw [← hvm]; exact hcls9
  have hall : s.sameButNew ({ U with vm := s.vm } : State) locs mc ms := by
    subst hA
    obtain ⟨e1, e2⟩ := hsame
    rw [State.setFrames_setFrames] at e1
    have h2 : (T.setVm s.vm).sameButNew ({ U with vm := s.vm } : State) [] (0 + 1) (0 + 6) := ⟨e1, e2⟩
    have h3 := X.same.trans h2
    rw [List.append_nil] at h3
    exact h3.mono hc hs
  refine ⟨U, ?_, .threw T.heap.size, hrun, hend, Or.inr ⟨T.heap.size, rfl, pNSE, ce, locs, hx U hWs.alike f1 (fun q hq => f2 q hq (fun z hz => nomatch hz)), hce, hvm9, hcl, hWs, hall, hf⟩⟩
  refine st1 _ ?_
  show Steps p.tables e below (T1.setTop { method := m, pc := pc + 3, locals := ls, stack := .ref T.heap.size :: rest, locked := none }) _
  jvm_step X₁.here [X₁.here.top, hexec, d3', Value.category]
  rcases d4 with ⟨d4, rfl⟩ | ⟨d4, rfl⟩
  · exact X₁.ldcString hexec (own := RX11) (text := text) (index := is) (a := sa) hown' hstr'.1 hstr'.2
      (g := { method := m, pc := pc + 4, locals := ls, stack := .ref T.heap.size :: .ref T.heap.size :: rest, locked := none }) rfl (by rw [hb]; exact d4) _ hsteps
  · exact X₁.ldcStringW hexec (own := RX11) (text := text) (index := is) (a := sa) hown' hstr'.1 hstr'.2
      (g := { method := m, pc := pc + 4, locals := ls, stack := .ref T.heap.size :: .ref T.heap.size :: rest, locked := none }) rfl (by rw [hb]; exact d4) _ hsteps
/-! calls that may throw, and the law's own methods that catch it (by program) -/
def pDl : List MethodName := [Bundle.initS pRTE, Bundle.initS "java/lang/Exception", Bundle.initS Bundle.tN]
def pTh (A : Nat → Prop) (U : State) (H : Heap) (a1 a2 a3 : Nat) : Prop := vx_Zq Bundle.tN "UNASSIGNED_STACK" Bundle.steD A U H ∧ vx_Zq Bundle.tN "SUPPRESSED_SENTINEL" Bundle.listD A U H ∧ vk_R RX11 142 "no such room, or nothing told of it so" a1 U ∧ vk_R RX11 167 "no such thing, or nothing told of it so" a2 U ∧ vk_R RX11 440 "no such number in the row" a3 U ∧ va_Nw (.castable pNSE pNSE) U ∧ ∀ x ∈ pDl, va_Nw (.declares x) U
def pPreT (G : va_G) (ad : Nat → Nat) (cA : Nat → ClassId) (M : pM) (sz a1 a2 a3 : Nat) (U : State) : Prop := pPre G ad cA M sz U ∧ pTh (va_A (pW ad cA M) sz) U U.heap a1 a2 a3
theorem pblindT {G : va_G} {ad : Nat → Nat} {cA : Nat → ClassId} {M : pM} {sz a1 a2 a3 : Nat} {av : List Value} : FrameBlind (va_Pc av (pPreT G ad cA M sz a1 a2 a3)) := fun a U g mk q => by
  obtain ⟨q0, q1, q2, q3, q4, q5, q6, q7, q8⟩ := q
  have h := pblind (G := G) (ad := ad) (cA := cA) (M := M) (sz := sz) (av := av) a U g mk ⟨q0, q1⟩
  exact ⟨h.1, h.2, vx_Zq.moved (u := U) (U := U.calling g mk a) (Vm.Alike.refl U.vm) q2, vx_Zq.moved (u := U) (U := U.calling g mk a) (Vm.Alike.refl U.vm) q3, q4.same (U := U.calling g mk a) rfl, q5.same (U := U.calling g mk a) rfl, q6.same (U := U.calling g mk a) rfl, va_Nw.same rfl rfl q7, fun x hx => va_Nw.same rfl rfl (q8 x hx)⟩
theorem pTh_at {G : va_G} {ad : Nat → Nat} {cA : Nat → ClassId} {M : pM} {s : State} {H : Heap} {locs : List Loc} {A : Nat → Prop} {H0 : Heap} {a1 a2 a3 : Nat} (hA : ∀ q : Nat, H0.size ≤ q → A q) (hW : pWd G ad cA A H0 M H locs) (hH0 : H0 = s.heap) (hT : pTh A s s.heap a1 a2 a3) {U : State} (hU : U.heap = H) (hWm : s.WarmedH U.vm) : pTh (va_A (pW ad cA M) H.size) U U.heap a1 a2 a3 := by
  subst hH0
  have hk : ∀ a : Nat, a < s.heap.size → ¬ A a → H[a]? = s.heap[a]? := hW.2.2.2.1
  have hin : ∀ z, va_A (pW ad cA M) H.size z → A z := by
    rintro z (⟨k, e9, h⟩ | h)
    · exact hW.2.1.2 k _ h
    · exact hA z (Nat.le_trans hW.2.2.1 h)
  rw [hU]
  obtain ⟨q2, q3, q4, q5, q6, q7, q8⟩ := hT
  exact ⟨((vx_Zq.moved hWm.alike q2).kept hk).narrow hin, ((vx_Zq.moved hWm.alike q3).kept hk).narrow hin, q4.warm hWm, q5.warm hWm, q6.warm hWm, va_Nw.warmC hWm q7, fun x hx => va_Nw.warmD hWm (q8 x hx)⟩
def pTrg : List Cond := (tables_1_1.drop 21).take 12 ++ (tables_1_6.drop 43).take 70
theorem pTrg_in : ∀ w ∈ pTrg, w ∈ lw_tbl := fun w hw => by
  rcases List.mem_append.mp hw with h | h
  · have h : w ∈ tables_1_1 := List.mem_of_mem_drop (List.mem_of_mem_take h)
    exact List.mem_append_right _ (show w ∈ tables_1 from List.mem_append_left _ h)
  · have h : w ∈ tables_1_6 := List.mem_of_mem_drop (List.mem_of_mem_take h)
    exact List.mem_append_right _ (show w ∈ tables_1 from List.mem_append_right _ (List.mem_append_right _ (List.mem_append_right _ (List.mem_append_right _ (List.mem_append_right _ (List.mem_append_left _ h))))))
theorem pTall_in0 : ∀ w ∈ pTall.filter goodWord, w ∈ lw_tbl := fun w hw => pTrg_in w ((show ∀ w ∈ pTall.filter goodWord, w ∈ pTrg by decide +kernel) w hw)
theorem pTall_in (w : Cond) (hw : w ∈ pTall) (hg : goodWord w = true) : w ∈ pws := List.mem_filter.mpr ⟨pTall_in0 w (List.mem_filter.mpr ⟨hw, hg⟩), hg⟩
/-- the run of a method up to the place where it throws -/
noncomputable def xRc (d k pl : Nat) (a : List pV) (M : pM) : Option pR := prun (pprog k) (fun i => Nat.beq i pl) (fun i _ st M => bif Nat.beq i pl && st.isEmpty then some (none, M) else none) (xF d) 60 0 (ppad pnl k a) [] M
/-- a method with a table of its own that returns -/
theorem pm_ofWH {l : Launch} {y : MethodName} {ws ws' : List Cond} {rm : Room} {Pc : Array Value → State → Prop} {Qc : Array Value → State → Outcome → State → Prop} {mc ms : Nat} {free : Addr → Prop} {cc : ByteArray} {maxL : Nat} {ret : Option FieldType} {hh : List (Nat × Nat × Nat × Nat)}
    (hy : plainName y.cls = true) (hw : ws = Cond.codeWith y cc maxL ret hh :: ws')
    (body : ∀ p e s m args below meth c s₁, BodyLoose p l y (headSpec ws rm) cc maxL ret e s m args below meth c s₁ → c.maxLocals = maxL → Pc args s →
      W p l e (headSpec ws rm).room s m args below meth c s.heap [] 0 0 (MQ below Qc args s mc ms free) (entryFrame m args maxL)) : Met l y ws rm Pc Qc mc ms free := by
  refine MetFree.of_bodyS (code := cc) (maxLocals := maxL) (ret := ret) hy ?_ ?_
  · intro args s m h hn
    obtain ⟨m9, meth, c, hn9, h1, h2, h3, h4, -, h5, h6, -⟩ := Cond.codeWith_spec (atoms_spec (ws := ws) h _ (by rw [hw]; exact List.mem_cons_self))
    cases hn.symm.trans hn9
    exact ⟨meth, c, h1, h2, h3, h4, h5, h6⟩
  · intro p e s m args below meth c s₁ B hml hP _
    have hh0 : s₁.heap = s.heap := by rw [B.state]; rfl
    obtain ⟨t, a1, o, b1, b2, b3⟩ := body p e s m args below meth c s₁ B hml hP s₁ hh0 (Stand.of_body B)
    exact ⟨t, o, a1, b1, b2, b3⟩
theorem pTgood : pTall.all (fun w => goodWord w || decide (w ∈ pDl.map Cond.declares)) = true := by decide +kernel
theorem pTw_at {A : Nat → Prop} {U : State} {H : Heap} {a1 a2 a3 : Nat} (hT : pTh A U H a1 a2 a3) {args : Array Value} (hp : ∀ w ∈ pws, w.before args U = true) : ∀ w ∈ pTall, w.before args U = true := by
  intro w hw
  have h := List.all_eq_true.mp pTgood w hw
  rcases Bool.or_eq_true_iff.mp h with h | h
  · exact hp w (pTall_in w hw h)
  · obtain ⟨x, hx, rfl⟩ := List.mem_map.mp (of_decide_eq_true h)
    exact va_Nw.use rfl (hT.2.2.2.2.2.2 x hx)
noncomputable def yL (D k pl : Nat) (a : List pV) (M : pM) : Option pR := match xF D k a M with
  | some (some (.inl v), M1) => some (some (.inl 0), pset M1 90 0 (iI v).toInt)
  | _ => (match xRc D k pl a M with
    | some (none, M1) => some (some (.inl 1), M1)
    | _ => none)
theorem i64_32 (x : Int32) : Int64.ofInt x.toInt = x.toInt64 := by
  rw [← Int32.toInt_toInt64, Int64.ofInt_toInt]
theorem pW_outset {ad : Nat → Nat} {cA : Nat → ClassId} {M : pM} {x : Int32} : (pW ad cA M).set 90 (ad 90, .inl (cA 90, 1, .inr (.inl (vp_updL (fun i => Int64.ofInt (M 90 i)) 0 x.toInt64)))) = pW ad cA (pset M 90 0 x.toInt) := by
  refine pW_set (M' := pset M 90 0 x.toInt) (fun o' i hne => pset_ne hne) ?_
  show (ad 90, Sum.inl (cA 90, 1, Sum.inr (Sum.inl fun i => Int64.ofInt (pset M 90 0 x.toInt 90 i)))) = _
  refine congrArg (fun z => (ad 90, Sum.inl (cA 90, 1, Sum.inr (Sum.inl z)))) (funext fun j => ?_)
  unfold vp_updL
  by_cases e : j = 0
  · subst e; rw [if_pos rfl, pset_eq, i64_32]
  · rw [if_neg e, pset_ne2 e]
set_option maxRecDepth 100000 in
set_option maxHeartbeats 4000000 in
theorem thr_room (l : Launch) (hfl : l.stackTraces = false) (G : va_G) (ad : Nat → Nat) (cA : Nat → ClassId) (D : Nat) (M M1 : pM) (a : List pV) (ha : a.length ≤ 3) (h : xRc D 4 10 a M = some (none, M1)) (sz a1 a2 a3 : Nat) : vx_Met l (pyn 4) (pwk 4) ({ frames := D + 10, cells := 1, slots := 6, locals := 80 * (D + 2) }) (va_Pc (a.map (ptv ad)) (pPreT G ad cA M sz a1 a2 a3)) (va_Qi (fun (_ : Int32) (_ : Unit) => False) (fun _ _ => True) (va_A (pW ad cA M) sz)) (vx_X (fun _ : Unit => True) (fun E _ t => E = pNSE ∧ va_P G pcl (pW ad cA M1) t.heap) (va_A (pW ad cA M) sz)) 1 6 (va_A (pW ad cA M) sz) := by
  refine vx_ofW (cc := pcc 4) (maxL := 3) (ret := some .int) (by decide +kernel) rfl ?_
  intro p e s m args below meth c s₁ B hml htab hv
  obtain ⟨rfl, ⟨hsz, hP, hK, hD0, hN, hRO⟩, hT⟩ := hv
  have hx := B.exec
  have hb := B.bytes
  have hr := B.returns
  have hts := atoms_spec (ws := pwk 4) B.pre
  have hown : s.vm.findClass (pyn 4).cls = some m.cls := findClass_of_methodNamed B.named
  have hlocks := B.notSynchronized
  subst hsz
  have hD := hD0.self (sz := s.heap.size)
  have hl := lv_entry (a.map (ptv ad)) (n := 3) (by rw [p_args_len, List.length_map]; exact ha)
  rw [lg_entry_eq]
  generalize (lg_sl (a.map (ptv ad)) ++ List.replicate (3 - (lg_sl (a.map (ptv ad))).length) Slot.unset).toArray = arr at hl ⊢
  have hl := p_entry ha hl
  have hp : ∀ w ∈ pws, w.before (List.map (ptv ad) a).toArray s = true := fun w hw => hts w (List.mem_cons_of_mem _ hw)
  have hCx : pCx p (headSpec (pwk 4) ({ frames := D + 10, cells := 1, slots := 6, locals := 80 * (D + 2) })).room s m (List.map (ptv ad) a).toArray meth c G ad cA (va_A (pW ad cA M) s.heap.size) s.heap (pyn 4).cls (pcc 4) 3 0 0 := ⟨hx, hb, hml, hown, hp, hN, hK, Nat.zero_le _, Nat.zero_le _, by show 1 ≤ D + 10; omega, by show 30 ≤ 80 * (D + 2); omega, rfl, hRO⟩
  have hRt : pRt p l e (headSpec (pwk 4) ({ frames := D + 10, cells := 1, slots := 6, locals := 80 * (D + 2) })).room s m (List.map (ptv ad) a).toArray below meth c G ad cA (va_A (pW ad cA M) s.heap.size) s.heap 0 0 (fun r => if r.1 = none then vx_MQ below (va_Qi (fun (_ : Int32) (_ : Unit) => False) (fun _ _ => True) (va_A (pW ad cA M) s.heap.size)) (vx_X (fun _ : Unit => True) (fun E _ t => E = pNSE ∧ va_P G pcl (pW ad cA r.2) t.heap) (va_A (pW ad cA M) s.heap.size)) (List.map (ptv ad) a).toArray s 1 6 (va_A (pW ad cA M) s.heap.size) else fun _ => True) (pcc 4) (some .int) := by
    refine ⟨fun _ v M9 H9 locs9 arr9 pc9 _ _ => ?_, fun hr9 => ?_, fun hr9 => (by cases hr9), fun hr9 => ?_⟩
    · intro T _ _; exact ⟨_, Steps.refl _, trivial⟩
    · rcases hr9 with hr9 | hr9 <;> cases hr9
    · obtain ⟨_, hr9⟩ := hr9; cases hr9
  have hX : pGd p l e (headSpec (pwk 4) ({ frames := D + 10, cells := 1, slots := 6, locals := 80 * (D + 2) })).room s m (List.map (ptv ad) a).toArray below meth c G ad cA (va_A (pW ad cA M) s.heap.size) s.heap 0 0 (fun r => if r.1 = none then vx_MQ below (va_Qi (fun (_ : Int32) (_ : Unit) => False) (fun _ _ => True) (va_A (pW ad cA M) s.heap.size)) (vx_X (fun _ : Unit => True) (fun E _ t => E = pNSE ∧ va_P G pcl (pW ad cA r.2) t.heap) (va_A (pW ad cA M) s.heap.size)) (List.map (ptv ad) a).toArray s 1 6 (va_A (pW ad cA M) s.heap.size) else fun _ => True) 3 (ppcs 4) (fun i _ st M => bif Nat.beq i 10 && st.isEmpty then some (none, M) else none) := by
    intro i ls st M9 r h9 H locs arr9 hW9 hl9
    cases hi : (Nat.beq i 10 && st.isEmpty) with
    | false => dsimp only at h9; rw [hi] at h9; cases h9
    | true =>
      dsimp only at h9
      rw [hi] at h9
      cases h9
      have hi1 : i = 10 := Nat.eq_of_beq_eq_true (Bool.and_eq_true_iff.mp hi).1
      have hs1 : st = [] := List.isEmpty_iff.mp (Bool.and_eq_true_iff.mp hi).2
      subst hi1
      subst hs1
      show W p l e _ s m _ below meth c H locs 0 0 (if (none : Option pV) = none then vx_MQ below (va_Qi (fun (_ : Int32) (_ : Unit) => False) (fun _ _ => True) (va_A (pW ad cA M) s.heap.size)) (vx_X (fun _ : Unit => True) (fun E _ t => E = pNSE ∧ va_P G pcl (pW ad cA M9) t.heap) (va_A (pW ad cA M) s.heap.size)) (List.map (ptv ad) a).toArray s 1 6 (va_A (pW ad cA M) s.heap.size) else fun _ => True) (F0 m (ppcs 4 10) arr9 [])
      rw [if_pos rfl]
      refine nse_throw (is := 142) (k := 2) hx hb hfl hown (hp _ (pmt6 48 rfl rfl)) (hp _ (pmt1 24 rfl rfl)) hT.2.2.1 (pTw_at hT hp) (by decide +kernel) hT.1 hT.2.1 hW9.2.2 (hl9.2.1.trans hml.symm) (by decide +kernel) (by decide +kernel) (Or.inl ⟨(by decide +kernel), rfl⟩) (by decide +kernel) (by decide +kernel) (fun x hx9 => (htab x hx9).elim) (by show 5 < D + 10; omega) (by show 0 + 82 ≤ 80 * (D + 2); omega) (Nat.le_refl 1) (Nat.le_refl 6) hlocks (fun t hal hsz9 hk9 => ⟨(), trivial, ⟨rfl, hW9.1.kept fun k q hq => hk9 _ (hW9.1 k q hq).lt⟩, Nat.le_trans hW9.2.2.1 hsz9, fun q h1 h2 => (hk9 q (Nat.lt_of_lt_of_le h1 hW9.2.2.1)).trans (hW9.2.2.2.1 q h1 h2)⟩) hW9.2.2.2.2 (Nat.le_refl 1) (Nat.le_refl 6)
  have hG := prun_snd0 (x_hS 4) hCx (fun q hq => Or.inr hq) hRt (fun i => Nat.beq i 10) hX (x_sound (d := D) (by show D + 1 ≤ D + 10; omega) (by show 80 * (D + 1) ≤ 80 * (D + 2); omega)) 60
  have h7 := hG 0 _ _ _ _ h s.heap [] arr ⟨hP, hD, va_S.rf⟩ hl
  have e7 : ∀ (A B : State → Prop), (if (none : Option pV) = none then A else B) = A := fun A B => if_pos rfl
  dsimp only at h7
  rw [e7] at h7
  exact h7
set_option maxRecDepth 100000 in
set_option maxHeartbeats 4000000 in
theorem thr_thing (l : Launch) (hfl : l.stackTraces = false) (G : va_G) (ad : Nat → Nat) (cA : Nat → ClassId) (D : Nat) (M M1 : pM) (a : List pV) (ha : a.length ≤ 3) (h : xRc D 5 10 a M = some (none, M1)) (sz a1 a2 a3 : Nat) : vx_Met l (pyn 5) (pwk 5) ({ frames := D + 10, cells := 1, slots := 6, locals := 80 * (D + 2) }) (va_Pc (a.map (ptv ad)) (pPreT G ad cA M sz a1 a2 a3)) (va_Qi (fun (_ : Int32) (_ : Unit) => False) (fun _ _ => True) (va_A (pW ad cA M) sz)) (vx_X (fun _ : Unit => True) (fun E _ t => E = pNSE ∧ va_P G pcl (pW ad cA M1) t.heap) (va_A (pW ad cA M) sz)) 1 6 (va_A (pW ad cA M) sz) := by
  refine vx_ofW (cc := pcc 5) (maxL := 3) (ret := some .int) (by decide +kernel) rfl ?_
  intro p e s m args below meth c s₁ B hml htab hv
  obtain ⟨rfl, ⟨hsz, hP, hK, hD0, hN, hRO⟩, hT⟩ := hv
  have hx := B.exec
  have hb := B.bytes
  have hr := B.returns
  have hts := atoms_spec (ws := pwk 5) B.pre
  have hown : s.vm.findClass (pyn 5).cls = some m.cls := findClass_of_methodNamed B.named
  have hlocks := B.notSynchronized
  subst hsz
  have hD := hD0.self (sz := s.heap.size)
  have hl := lv_entry (a.map (ptv ad)) (n := 3) (by rw [p_args_len, List.length_map]; exact ha)
  rw [lg_entry_eq]
  generalize (lg_sl (a.map (ptv ad)) ++ List.replicate (3 - (lg_sl (a.map (ptv ad))).length) Slot.unset).toArray = arr at hl ⊢
  have hl := p_entry ha hl
  have hp : ∀ w ∈ pws, w.before (List.map (ptv ad) a).toArray s = true := fun w hw => hts w (List.mem_cons_of_mem _ hw)
  have hCx : pCx p (headSpec (pwk 5) ({ frames := D + 10, cells := 1, slots := 6, locals := 80 * (D + 2) })).room s m (List.map (ptv ad) a).toArray meth c G ad cA (va_A (pW ad cA M) s.heap.size) s.heap (pyn 5).cls (pcc 5) 3 0 0 := ⟨hx, hb, hml, hown, hp, hN, hK, Nat.zero_le _, Nat.zero_le _, by show 1 ≤ D + 10; omega, by show 30 ≤ 80 * (D + 2); omega, rfl, hRO⟩
  have hRt : pRt p l e (headSpec (pwk 5) ({ frames := D + 10, cells := 1, slots := 6, locals := 80 * (D + 2) })).room s m (List.map (ptv ad) a).toArray below meth c G ad cA (va_A (pW ad cA M) s.heap.size) s.heap 0 0 (fun r => if r.1 = none then vx_MQ below (va_Qi (fun (_ : Int32) (_ : Unit) => False) (fun _ _ => True) (va_A (pW ad cA M) s.heap.size)) (vx_X (fun _ : Unit => True) (fun E _ t => E = pNSE ∧ va_P G pcl (pW ad cA r.2) t.heap) (va_A (pW ad cA M) s.heap.size)) (List.map (ptv ad) a).toArray s 1 6 (va_A (pW ad cA M) s.heap.size) else fun _ => True) (pcc 5) (some .int) := by
    refine ⟨fun _ v M9 H9 locs9 arr9 pc9 _ _ => ?_, fun hr9 => ?_, fun hr9 => (by cases hr9), fun hr9 => ?_⟩
    · intro T _ _; exact ⟨_, Steps.refl _, trivial⟩
    · rcases hr9 with hr9 | hr9 <;> cases hr9
    · obtain ⟨_, hr9⟩ := hr9; cases hr9
  have hX : pGd p l e (headSpec (pwk 5) ({ frames := D + 10, cells := 1, slots := 6, locals := 80 * (D + 2) })).room s m (List.map (ptv ad) a).toArray below meth c G ad cA (va_A (pW ad cA M) s.heap.size) s.heap 0 0 (fun r => if r.1 = none then vx_MQ below (va_Qi (fun (_ : Int32) (_ : Unit) => False) (fun _ _ => True) (va_A (pW ad cA M) s.heap.size)) (vx_X (fun _ : Unit => True) (fun E _ t => E = pNSE ∧ va_P G pcl (pW ad cA r.2) t.heap) (va_A (pW ad cA M) s.heap.size)) (List.map (ptv ad) a).toArray s 1 6 (va_A (pW ad cA M) s.heap.size) else fun _ => True) 3 (ppcs 5) (fun i _ st M => bif Nat.beq i 10 && st.isEmpty then some (none, M) else none) := by
    intro i ls st M9 r h9 H locs arr9 hW9 hl9
    cases hi : (Nat.beq i 10 && st.isEmpty) with
    | false => dsimp only at h9; rw [hi] at h9; cases h9
    | true =>
      dsimp only at h9
      rw [hi] at h9
      cases h9
      have hi1 : i = 10 := Nat.eq_of_beq_eq_true (Bool.and_eq_true_iff.mp hi).1
      have hs1 : st = [] := List.isEmpty_iff.mp (Bool.and_eq_true_iff.mp hi).2
      subst hi1
      subst hs1
      show W p l e _ s m _ below meth c H locs 0 0 (if (none : Option pV) = none then vx_MQ below (va_Qi (fun (_ : Int32) (_ : Unit) => False) (fun _ _ => True) (va_A (pW ad cA M) s.heap.size)) (vx_X (fun _ : Unit => True) (fun E _ t => E = pNSE ∧ va_P G pcl (pW ad cA M9) t.heap) (va_A (pW ad cA M) s.heap.size)) (List.map (ptv ad) a).toArray s 1 6 (va_A (pW ad cA M) s.heap.size) else fun _ => True) (F0 m (ppcs 5 10) arr9 [])
      rw [if_pos rfl]
      refine nse_throw (is := 167) (k := 2) hx hb hfl hown (hp _ (pmt6 48 rfl rfl)) (hp _ (pmt1 24 rfl rfl)) hT.2.2.2.1 (pTw_at hT hp) (by decide +kernel) hT.1 hT.2.1 hW9.2.2 (hl9.2.1.trans hml.symm) (by decide +kernel) (by decide +kernel) (Or.inl ⟨(by decide +kernel), rfl⟩) (by decide +kernel) (by decide +kernel) (fun x hx9 => (htab x hx9).elim) (by show 5 < D + 10; omega) (by show 0 + 82 ≤ 80 * (D + 2); omega) (Nat.le_refl 1) (Nat.le_refl 6) hlocks (fun t hal hsz9 hk9 => ⟨(), trivial, ⟨rfl, hW9.1.kept fun k q hq => hk9 _ (hW9.1 k q hq).lt⟩, Nat.le_trans hW9.2.2.1 hsz9, fun q h1 h2 => (hk9 q (Nat.lt_of_lt_of_le h1 hW9.2.2.1)).trans (hW9.2.2.2.1 q h1 h2)⟩) hW9.2.2.2.2 (Nat.le_refl 1) (Nat.le_refl 6)
  have hG := prun_snd0 (x_hS 5) hCx (fun q hq => Or.inr hq) hRt (fun i => Nat.beq i 10) hX (x_sound (d := D) (by show D + 1 ≤ D + 10; omega) (by show 80 * (D + 1) ≤ 80 * (D + 2); omega)) 60
  have h7 := hG 0 _ _ _ _ h s.heap [] arr ⟨hP, hD, va_S.rf⟩ hl
  have e7 : ∀ (A B : State → Prop), (if (none : Option pV) = none then A else B) = A := fun A B => if_pos rfl
  dsimp only at h7
  rw [e7] at h7
  exact h7
set_option maxRecDepth 100000 in
set_option maxHeartbeats 4000000 in
theorem thr_row (l : Launch) (hfl : l.stackTraces = false) (G : va_G) (ad : Nat → Nat) (cA : Nat → ClassId) (D : Nat) (M M1 : pM) (a : List pV) (ha : a.length ≤ 2) (h : xRc D 46 7 a M = some (none, M1)) (sz a1 a2 a3 : Nat) : vx_Met l (pyn 46) (pwk 46) ({ frames := D + 10, cells := 1, slots := 6, locals := 80 * (D + 2) }) (va_Pc (a.map (ptv ad)) (pPreT G ad cA M sz a1 a2 a3)) (va_Qi (fun (_ : Int32) (_ : Unit) => False) (fun _ _ => True) (va_A (pW ad cA M) sz)) (vx_X (fun _ : Unit => True) (fun E _ t => E = pNSE ∧ va_P G pcl (pW ad cA M1) t.heap) (va_A (pW ad cA M) sz)) 1 6 (va_A (pW ad cA M) sz) := by
  refine vx_ofW (cc := pcc 46) (maxL := 2) (ret := some .int) (by decide +kernel) rfl ?_
  intro p e s m args below meth c s₁ B hml htab hv
  obtain ⟨rfl, ⟨hsz, hP, hK, hD0, hN, hRO⟩, hT⟩ := hv
  have hx := B.exec
  have hb := B.bytes
  have hr := B.returns
  have hts := atoms_spec (ws := pwk 46) B.pre
  have hown : s.vm.findClass (pyn 46).cls = some m.cls := findClass_of_methodNamed B.named
  have hlocks := B.notSynchronized
  subst hsz
  have hD := hD0.self (sz := s.heap.size)
  have hl := lv_entry (a.map (ptv ad)) (n := 2) (by rw [p_args_len, List.length_map]; exact ha)
  rw [lg_entry_eq]
  generalize (lg_sl (a.map (ptv ad)) ++ List.replicate (2 - (lg_sl (a.map (ptv ad))).length) Slot.unset).toArray = arr at hl ⊢
  have hl := p_entry ha hl
  have hp : ∀ w ∈ pws, w.before (List.map (ptv ad) a).toArray s = true := fun w hw => hts w (List.mem_cons_of_mem _ hw)
  have hCx : pCx p (headSpec (pwk 46) ({ frames := D + 10, cells := 1, slots := 6, locals := 80 * (D + 2) })).room s m (List.map (ptv ad) a).toArray meth c G ad cA (va_A (pW ad cA M) s.heap.size) s.heap (pyn 46).cls (pcc 46) 2 0 0 := ⟨hx, hb, hml, hown, hp, hN, hK, Nat.zero_le _, Nat.zero_le _, by show 1 ≤ D + 10; omega, by show 30 ≤ 80 * (D + 2); omega, rfl, hRO⟩
  have hRt : pRt p l e (headSpec (pwk 46) ({ frames := D + 10, cells := 1, slots := 6, locals := 80 * (D + 2) })).room s m (List.map (ptv ad) a).toArray below meth c G ad cA (va_A (pW ad cA M) s.heap.size) s.heap 0 0 (fun r => if r.1 = none then vx_MQ below (va_Qi (fun (_ : Int32) (_ : Unit) => False) (fun _ _ => True) (va_A (pW ad cA M) s.heap.size)) (vx_X (fun _ : Unit => True) (fun E _ t => E = pNSE ∧ va_P G pcl (pW ad cA r.2) t.heap) (va_A (pW ad cA M) s.heap.size)) (List.map (ptv ad) a).toArray s 1 6 (va_A (pW ad cA M) s.heap.size) else fun _ => True) (pcc 46) (some .int) := by
    refine ⟨fun _ v M9 H9 locs9 arr9 pc9 _ _ => ?_, fun hr9 => ?_, fun hr9 => (by cases hr9), fun hr9 => ?_⟩
    · intro T _ _; exact ⟨_, Steps.refl _, trivial⟩
    · rcases hr9 with hr9 | hr9 <;> cases hr9
    · obtain ⟨_, hr9⟩ := hr9; cases hr9
  have hX : pGd p l e (headSpec (pwk 46) ({ frames := D + 10, cells := 1, slots := 6, locals := 80 * (D + 2) })).room s m (List.map (ptv ad) a).toArray below meth c G ad cA (va_A (pW ad cA M) s.heap.size) s.heap 0 0 (fun r => if r.1 = none then vx_MQ below (va_Qi (fun (_ : Int32) (_ : Unit) => False) (fun _ _ => True) (va_A (pW ad cA M) s.heap.size)) (vx_X (fun _ : Unit => True) (fun E _ t => E = pNSE ∧ va_P G pcl (pW ad cA r.2) t.heap) (va_A (pW ad cA M) s.heap.size)) (List.map (ptv ad) a).toArray s 1 6 (va_A (pW ad cA M) s.heap.size) else fun _ => True) 2 (ppcs 46) (fun i _ st M => bif Nat.beq i 7 && st.isEmpty then some (none, M) else none) := by
    intro i ls st M9 r h9 H locs arr9 hW9 hl9
    cases hi : (Nat.beq i 7 && st.isEmpty) with
    | false => dsimp only at h9; rw [hi] at h9; cases h9
    | true =>
      dsimp only at h9
      rw [hi] at h9
      cases h9
      have hi1 : i = 7 := Nat.eq_of_beq_eq_true (Bool.and_eq_true_iff.mp hi).1
      have hs1 : st = [] := List.isEmpty_iff.mp (Bool.and_eq_true_iff.mp hi).2
      subst hi1
      subst hs1
      show W p l e _ s m _ below meth c H locs 0 0 (if (none : Option pV) = none then vx_MQ below (va_Qi (fun (_ : Int32) (_ : Unit) => False) (fun _ _ => True) (va_A (pW ad cA M) s.heap.size)) (vx_X (fun _ : Unit => True) (fun E _ t => E = pNSE ∧ va_P G pcl (pW ad cA M9) t.heap) (va_A (pW ad cA M) s.heap.size)) (List.map (ptv ad) a).toArray s 1 6 (va_A (pW ad cA M) s.heap.size) else fun _ => True) (F0 m (ppcs 46 7) arr9 [])
      rw [if_pos rfl]
      refine nse_throw (is := 440) (k := 3) hx hb hfl hown (hp _ (pmt6 48 rfl rfl)) (hp _ (pmt1 24 rfl rfl)) hT.2.2.2.2.1 (pTw_at hT hp) (by decide +kernel) hT.1 hT.2.1 hW9.2.2 (hl9.2.1.trans hml.symm) (by decide +kernel) (by decide +kernel) (Or.inr ⟨(by decide +kernel), rfl⟩) (by decide +kernel) (by decide +kernel) (fun x hx9 => (htab x hx9).elim) (by show 5 < D + 10; omega) (by show 0 + 82 ≤ 80 * (D + 2); omega) (Nat.le_refl 1) (Nat.le_refl 6) hlocks (fun t hal hsz9 hk9 => ⟨(), trivial, ⟨rfl, hW9.1.kept fun k q hq => hk9 _ (hW9.1 k q hq).lt⟩, Nat.le_trans hW9.2.2.1 hsz9, fun q h1 h2 => (hk9 q (Nat.lt_of_lt_of_le h1 hW9.2.2.1)).trans (hW9.2.2.2.1 q h1 h2)⟩) hW9.2.2.2.2 (Nat.le_refl 1) (Nat.le_refl 6)
  have hG := prun_snd0 (x_hS 46) hCx (fun q hq => Or.inr hq) hRt (fun i => Nat.beq i 7) hX (x_sound (d := D) (by show D + 1 ≤ D + 10; omega) (by show 80 * (D + 1) ≤ 80 * (D + 2); omega)) 60
  have h7 := hG 0 _ _ _ _ h s.heap [] arr ⟨hP, hD, va_S.rf⟩ hl
  have e7 : ∀ (A B : State → Prop), (if (none : Option pV) = none then A else B) = A := fun A B => if_pos rfl
  dsimp only at h7
  rw [e7] at h7
  exact h7
set_option maxRecDepth 100000 in
set_option maxHeartbeats 4000000 in
theorem L_room (l : Launch) (hfl : l.stackTraces = false) (G : va_G) (ad : Nat → Nat) (cA : Nat → ClassId) (D : Nat) (M M2 : pM) (p0 p1 v : Int) (h : yL D 4 10 [.inr 2, .inl p0, .inl p1] M = some (some (.inl v), M2)) (sz a1 a2 a3 : Nat) : Met l yL_room (Cond.codeWith yL_room cL_room 5 (some .int) [(0, 10, 13, 13)] :: pws) ({ frames := D + 12, cells := 1, slots := 6, locals := 80 * (D + 3) } : Room) (va_Pc [.ref (ad 0), .int (iI p0), .int (iI p1), .ref (ad 90)] (pPreT G ad cA M sz a1 a2 a3)) (pQ G ad cA (va_A (pW ad cA M) sz) (some (.inl v), M2)) 1 6 (va_A (pW ad cA M) sz) := by
  refine pm_ofWH (cc := cL_room) (maxL := 5) (ret := some .int) (hh := [(0, 10, 13, 13)]) (by decide +kernel) rfl ?_
  intro p e s m args below meth c s₁ B hml hv
  obtain ⟨rfl, ⟨hsz, hP, hK, hD0, hN, hRO⟩, hT⟩ := hv
  have hx := B.exec
  have hb := B.bytes
  have hr := B.returns
  have hts := atoms_spec (ws := Cond.codeWith yL_room cL_room 5 (some .int) [(0, 10, 13, 13)] :: pws) B.pre
  have htab := vx_table (x := yL_room) B (hts _ List.mem_cons_self)
  have hown : s.vm.findClass RL = some m.cls := findClass_of_methodNamed B.named
  have hlocks := B.notSynchronized
  have hp : ∀ w ∈ pws, w.before (List.toArray [.ref (ad 0), .int (iI p0), .int (iI p1), .ref (ad 90)]) s = true := fun w hw => hts w (List.mem_cons_of_mem _ hw)
  subst hsz
  have hD := hD0.self (sz := s.heap.size)
  have hA : ∀ q : Nat, s.heap.size ≤ q → va_A (pW ad cA M) s.heap.size q := fun q hq => Or.inr hq
  have hl := lv_entry ([.ref (ad 0), .int (iI p0), .int (iI p1), .ref (ad 90)]) (n := 5) (Nat.le_of_ble_eq_true rfl)
  rw [lg_entry_eq]
  generalize (lg_sl ([.ref (ad 0), .int (iI p0), .int (iI p1), .ref (ad 90)]) ++ List.replicate (5 - (lg_sl ([.ref (ad 0), .int (iI p0), .int (iI p1), .ref (ad 90)])).length) Slot.unset).toArray = ls at hl ⊢
  have hl : lv_has ls 5 [(0, .ref (ad 0)), (1, .int (iI p0)), (2, .int (iI p1)), (3, .ref (ad 90))] := hl
  have hW : pWd G ad cA (va_A (pW ad cA M) s.heap.size) s.heap M s.heap [] := ⟨hP, hD, va_S.rf⟩
  refine lv_aload_n (k := 3) hx hb (show decode cL_room 0 = .ok (.aload_n 3, 1) by decide +kernel) rfl (lv_at hl 3 rfl) ?_
  refine lv_iconst (v := iI 0) hx hb (show decode cL_room 1 = .ok (.iconst 0, 1) by decide +kernel) rfl ?_
  refine lv_aload_n (k := 0) hx hb (show decode cL_room 2 = .ok (.aload_n 0, 1) by decide +kernel) rfl (lv_at hl 0 rfl) ?_
  refine lv_iload_n (k := 1) hx hb (show decode cL_room 3 = .ok (.iload_n 1, 1) by decide +kernel) rfl (lv_at hl 1 rfl) ?_
  refine lv_iload_n (k := 2) hx hb (show decode cL_room 4 = .ok (.iload_n 2, 1) by decide +kernel) rfl (lv_at hl 2 rfl) ?_
  have hat : (pW ad cA M)[0]? = some (ad 0, .inr (11, (List.range (pL 0)).map fun k => ptv ad (pfv 0 k M))) := pW_at ad cA M (by decide)
  unfold yL at h
  split at h
  · rename_i v1 M1 hF
    cases h
    obtain ⟨rm, c1, c2, c3, c4, hMet⟩ := x_sound (l := l) (G := G) (ad := ad) (cA := cA) (d := D) (R := ({ frames := D + 12, cells := 1, slots := 6, locals := 80 * (D + 3) } : Room)) (by show D + 1 ≤ D + 12; omega) (by show 80 * (D + 1) ≤ 80 * (D + 3); omega) 4 _ _ _ hF
    refine pcall_go hA hW (va_runV (b := ad 0) (C := RX11) (As := [.int (iI p0), .int (iI p1)]) (rest := [.int (iI 0), .ref (ad 90)]) ⟨hx, hb, hml, hown, hp⟩ (hMet s.heap.size) ⟨pCB (n := 2) cal_4 hp (pmt6 44 rfl rfl) c1 c2 c3 c4, hp _ (pmt6 45 rfl rfl), hp _ (pmt6 46 rfl rfl)⟩ ⟨pblind, va_recv (ci := 11) hK hP rfl hat, fun U hU hWm => ⟨rfl, ppre hA hW rfl hRO hK hN U hU hWm⟩⟩ rfl rfl hl.1 rfl (lv_room (Nat.le_of_ble_eq_true rfl)) (show decode cL_room 5 = .ok (.invokevirtual 7, 3) by decide +kernel) ⟨Nat.zero_le _, Nat.zero_le _⟩) (fun H1 locs1 hW1 => ?_)
    refine W.widen (k := 1) (n := 6) (Nat.zero_le _) (Nat.zero_le _) ?_
    show W p l e _ s m _ below meth c H1 locs1 1 6 _ (F0 m 8 ls [.int (iI v1), .int (iI 0), .ref (ad 90)])
    refine lv_i2l hx hb (show decode cL_room 8 = .ok (.i2l, 1) by decide +kernel) rfl ?_
    obtain ⟨t0, ht0⟩ := pty_out cA
    refine va_last hx hb hK hW1.1 hW1.2.1 hW1.2.2 90 t0 pW_out ht0 (by unfold vp_in; decide +kernel) (show decode cL_room 9 = .ok (.lastore, 1) by decide +kernel) (fun H2 locs2 hP2 hD2 hS2 => ?_)
    have hP2 : va_P G pcl ((pW ad cA M1).set 90 (ad 90, .inl (cA 90, 1, .inr (.inl (vp_updL (fun i => Int64.ofInt (M1 90 i)) 0 (iI v1).toInt64))))) H2 := hP2
    rw [pW_outset] at hP2
    refine lv_goto (tgt := 17) hx hb (show decode cL_room 10 = .ok (.goto 7, 3) by decide +kernel) (by decide +kernel) ?_
    refine lv_iconst (v := iI 0) hx hb (show decode cL_room 17 = .ok (.iconst 0, 1) by decide +kernel) rfl ?_
    exact W.iret (v := iI 0) hx hb hr (fun t ht hWm => ⟨rfl, by rw [ht]; exact hP2, hS2.F ht⟩) hS2.2.2 (show decode cL_room 18 = .ok (.ireturn, 1) by decide +kernel) hlocks
  · split at h
    · rename_i M1 hF
      cases h
      have hMet := thr_room l hfl G ad cA D M M2 [.inr 2, .inl p0, .inl p1] (Nat.le_of_ble_eq_true rfl) hF s.heap.size a1 a2 a3
      refine vx_calli (hr := vx_runV (b := ad 0) (C := RX11) (As := [.int (iI p0), .int (iI p1)]) (rest := [.int (iI 0), .ref (ad 90)]) ⟨hx, hb, hml, hown, hp⟩ hMet ⟨callB_of (n := 2) hp (pGoodIn cal_4) rfl rfl rfl (hp _ (cal_4).2.2.2.1) (hp _ (pmt6 44 rfl rfl)) (cal_4).2.2.2.2 ⟨by show D + 10 + 1 ≤ D + 12; omega, by show 8 + (3 + 11) + 80 * (D + 2) ≤ 80 * (D + 3); omega⟩, hp _ (pmt6 45 rfl rfl), hp _ (pmt6 46 rfl rfl)⟩ ⟨pblindT, va_recv (ci := 11) hK hP rfl hat, fun U hU hWm => ⟨rfl, ppre hA hW rfl hRO hK hN U hU hWm, pTh_at hA hW rfl hT hU hWm⟩⟩ rfl rfl hl.1 rfl (lv_room (Nat.le_of_ble_eq_true rfl)) (show decode cL_room 5 = .ok (.invokevirtual 7, 3) by decide +kernel) ⟨Nat.le_refl 1, Nat.le_refl 6⟩) va_S.rf (fun q _ h => h) (fun q h => h) (fun q _ h => h) (fun E ce q9 u t H1 locs1 ht hvm _ hBX hz hk hS1 hcell hcv hcl => ?_) (fun r u t H1 locs1 _ _ hf _ _ _ _ => hf.elim)
      obtain ⟨rfl, hP1⟩ := hBX
      rw [ht] at hP1
      refine vx_catch (name := pNSE) hown [] _ [] htab (fun z hz => nomatch hz) rfl (by decide +kernel) (hp _ (pmt6 43 rfl rfl)) (va_Nw.use rfl hT.2.2.2.2.2.1) hcell hcv hcl ?_
      show W p l e _ s m _ below meth c H1 locs1 1 6 _ (F0 m 13 ls [.ref q9])
      refine lv_astore (lv' := (4, .ref q9) :: [(0, .ref (ad 0)), (1, .int (iI p0)), (2, .int (iI p1)), (3, .ref (ad 90))]) hx hb (show decode cL_room 13 = .ok (.astore 4, 2) by decide +kernel) hl (by decide) rfl (fun ls2 hl2 => ?_)
      refine lv_iconst (v := iI 1) hx hb (show decode cL_room 15 = .ok (.iconst 1, 1) by decide +kernel) rfl ?_
      exact W.iret (v := iI 1) hx hb hr (fun t ht hWm => ⟨rfl, by rw [ht]; exact hP1, hS1.F ht⟩) hS1.2.2 (show decode cL_room 16 = .ok (.ireturn, 1) by decide +kernel) hlocks
    · cases h
set_option maxRecDepth 100000 in
set_option maxHeartbeats 4000000 in
theorem L_thing (l : Launch) (hfl : l.stackTraces = false) (G : va_G) (ad : Nat → Nat) (cA : Nat → ClassId) (D : Nat) (M M2 : pM) (p0 p1 v : Int) (h : yL D 5 10 [.inr 2, .inl p0, .inl p1] M = some (some (.inl v), M2)) (sz a1 a2 a3 : Nat) : Met l yL_thing (Cond.codeWith yL_thing cL_thing 5 (some .int) [(0, 10, 13, 13)] :: pws) ({ frames := D + 12, cells := 1, slots := 6, locals := 80 * (D + 3) } : Room) (va_Pc [.ref (ad 0), .int (iI p0), .int (iI p1), .ref (ad 90)] (pPreT G ad cA M sz a1 a2 a3)) (pQ G ad cA (va_A (pW ad cA M) sz) (some (.inl v), M2)) 1 6 (va_A (pW ad cA M) sz) := by
  refine pm_ofWH (cc := cL_thing) (maxL := 5) (ret := some .int) (hh := [(0, 10, 13, 13)]) (by decide +kernel) rfl ?_
  intro p e s m args below meth c s₁ B hml hv
  obtain ⟨rfl, ⟨hsz, hP, hK, hD0, hN, hRO⟩, hT⟩ := hv
  have hx := B.exec
  have hb := B.bytes
  have hr := B.returns
  have hts := atoms_spec (ws := Cond.codeWith yL_thing cL_thing 5 (some .int) [(0, 10, 13, 13)] :: pws) B.pre
  have htab := vx_table (x := yL_thing) B (hts _ List.mem_cons_self)
  have hown : s.vm.findClass RL = some m.cls := findClass_of_methodNamed B.named
  have hlocks := B.notSynchronized
  have hp : ∀ w ∈ pws, w.before (List.toArray [.ref (ad 0), .int (iI p0), .int (iI p1), .ref (ad 90)]) s = true := fun w hw => hts w (List.mem_cons_of_mem _ hw)
  subst hsz
  have hD := hD0.self (sz := s.heap.size)
  have hA : ∀ q : Nat, s.heap.size ≤ q → va_A (pW ad cA M) s.heap.size q := fun q hq => Or.inr hq
  have hl := lv_entry ([.ref (ad 0), .int (iI p0), .int (iI p1), .ref (ad 90)]) (n := 5) (Nat.le_of_ble_eq_true rfl)
  rw [lg_entry_eq]
  generalize (lg_sl ([.ref (ad 0), .int (iI p0), .int (iI p1), .ref (ad 90)]) ++ List.replicate (5 - (lg_sl ([.ref (ad 0), .int (iI p0), .int (iI p1), .ref (ad 90)])).length) Slot.unset).toArray = ls at hl ⊢
  have hl : lv_has ls 5 [(0, .ref (ad 0)), (1, .int (iI p0)), (2, .int (iI p1)), (3, .ref (ad 90))] := hl
  have hW : pWd G ad cA (va_A (pW ad cA M) s.heap.size) s.heap M s.heap [] := ⟨hP, hD, va_S.rf⟩
  refine lv_aload_n (k := 3) hx hb (show decode cL_thing 0 = .ok (.aload_n 3, 1) by decide +kernel) rfl (lv_at hl 3 rfl) ?_
  refine lv_iconst (v := iI 0) hx hb (show decode cL_thing 1 = .ok (.iconst 0, 1) by decide +kernel) rfl ?_
  refine lv_aload_n (k := 0) hx hb (show decode cL_thing 2 = .ok (.aload_n 0, 1) by decide +kernel) rfl (lv_at hl 0 rfl) ?_
  refine lv_iload_n (k := 1) hx hb (show decode cL_thing 3 = .ok (.iload_n 1, 1) by decide +kernel) rfl (lv_at hl 1 rfl) ?_
  refine lv_iload_n (k := 2) hx hb (show decode cL_thing 4 = .ok (.iload_n 2, 1) by decide +kernel) rfl (lv_at hl 2 rfl) ?_
  have hat : (pW ad cA M)[0]? = some (ad 0, .inr (11, (List.range (pL 0)).map fun k => ptv ad (pfv 0 k M))) := pW_at ad cA M (by decide)
  unfold yL at h
  split at h
  · rename_i v1 M1 hF
    cases h
    obtain ⟨rm, c1, c2, c3, c4, hMet⟩ := x_sound (l := l) (G := G) (ad := ad) (cA := cA) (d := D) (R := ({ frames := D + 12, cells := 1, slots := 6, locals := 80 * (D + 3) } : Room)) (by show D + 1 ≤ D + 12; omega) (by show 80 * (D + 1) ≤ 80 * (D + 3); omega) 5 _ _ _ hF
    refine pcall_go hA hW (va_runV (b := ad 0) (C := RX11) (As := [.int (iI p0), .int (iI p1)]) (rest := [.int (iI 0), .ref (ad 90)]) ⟨hx, hb, hml, hown, hp⟩ (hMet s.heap.size) ⟨pCB (n := 2) cal_5 hp (pmt6 119 rfl rfl) c1 c2 c3 c4, hp _ (pmt6 120 rfl rfl), hp _ (pmt6 121 rfl rfl)⟩ ⟨pblind, va_recv (ci := 11) hK hP rfl hat, fun U hU hWm => ⟨rfl, ppre hA hW rfl hRO hK hN U hU hWm⟩⟩ rfl rfl hl.1 rfl (lv_room (Nat.le_of_ble_eq_true rfl)) (show decode cL_thing 5 = .ok (.invokevirtual 15, 3) by decide +kernel) ⟨Nat.zero_le _, Nat.zero_le _⟩) (fun H1 locs1 hW1 => ?_)
    refine W.widen (k := 1) (n := 6) (Nat.zero_le _) (Nat.zero_le _) ?_
    show W p l e _ s m _ below meth c H1 locs1 1 6 _ (F0 m 8 ls [.int (iI v1), .int (iI 0), .ref (ad 90)])
    refine lv_i2l hx hb (show decode cL_thing 8 = .ok (.i2l, 1) by decide +kernel) rfl ?_
    obtain ⟨t0, ht0⟩ := pty_out cA
    refine va_last hx hb hK hW1.1 hW1.2.1 hW1.2.2 90 t0 pW_out ht0 (by unfold vp_in; decide +kernel) (show decode cL_thing 9 = .ok (.lastore, 1) by decide +kernel) (fun H2 locs2 hP2 hD2 hS2 => ?_)
    have hP2 : va_P G pcl ((pW ad cA M1).set 90 (ad 90, .inl (cA 90, 1, .inr (.inl (vp_updL (fun i => Int64.ofInt (M1 90 i)) 0 (iI v1).toInt64))))) H2 := hP2
    rw [pW_outset] at hP2
    refine lv_goto (tgt := 17) hx hb (show decode cL_thing 10 = .ok (.goto 7, 3) by decide +kernel) (by decide +kernel) ?_
    refine lv_iconst (v := iI 0) hx hb (show decode cL_thing 17 = .ok (.iconst 0, 1) by decide +kernel) rfl ?_
    exact W.iret (v := iI 0) hx hb hr (fun t ht hWm => ⟨rfl, by rw [ht]; exact hP2, hS2.F ht⟩) hS2.2.2 (show decode cL_thing 18 = .ok (.ireturn, 1) by decide +kernel) hlocks
  · split at h
    · rename_i M1 hF
      cases h
      have hMet := thr_thing l hfl G ad cA D M M2 [.inr 2, .inl p0, .inl p1] (Nat.le_of_ble_eq_true rfl) hF s.heap.size a1 a2 a3
      refine vx_calli (hr := vx_runV (b := ad 0) (C := RX11) (As := [.int (iI p0), .int (iI p1)]) (rest := [.int (iI 0), .ref (ad 90)]) ⟨hx, hb, hml, hown, hp⟩ hMet ⟨callB_of (n := 2) hp (pGoodIn cal_5) rfl rfl rfl (hp _ (cal_5).2.2.2.1) (hp _ (pmt6 119 rfl rfl)) (cal_5).2.2.2.2 ⟨by show D + 10 + 1 ≤ D + 12; omega, by show 8 + (3 + 11) + 80 * (D + 2) ≤ 80 * (D + 3); omega⟩, hp _ (pmt6 120 rfl rfl), hp _ (pmt6 121 rfl rfl)⟩ ⟨pblindT, va_recv (ci := 11) hK hP rfl hat, fun U hU hWm => ⟨rfl, ppre hA hW rfl hRO hK hN U hU hWm, pTh_at hA hW rfl hT hU hWm⟩⟩ rfl rfl hl.1 rfl (lv_room (Nat.le_of_ble_eq_true rfl)) (show decode cL_thing 5 = .ok (.invokevirtual 15, 3) by decide +kernel) ⟨Nat.le_refl 1, Nat.le_refl 6⟩) va_S.rf (fun q _ h => h) (fun q h => h) (fun q _ h => h) (fun E ce q9 u t H1 locs1 ht hvm _ hBX hz hk hS1 hcell hcv hcl => ?_) (fun r u t H1 locs1 _ _ hf _ _ _ _ => hf.elim)
      obtain ⟨rfl, hP1⟩ := hBX
      rw [ht] at hP1
      refine vx_catch (name := pNSE) hown [] _ [] htab (fun z hz => nomatch hz) rfl (by decide +kernel) (hp _ (pmt6 43 rfl rfl)) (va_Nw.use rfl hT.2.2.2.2.2.1) hcell hcv hcl ?_
      show W p l e _ s m _ below meth c H1 locs1 1 6 _ (F0 m 13 ls [.ref q9])
      refine lv_astore (lv' := (4, .ref q9) :: [(0, .ref (ad 0)), (1, .int (iI p0)), (2, .int (iI p1)), (3, .ref (ad 90))]) hx hb (show decode cL_thing 13 = .ok (.astore 4, 2) by decide +kernel) hl (by decide) rfl (fun ls2 hl2 => ?_)
      refine lv_iconst (v := iI 1) hx hb (show decode cL_thing 15 = .ok (.iconst 1, 1) by decide +kernel) rfl ?_
      exact W.iret (v := iI 1) hx hb hr (fun t ht hWm => ⟨rfl, by rw [ht]; exact hP1, hS1.F ht⟩) hS1.2.2 (show decode cL_thing 16 = .ok (.ireturn, 1) by decide +kernel) hlocks
    · cases h
set_option maxRecDepth 100000 in
set_option maxHeartbeats 4000000 in
theorem L_row (l : Launch) (hfl : l.stackTraces = false) (G : va_G) (ad : Nat → Nat) (cA : Nat → ClassId) (D : Nat) (M M2 : pM) (p0 v : Int) (h : yL D 46 7 [.inr 2, .inl p0] M = some (some (.inl v), M2)) (sz a1 a2 a3 : Nat) : Met l yL_row (Cond.codeWith yL_row cL_row 4 (some .int) [(0, 9, 12, 13)] :: pws) ({ frames := D + 12, cells := 1, slots := 6, locals := 80 * (D + 3) } : Room) (va_Pc [.ref (ad 0), .int (iI p0), .ref (ad 90)] (pPreT G ad cA M sz a1 a2 a3)) (pQ G ad cA (va_A (pW ad cA M) sz) (some (.inl v), M2)) 1 6 (va_A (pW ad cA M) sz) := by
  refine pm_ofWH (cc := cL_row) (maxL := 4) (ret := some .int) (hh := [(0, 9, 12, 13)]) (by decide +kernel) rfl ?_
  intro p e s m args below meth c s₁ B hml hv
  obtain ⟨rfl, ⟨hsz, hP, hK, hD0, hN, hRO⟩, hT⟩ := hv
  have hx := B.exec
  have hb := B.bytes
  have hr := B.returns
  have hts := atoms_spec (ws := Cond.codeWith yL_row cL_row 4 (some .int) [(0, 9, 12, 13)] :: pws) B.pre
  have htab := vx_table (x := yL_row) B (hts _ List.mem_cons_self)
  have hown : s.vm.findClass RL = some m.cls := findClass_of_methodNamed B.named
  have hlocks := B.notSynchronized
  have hp : ∀ w ∈ pws, w.before (List.toArray [.ref (ad 0), .int (iI p0), .ref (ad 90)]) s = true := fun w hw => hts w (List.mem_cons_of_mem _ hw)
  subst hsz
  have hD := hD0.self (sz := s.heap.size)
  have hA : ∀ q : Nat, s.heap.size ≤ q → va_A (pW ad cA M) s.heap.size q := fun q hq => Or.inr hq
  have hl := lv_entry ([.ref (ad 0), .int (iI p0), .ref (ad 90)]) (n := 4) (Nat.le_of_ble_eq_true rfl)
  rw [lg_entry_eq]
  generalize (lg_sl ([.ref (ad 0), .int (iI p0), .ref (ad 90)]) ++ List.replicate (4 - (lg_sl ([.ref (ad 0), .int (iI p0), .ref (ad 90)])).length) Slot.unset).toArray = ls at hl ⊢
  have hl : lv_has ls 4 [(0, .ref (ad 0)), (1, .int (iI p0)), (2, .ref (ad 90))] := hl
  have hW : pWd G ad cA (va_A (pW ad cA M) s.heap.size) s.heap M s.heap [] := ⟨hP, hD, va_S.rf⟩
  refine lv_aload_n (k := 2) hx hb (show decode cL_row 0 = .ok (.aload_n 2, 1) by decide +kernel) rfl (lv_at hl 2 rfl) ?_
  refine lv_iconst (v := iI 0) hx hb (show decode cL_row 1 = .ok (.iconst 0, 1) by decide +kernel) rfl ?_
  refine lv_aload_n (k := 0) hx hb (show decode cL_row 2 = .ok (.aload_n 0, 1) by decide +kernel) rfl (lv_at hl 0 rfl) ?_
  refine lv_iload_n (k := 1) hx hb (show decode cL_row 3 = .ok (.iload_n 1, 1) by decide +kernel) rfl (lv_at hl 1 rfl) ?_
  have hat : (pW ad cA M)[0]? = some (ad 0, .inr (11, (List.range (pL 0)).map fun k => ptv ad (pfv 0 k M))) := pW_at ad cA M (by decide)
  unfold yL at h
  split at h
  · rename_i v1 M1 hF
    cases h
    obtain ⟨rm, c1, c2, c3, c4, hMet⟩ := x_sound (l := l) (G := G) (ad := ad) (cA := cA) (d := D) (R := ({ frames := D + 12, cells := 1, slots := 6, locals := 80 * (D + 3) } : Room)) (by show D + 1 ≤ D + 12; omega) (by show 80 * (D + 1) ≤ 80 * (D + 3); omega) 46 _ _ _ hF
    refine pcall_go hA hW (va_runV (b := ad 0) (C := RX11) (As := [.int (iI p0)]) (rest := [.int (iI 0), .ref (ad 90)]) ⟨hx, hb, hml, hown, hp⟩ (hMet s.heap.size) ⟨pCB (n := 1) cal_46 hp (pmt6 128 rfl rfl) c1 c2 c3 c4, hp _ (pmt6 129 rfl rfl), hp _ (pmt6 130 rfl rfl)⟩ ⟨pblind, va_recv (ci := 11) hK hP rfl hat, fun U hU hWm => ⟨rfl, ppre hA hW rfl hRO hK hN U hU hWm⟩⟩ rfl rfl hl.1 rfl (lv_room (Nat.le_of_ble_eq_true rfl)) (show decode cL_row 4 = .ok (.invokevirtual 18, 3) by decide +kernel) ⟨Nat.zero_le _, Nat.zero_le _⟩) (fun H1 locs1 hW1 => ?_)
    refine W.widen (k := 1) (n := 6) (Nat.zero_le _) (Nat.zero_le _) ?_
    show W p l e _ s m _ below meth c H1 locs1 1 6 _ (F0 m 7 ls [.int (iI v1), .int (iI 0), .ref (ad 90)])
    refine lv_i2l hx hb (show decode cL_row 7 = .ok (.i2l, 1) by decide +kernel) rfl ?_
    obtain ⟨t0, ht0⟩ := pty_out cA
    refine va_last hx hb hK hW1.1 hW1.2.1 hW1.2.2 90 t0 pW_out ht0 (by unfold vp_in; decide +kernel) (show decode cL_row 8 = .ok (.lastore, 1) by decide +kernel) (fun H2 locs2 hP2 hD2 hS2 => ?_)
    have hP2 : va_P G pcl ((pW ad cA M1).set 90 (ad 90, .inl (cA 90, 1, .inr (.inl (vp_updL (fun i => Int64.ofInt (M1 90 i)) 0 (iI v1).toInt64))))) H2 := hP2
    rw [pW_outset] at hP2
    refine lv_goto (tgt := 15) hx hb (show decode cL_row 9 = .ok (.goto 6, 3) by decide +kernel) (by decide +kernel) ?_
    refine lv_iconst (v := iI 0) hx hb (show decode cL_row 15 = .ok (.iconst 0, 1) by decide +kernel) rfl ?_
    exact W.iret (v := iI 0) hx hb hr (fun t ht hWm => ⟨rfl, by rw [ht]; exact hP2, hS2.F ht⟩) hS2.2.2 (show decode cL_row 16 = .ok (.ireturn, 1) by decide +kernel) hlocks
  · split at h
    · rename_i M1 hF
      cases h
      have hMet := thr_row l hfl G ad cA D M M2 [.inr 2, .inl p0] (Nat.le_of_ble_eq_true rfl) hF s.heap.size a1 a2 a3
      refine vx_calli (hr := vx_runV (b := ad 0) (C := RX11) (As := [.int (iI p0)]) (rest := [.int (iI 0), .ref (ad 90)]) ⟨hx, hb, hml, hown, hp⟩ hMet ⟨callB_of (n := 1) hp (pGoodIn cal_46) rfl rfl rfl (hp _ (cal_46).2.2.2.1) (hp _ (pmt6 128 rfl rfl)) (cal_46).2.2.2.2 ⟨by show D + 10 + 1 ≤ D + 12; omega, by show 8 + (2 + 11) + 80 * (D + 2) ≤ 80 * (D + 3); omega⟩, hp _ (pmt6 129 rfl rfl), hp _ (pmt6 130 rfl rfl)⟩ ⟨pblindT, va_recv (ci := 11) hK hP rfl hat, fun U hU hWm => ⟨rfl, ppre hA hW rfl hRO hK hN U hU hWm, pTh_at hA hW rfl hT hU hWm⟩⟩ rfl rfl hl.1 rfl (lv_room (Nat.le_of_ble_eq_true rfl)) (show decode cL_row 4 = .ok (.invokevirtual 18, 3) by decide +kernel) ⟨Nat.le_refl 1, Nat.le_refl 6⟩) va_S.rf (fun q _ h => h) (fun q h => h) (fun q _ h => h) (fun E ce q9 u t H1 locs1 ht hvm _ hBX hz hk hS1 hcell hcv hcl => ?_) (fun r u t H1 locs1 _ _ hf _ _ _ _ => hf.elim)
      obtain ⟨rfl, hP1⟩ := hBX
      rw [ht] at hP1
      refine vx_catch (name := pNSE) hown [] _ [] htab (fun z hz => nomatch hz) rfl (by decide +kernel) (hp _ (pmt6 43 rfl rfl)) (va_Nw.use rfl hT.2.2.2.2.2.1) hcell hcv hcl ?_
      show W p l e _ s m _ below meth c H1 locs1 1 6 _ (F0 m 12 ls [.ref q9])
      refine lv_astore_n (k := 3) (lv' := (3, .ref q9) :: [(0, .ref (ad 0)), (1, .int (iI p0)), (2, .ref (ad 90))]) hx hb (show decode cL_row 12 = .ok (.astore_n 3, 1) by decide +kernel) rfl hl (by decide) rfl (fun ls2 hl2 => ?_)
      refine lv_iconst (v := iI 1) hx hb (show decode cL_row 13 = .ok (.iconst 1, 1) by decide +kernel) rfl ?_
      exact W.iret (v := iI 1) hx hb hr (fun t ht hWm => ⟨rfl, by rw [ht]; exact hP1, hS1.F ht⟩) hS1.2.2 (show decode cL_row 14 = .ok (.ireturn, 1) by decide +kernel) hlocks
    · cases h
end
section
/-! the equations of the law (by program) -/
def lstT (i : Nat) : Bool := Nat.beq i 25 || Nat.beq i 42 || Nat.beq i 59 || Nat.beq i 66 || Nat.beq i 73 || Nat.beq i 101 || Nat.beq i 129 || Nat.beq i 146 || Nat.beq i 173 || Nat.beq i 210 || Nat.beq i 227 || Nat.beq i 274 || Nat.beq i 301 || Nat.beq i 308 || Nat.beq i 315 || Nat.beq i 322 || Nat.beq i 349 || Nat.beq i 356 || Nat.beq i 363 || Nat.beq i 380 || Nat.beq i 397 || Nat.beq i 404 || Nat.beq i 411 || Nat.beq i 418 || Nat.beq i 425 || Nat.beq i 432 || Nat.beq i 459 || Nat.beq i 466 || Nat.beq i 493 || Nat.beq i 510 || Nat.beq i 537 || Nat.beq i 554 || Nat.beq i 581 || Nat.beq i 588 || Nat.beq i 595 || Nat.beq i 622 || Nat.beq i 649 || Nat.beq i 656 || Nat.beq i 673 || Nat.beq i 680 || Nat.beq i 687 || Nat.beq i 694 || Nat.beq i 701 || Nat.beq i 708 || Nat.beq i 725 || Nat.beq i 742 || Nat.beq i 759 || Nat.beq i 777
def lstH (i : Nat) : Bool := Nat.beq i 13
def lstC (i : Nat) : Bool := Nat.beq i 13 || Nat.beq i 85 || Nat.beq i 113 || Nat.beq i 766
set_option maxRecDepth 100000 in
theorem LT_top (D : Nat) (X : pX) (L : Nat) (xs : Nat → Int32) (z : Int) (u5 : pV) (u6 : pV) (M : pM) : prun (lawc L xs) (lstT) X (xF D) 90 13 [.inr 95, .inr 2, .inr 62, .inr 92, .inl z, u5, u6] [] M =
 if lt32 ((Int.ofNat L) - 5) z then
 some (some (.inl 1), M)
 else
 (if 0 ≤ z ∧ z < Int.ofNat L then
 if eq32 (jand ((xs z.toNat).toInt) 63) 0 then
 X 25 [.inr 95, .inr 2, .inr 62, .inr 92, .inl z, u5, u6] [] M
 else
 if eq32 (jand ((xs z.toNat).toInt) 63) 1 then
 X 42 [.inr 95, .inr 2, .inr 62, .inr 92, .inl z, u5, u6] [] M
 else
 if eq32 (jand ((xs z.toNat).toInt) 63) 2 then
 X 59 [.inr 95, .inr 2, .inr 62, .inr 92, .inl z, u5, u6] [] M
 else
 if eq32 (jand ((xs z.toNat).toInt) 63) 3 then
 X 66 [.inr 95, .inr 2, .inr 62, .inr 92, .inl z, u5, u6] [] M
 else
 if eq32 (jand ((xs z.toNat).toInt) 63) 4 then
 X 73 [.inr 95, .inr 2, .inr 62, .inr 92, .inl z, u5, u6] [] M
 else
 if eq32 (jand ((xs z.toNat).toInt) 63) 5 then
 X 101 [.inr 95, .inr 2, .inr 62, .inr 92, .inl z, u5, u6] [] M
 else
 if eq32 (jand ((xs z.toNat).toInt) 63) 6 then
 X 129 [.inr 95, .inr 2, .inr 62, .inr 92, .inl z, u5, u6] [] M
 else
 if eq32 (jand ((xs z.toNat).toInt) 63) 7 then
 X 146 [.inr 95, .inr 2, .inr 62, .inr 92, .inl z, u5, u6] [] M
 else
 if eq32 (jand ((xs z.toNat).toInt) 63) 8 then
 X 173 [.inr 95, .inr 2, .inr 62, .inr 92, .inl z, u5, u6] [] M
 else
 if eq32 (jand ((xs z.toNat).toInt) 63) 9 then
 X 210 [.inr 95, .inr 2, .inr 62, .inr 92, .inl z, u5, u6] [] M
 else
 if eq32 (jand ((xs z.toNat).toInt) 63) 10 then
 X 227 [.inr 95, .inr 2, .inr 62, .inr 92, .inl z, u5, u6] [] M
 else
 if eq32 (jand ((xs z.toNat).toInt) 63) 11 then
 X 274 [.inr 95, .inr 2, .inr 62, .inr 92, .inl z, u5, u6] [] M
 else
 if eq32 (jand ((xs z.toNat).toInt) 63) 12 then
 X 301 [.inr 95, .inr 2, .inr 62, .inr 92, .inl z, u5, u6] [] M
 else
 if eq32 (jand ((xs z.toNat).toInt) 63) 13 then
 X 308 [.inr 95, .inr 2, .inr 62, .inr 92, .inl z, u5, u6] [] M
 else
 if eq32 (jand ((xs z.toNat).toInt) 63) 14 then
 X 315 [.inr 95, .inr 2, .inr 62, .inr 92, .inl z, u5, u6] [] M
 else
 if eq32 (jand ((xs z.toNat).toInt) 63) 15 then
 X 322 [.inr 95, .inr 2, .inr 62, .inr 92, .inl z, u5, u6] [] M
 else
 if eq32 (jand ((xs z.toNat).toInt) 63) 16 then
 X 349 [.inr 95, .inr 2, .inr 62, .inr 92, .inl z, u5, u6] [] M
 else
 if eq32 (jand ((xs z.toNat).toInt) 63) 17 then
 X 356 [.inr 95, .inr 2, .inr 62, .inr 92, .inl z, u5, u6] [] M
 else
 if eq32 (jand ((xs z.toNat).toInt) 63) 18 then
 X 363 [.inr 95, .inr 2, .inr 62, .inr 92, .inl z, u5, u6] [] M
 else
 if eq32 (jand ((xs z.toNat).toInt) 63) 19 then
 X 380 [.inr 95, .inr 2, .inr 62, .inr 92, .inl z, u5, u6] [] M
 else
 if eq32 (jand ((xs z.toNat).toInt) 63) 20 then
 X 397 [.inr 95, .inr 2, .inr 62, .inr 92, .inl z, u5, u6] [] M
 else
 if eq32 (jand ((xs z.toNat).toInt) 63) 21 then
 X 404 [.inr 95, .inr 2, .inr 62, .inr 92, .inl z, u5, u6] [] M
 else
 if eq32 (jand ((xs z.toNat).toInt) 63) 22 then
 X 411 [.inr 95, .inr 2, .inr 62, .inr 92, .inl z, u5, u6] [] M
 else
 if eq32 (jand ((xs z.toNat).toInt) 63) 23 then
 X 418 [.inr 95, .inr 2, .inr 62, .inr 92, .inl z, u5, u6] [] M
 else
 if eq32 (jand ((xs z.toNat).toInt) 63) 24 then
 X 425 [.inr 95, .inr 2, .inr 62, .inr 92, .inl z, u5, u6] [] M
 else
 if eq32 (jand ((xs z.toNat).toInt) 63) 25 then
 X 432 [.inr 95, .inr 2, .inr 62, .inr 92, .inl z, u5, u6] [] M
 else
 if eq32 (jand ((xs z.toNat).toInt) 63) 26 then
 X 459 [.inr 95, .inr 2, .inr 62, .inr 92, .inl z, u5, u6] [] M
 else
 if eq32 (jand ((xs z.toNat).toInt) 63) 27 then
 X 466 [.inr 95, .inr 2, .inr 62, .inr 92, .inl z, u5, u6] [] M
 else
 if eq32 (jand ((xs z.toNat).toInt) 63) 28 then
 X 493 [.inr 95, .inr 2, .inr 62, .inr 92, .inl z, u5, u6] [] M
 else
 if eq32 (jand ((xs z.toNat).toInt) 63) 29 then
 X 510 [.inr 95, .inr 2, .inr 62, .inr 92, .inl z, u5, u6] [] M
 else
 if eq32 (jand ((xs z.toNat).toInt) 63) 30 then
 X 537 [.inr 95, .inr 2, .inr 62, .inr 92, .inl z, u5, u6] [] M
 else
 if eq32 (jand ((xs z.toNat).toInt) 63) 31 then
 X 554 [.inr 95, .inr 2, .inr 62, .inr 92, .inl z, u5, u6] [] M
 else
 if eq32 (jand ((xs z.toNat).toInt) 63) 32 then
 X 581 [.inr 95, .inr 2, .inr 62, .inr 92, .inl z, u5, u6] [] M
 else
 if eq32 (jand ((xs z.toNat).toInt) 63) 33 then
 X 588 [.inr 95, .inr 2, .inr 62, .inr 92, .inl z, u5, u6] [] M
 else
 if eq32 (jand ((xs z.toNat).toInt) 63) 34 then
 X 595 [.inr 95, .inr 2, .inr 62, .inr 92, .inl z, u5, u6] [] M
 else
 if eq32 (jand ((xs z.toNat).toInt) 63) 35 then
 X 622 [.inr 95, .inr 2, .inr 62, .inr 92, .inl z, u5, u6] [] M
 else
 if eq32 (jand ((xs z.toNat).toInt) 63) 36 then
 X 649 [.inr 95, .inr 2, .inr 62, .inr 92, .inl z, u5, u6] [] M
 else
 if eq32 (jand ((xs z.toNat).toInt) 63) 37 then
 X 656 [.inr 95, .inr 2, .inr 62, .inr 92, .inl z, u5, u6] [] M
 else
 if eq32 (jand ((xs z.toNat).toInt) 63) 38 then
 X 673 [.inr 95, .inr 2, .inr 62, .inr 92, .inl z, u5, u6] [] M
 else
 if eq32 (jand ((xs z.toNat).toInt) 63) 39 then
 X 680 [.inr 95, .inr 2, .inr 62, .inr 92, .inl z, u5, u6] [] M
 else
 if eq32 (jand ((xs z.toNat).toInt) 63) 40 then
 X 687 [.inr 95, .inr 2, .inr 62, .inr 92, .inl z, u5, u6] [] M
 else
 if eq32 (jand ((xs z.toNat).toInt) 63) 41 then
 X 694 [.inr 95, .inr 2, .inr 62, .inr 92, .inl z, u5, u6] [] M
 else
 if eq32 (jand ((xs z.toNat).toInt) 63) 42 then
 X 701 [.inr 95, .inr 2, .inr 62, .inr 92, .inl z, u5, u6] [] M
 else
 if eq32 (jand ((xs z.toNat).toInt) 63) 43 then
 X 708 [.inr 95, .inr 2, .inr 62, .inr 92, .inl z, u5, u6] [] M
 else
 if eq32 (jand ((xs z.toNat).toInt) 63) 44 then
 X 725 [.inr 95, .inr 2, .inr 62, .inr 92, .inl z, u5, u6] [] M
 else
 if eq32 (jand ((xs z.toNat).toInt) 63) 45 then
 X 742 [.inr 95, .inr 2, .inr 62, .inr 92, .inl z, u5, u6] [] M
 else
 if eq32 (jand ((xs z.toNat).toInt) 63) 46 then
 X 759 [.inr 95, .inr 2, .inr 62, .inr 92, .inl z, u5, u6] [] M
 else
 X 777 [.inr 95, .inr 2, .inr 62, .inr 92, .inl z, u5, u6] [] M
 else none) := rfl
set_option maxRecDepth 100000 in
theorem LT_0 (D : Nat) (X : pX) (L : Nat) (xs : Nat → Int32) (z : Int) (u5 : pV) (u6 : pV) (M : pM) : prun (lawc L xs) (lstC) X (xF D) 90 25 [.inr 95, .inr 2, .inr 62, .inr 92, .inl z, u5, u6] [] M =
 if 0 ≤ z + 1 ∧ z + 1 < Int.ofNat L then
 pbI (xF D 0 [.inr 2, .inl ((xs (z + 1).toNat).toInt)] M) fun v2 M1 =>
 if 0 ≤ z + 1 ∧ z + 1 < Int.ofNat L then
 pbI (xF D 175 [.inr 62, .inl ((xs (z + 1).toNat).toInt)] M1) fun v4 M3 =>
 X 13 [.inr 95, .inr 2, .inr 62, .inr 92, .inl (z + 5), u5, u6] [] M3
 else none
 else none := rfl
set_option maxRecDepth 100000 in
theorem LT_1 (D : Nat) (X : pX) (L : Nat) (xs : Nat → Int32) (z : Int) (u5 : pV) (u6 : pV) (M : pM) : prun (lawc L xs) (lstC) X (xF D) 90 42 [.inr 95, .inr 2, .inr 62, .inr 92, .inl z, u5, u6] [] M =
 if 0 ≤ z + 1 ∧ z + 1 < Int.ofNat L then
 pbI (xF D 1 [.inr 2, .inl ((xs (z + 1).toNat).toInt)] M) fun v2 M1 =>
 if 0 ≤ z + 1 ∧ z + 1 < Int.ofNat L then
 pbI (xF D 176 [.inr 62, .inl ((xs (z + 1).toNat).toInt)] M1) fun v4 M3 =>
 X 13 [.inr 95, .inr 2, .inr 62, .inr 92, .inl (z + 5), u5, u6] [] M3
 else none
 else none := rfl
set_option maxRecDepth 100000 in
theorem LT_2 (D : Nat) (X : pX) (L : Nat) (xs : Nat → Int32) (z : Int) (u5 : pV) (u6 : pV) (M : pM) : prun (lawc L xs) (lstC) X (xF D) 90 59 [.inr 95, .inr 2, .inr 62, .inr 92, .inl z, u5, u6] [] M =
 pbI (xF D 2 [.inr 2] M) fun v2 M1 =>
 pbI (xF D 184 [.inr 62] M1) fun v4 M3 =>
 X 13 [.inr 95, .inr 2, .inr 62, .inr 92, .inl (z + 5), u5, u6] [] M3 := rfl
set_option maxRecDepth 100000 in
theorem LT_3 (D : Nat) (X : pX) (L : Nat) (xs : Nat → Int32) (z : Int) (u5 : pV) (u6 : pV) (M : pM) : prun (lawc L xs) (lstC) X (xF D) 90 66 [.inr 95, .inr 2, .inr 62, .inr 92, .inl z, u5, u6] [] M =
 pbI (xF D 3 [.inr 2] M) fun v2 M1 =>
 pbI (xF D 193 [.inr 62] M1) fun v4 M3 =>
 X 13 [.inr 95, .inr 2, .inr 62, .inr 92, .inl (z + 5), u5, u6] [] M3 := rfl
set_option maxRecDepth 100000 in
theorem LT_4 (D : Nat) (X : pX) (L : Nat) (xs : Nat → Int32) (z : Int) (u5 : pV) (u6 : pV) (M : pM) : prun (lawc L xs) (lstC) X (xF D) 90 73 [.inr 95, .inr 2, .inr 62, .inr 92, .inl z, u5, u6] [] M =
 if 0 ≤ z + 1 ∧ z + 1 < Int.ofNat L then
 if 0 ≤ z + 2 ∧ z + 2 < Int.ofNat L then
 X 85 [.inr 95, .inr 2, .inr 62, .inr 92, .inl z, u5, u6] [.inr 92, .inl ((xs (z + 2).toNat).toInt), .inl ((xs (z + 1).toNat).toInt), .inr 2] M
 else none
 else none := rfl
set_option maxRecDepth 100000 in
theorem LT_5 (D : Nat) (X : pX) (L : Nat) (xs : Nat → Int32) (z : Int) (u5 : pV) (u6 : pV) (M : pM) : prun (lawc L xs) (lstC) X (xF D) 90 101 [.inr 95, .inr 2, .inr 62, .inr 92, .inl z, u5, u6] [] M =
 if 0 ≤ z + 1 ∧ z + 1 < Int.ofNat L then
 if 0 ≤ z + 2 ∧ z + 2 < Int.ofNat L then
 X 113 [.inr 95, .inr 2, .inr 62, .inr 92, .inl z, u5, u6] [.inr 92, .inl ((xs (z + 2).toNat).toInt), .inl ((xs (z + 1).toNat).toInt), .inr 2] M
 else none
 else none := rfl
set_option maxRecDepth 100000 in
theorem LT_6 (D : Nat) (X : pX) (L : Nat) (xs : Nat → Int32) (z : Int) (u5 : pV) (u6 : pV) (M : pM) : prun (lawc L xs) (lstC) X (xF D) 90 129 [.inr 95, .inr 2, .inr 62, .inr 92, .inl z, u5, u6] [] M =
 if 0 ≤ z + 1 ∧ z + 1 < Int.ofNat L then
 pbI (xF D 6 [.inr 2, .inl ((xs (z + 1).toNat).toInt)] M) fun v2 M1 =>
 if 0 ≤ z + 1 ∧ z + 1 < Int.ofNat L then
 pbI (xF D 202 [.inr 62, .inl ((xs (z + 1).toNat).toInt)] M1) fun v4 M3 =>
 X 13 [.inr 95, .inr 2, .inr 62, .inr 92, .inl (z + 5), u5, u6] [] M3
 else none
 else none := rfl
set_option maxRecDepth 100000 in
theorem LT_7 (D : Nat) (X : pX) (L : Nat) (xs : Nat → Int32) (z : Int) (u5 : pV) (u6 : pV) (M : pM) : prun (lawc L xs) (lstC) X (xF D) 90 146 [.inr 95, .inr 2, .inr 62, .inr 92, .inl z, u5, u6] [] M =
 if 0 ≤ z + 1 ∧ z + 1 < Int.ofNat L then
 if 0 ≤ z + 2 ∧ z + 2 < Int.ofNat L then
 pbI (xF D 7 [.inr 2, .inl ((xs (z + 1).toNat).toInt), .inl ((xs (z + 2).toNat).toInt)] M) fun v2 M1 =>
 if 0 ≤ z + 1 ∧ z + 1 < Int.ofNat L then
 if 0 ≤ z + 2 ∧ z + 2 < Int.ofNat L then
 pbI (xF D 203 [.inr 62, .inl ((xs (z + 1).toNat).toInt), .inl ((xs (z + 2).toNat).toInt)] M1) fun v4 M3 =>
 X 13 [.inr 95, .inr 2, .inr 62, .inr 92, .inl (z + 5), u5, u6] [] M3
 else none
 else none
 else none
 else none := rfl
set_option maxRecDepth 100000 in
theorem LT_8 (D : Nat) (X : pX) (L : Nat) (xs : Nat → Int32) (z : Int) (u5 : pV) (u6 : pV) (M : pM) : prun (lawc L xs) (lstC) X (xF D) 90 173 [.inr 95, .inr 2, .inr 62, .inr 92, .inl z, u5, u6] [] M =
 if 0 ≤ z + 1 ∧ z + 1 < Int.ofNat L then
 if 0 ≤ z + 2 ∧ z + 2 < Int.ofNat L then
 if 0 ≤ z + 3 ∧ z + 3 < Int.ofNat L then
 pbI (xF D 8 [.inr 2, .inl ((xs (z + 1).toNat).toInt), .inl ((xs (z + 2).toNat).toInt), .inl ((xs (z + 3).toNat).toInt)] M) fun v2 M1 =>
 if 0 ≤ z + 1 ∧ z + 1 < Int.ofNat L then
 if 0 ≤ z + 2 ∧ z + 2 < Int.ofNat L then
 if 0 ≤ z + 3 ∧ z + 3 < Int.ofNat L then
 pbI (xF D 204 [.inr 62, .inl ((xs (z + 1).toNat).toInt), .inl ((xs (z + 2).toNat).toInt), .inl ((xs (z + 3).toNat).toInt)] M1) fun v4 M3 =>
 X 13 [.inr 95, .inr 2, .inr 62, .inr 92, .inl (z + 5), u5, u6] [] M3
 else none
 else none
 else none
 else none
 else none
 else none := rfl
set_option maxRecDepth 100000 in
theorem LT_9 (D : Nat) (X : pX) (L : Nat) (xs : Nat → Int32) (z : Int) (u5 : pV) (u6 : pV) (M : pM) : prun (lawc L xs) (lstC) X (xF D) 90 210 [.inr 95, .inr 2, .inr 62, .inr 92, .inl z, u5, u6] [] M =
 if 0 ≤ z + 1 ∧ z + 1 < Int.ofNat L then
 pbI (xF D 9 [.inr 2, .inl ((xs (z + 1).toNat).toInt)] M) fun v2 M1 =>
 if 0 ≤ z + 1 ∧ z + 1 < Int.ofNat L then
 pbI (xF D 205 [.inr 62, .inl ((xs (z + 1).toNat).toInt)] M1) fun v4 M3 =>
 X 13 [.inr 95, .inr 2, .inr 62, .inr 92, .inl (z + 5), u5, u6] [] M3
 else none
 else none := rfl
set_option maxRecDepth 100000 in
theorem LT_10 (D : Nat) (X : pX) (L : Nat) (xs : Nat → Int32) (z : Int) (u5 : pV) (u6 : pV) (M : pM) : prun (lawc L xs) (lstC) X (xF D) 90 227 [.inr 95, .inr 2, .inr 62, .inr 92, .inl z, u5, u6] [] M =
 if 0 ≤ z + 1 ∧ z + 1 < Int.ofNat L then
 if 0 ≤ z + 2 ∧ z + 2 < Int.ofNat L then
 if 0 ≤ z + 3 ∧ z + 3 < Int.ofNat L then
 if 0 ≤ z + 4 ∧ z + 4 < Int.ofNat L then
 pbI (xF D 10 [.inr 2, .inl ((xs (z + 1).toNat).toInt), .inl ((xs (z + 2).toNat).toInt), .inl ((xs (z + 3).toNat).toInt), .inl ((xs (z + 4).toNat).toInt)] M) fun v2 M1 =>
 if 0 ≤ z + 1 ∧ z + 1 < Int.ofNat L then
 if 0 ≤ z + 2 ∧ z + 2 < Int.ofNat L then
 if 0 ≤ z + 3 ∧ z + 3 < Int.ofNat L then
 if 0 ≤ z + 4 ∧ z + 4 < Int.ofNat L then
 pbI (xF D 206 [.inr 62, .inl ((xs (z + 1).toNat).toInt), .inl ((xs (z + 2).toNat).toInt), .inl ((xs (z + 3).toNat).toInt), .inl ((xs (z + 4).toNat).toInt)] M1) fun v4 M3 =>
 X 13 [.inr 95, .inr 2, .inr 62, .inr 92, .inl (z + 5), u5, u6] [] M3
 else none
 else none
 else none
 else none
 else none
 else none
 else none
 else none := rfl
set_option maxRecDepth 100000 in
theorem LT_11 (D : Nat) (X : pX) (L : Nat) (xs : Nat → Int32) (z : Int) (u5 : pV) (u6 : pV) (M : pM) : prun (lawc L xs) (lstC) X (xF D) 90 274 [.inr 95, .inr 2, .inr 62, .inr 92, .inl z, u5, u6] [] M =
 if 0 ≤ z + 1 ∧ z + 1 < Int.ofNat L then
 if 0 ≤ z + 2 ∧ z + 2 < Int.ofNat L then
 pbI (xF D 11 [.inr 2, .inl ((xs (z + 1).toNat).toInt), .inl ((xs (z + 2).toNat).toInt)] M) fun v2 M1 =>
 if 0 ≤ z + 1 ∧ z + 1 < Int.ofNat L then
 if 0 ≤ z + 2 ∧ z + 2 < Int.ofNat L then
 pbI (xF D 216 [.inr 62, .inl ((xs (z + 1).toNat).toInt), .inl ((xs (z + 2).toNat).toInt)] M1) fun v4 M3 =>
 X 13 [.inr 95, .inr 2, .inr 62, .inr 92, .inl (z + 5), u5, u6] [] M3
 else none
 else none
 else none
 else none := rfl
set_option maxRecDepth 100000 in
theorem LT_12 (D : Nat) (X : pX) (L : Nat) (xs : Nat → Int32) (z : Int) (u5 : pV) (u6 : pV) (M : pM) : prun (lawc L xs) (lstC) X (xF D) 90 301 [.inr 95, .inr 2, .inr 62, .inr 92, .inl z, u5, u6] [] M =
 pbI (xF D 12 [.inr 2] M) fun v2 M1 =>
 pbI (xF D 218 [.inr 62] M1) fun v4 M3 =>
 X 13 [.inr 95, .inr 2, .inr 62, .inr 92, .inl (z + 5), u5, u6] [] M3 := rfl
set_option maxRecDepth 100000 in
theorem LT_13 (D : Nat) (X : pX) (L : Nat) (xs : Nat → Int32) (z : Int) (u5 : pV) (u6 : pV) (M : pM) : prun (lawc L xs) (lstC) X (xF D) 90 308 [.inr 95, .inr 2, .inr 62, .inr 92, .inl z, u5, u6] [] M =
 pbI (xF D 13 [.inr 2] M) fun v2 M1 =>
 pbI (xF D 219 [.inr 62] M1) fun v4 M3 =>
 X 13 [.inr 95, .inr 2, .inr 62, .inr 92, .inl (z + 5), u5, u6] [] M3 := rfl
set_option maxRecDepth 100000 in
theorem LT_14 (D : Nat) (X : pX) (L : Nat) (xs : Nat → Int32) (z : Int) (u5 : pV) (u6 : pV) (M : pM) : prun (lawc L xs) (lstC) X (xF D) 90 315 [.inr 95, .inr 2, .inr 62, .inr 92, .inl z, u5, u6] [] M =
 pbI (xF D 14 [.inr 2] M) fun v2 M1 =>
 pbI (xF D 220 [.inr 62] M1) fun v4 M3 =>
 X 13 [.inr 95, .inr 2, .inr 62, .inr 92, .inl (z + 5), u5, u6] [] M3 := rfl
set_option maxRecDepth 100000 in
theorem LT_15 (D : Nat) (X : pX) (L : Nat) (xs : Nat → Int32) (z : Int) (u5 : pV) (u6 : pV) (M : pM) : prun (lawc L xs) (lstC) X (xF D) 90 322 [.inr 95, .inr 2, .inr 62, .inr 92, .inl z, u5, u6] [] M =
 if 0 ≤ z + 1 ∧ z + 1 < Int.ofNat L then
 if 0 ≤ z + 2 ∧ z + 2 < Int.ofNat L then
 pbI (xF D 15 [.inr 2, .inl ((xs (z + 1).toNat).toInt), .inl ((xs (z + 2).toNat).toInt)] M) fun v2 M1 =>
 if 0 ≤ z + 1 ∧ z + 1 < Int.ofNat L then
 if 0 ≤ z + 2 ∧ z + 2 < Int.ofNat L then
 pbI (xF D 221 [.inr 62, .inl ((xs (z + 1).toNat).toInt), .inl ((xs (z + 2).toNat).toInt)] M1) fun v4 M3 =>
 X 13 [.inr 95, .inr 2, .inr 62, .inr 92, .inl (z + 5), u5, u6] [] M3
 else none
 else none
 else none
 else none := rfl
set_option maxRecDepth 100000 in
theorem LT_16 (D : Nat) (X : pX) (L : Nat) (xs : Nat → Int32) (z : Int) (u5 : pV) (u6 : pV) (M : pM) : prun (lawc L xs) (lstC) X (xF D) 90 349 [.inr 95, .inr 2, .inr 62, .inr 92, .inl z, u5, u6] [] M =
 pbI (xF D 16 [.inr 2] M) fun v2 M1 =>
 pbI (xF D 222 [.inr 62] M1) fun v4 M3 =>
 X 13 [.inr 95, .inr 2, .inr 62, .inr 92, .inl (z + 5), u5, u6] [] M3 := rfl
set_option maxRecDepth 100000 in
theorem LT_17 (D : Nat) (X : pX) (L : Nat) (xs : Nat → Int32) (z : Int) (u5 : pV) (u6 : pV) (M : pM) : prun (lawc L xs) (lstC) X (xF D) 90 356 [.inr 95, .inr 2, .inr 62, .inr 92, .inl z, u5, u6] [] M =
 pbI (xF D 17 [.inr 2] M) fun v2 M1 =>
 pbI (xF D 224 [.inr 62] M1) fun v4 M3 =>
 X 13 [.inr 95, .inr 2, .inr 62, .inr 92, .inl (z + 5), u5, u6] [] M3 := rfl
set_option maxRecDepth 100000 in
theorem LT_18 (D : Nat) (X : pX) (L : Nat) (xs : Nat → Int32) (z : Int) (u5 : pV) (u6 : pV) (M : pM) : prun (lawc L xs) (lstC) X (xF D) 90 363 [.inr 95, .inr 2, .inr 62, .inr 92, .inl z, u5, u6] [] M =
 if 0 ≤ z + 1 ∧ z + 1 < Int.ofNat L then
 pbI (xF D 18 [.inr 2, .inl ((xs (z + 1).toNat).toInt)] M) fun v2 M1 =>
 if 0 ≤ z + 1 ∧ z + 1 < Int.ofNat L then
 pbI (xF D 225 [.inr 62, .inl ((xs (z + 1).toNat).toInt)] M1) fun v4 M3 =>
 X 13 [.inr 95, .inr 2, .inr 62, .inr 92, .inl (z + 5), u5, u6] [] M3
 else none
 else none := rfl
set_option maxRecDepth 100000 in
theorem LT_19 (D : Nat) (X : pX) (L : Nat) (xs : Nat → Int32) (z : Int) (u5 : pV) (u6 : pV) (M : pM) : prun (lawc L xs) (lstC) X (xF D) 90 380 [.inr 95, .inr 2, .inr 62, .inr 92, .inl z, u5, u6] [] M =
 if 0 ≤ z + 1 ∧ z + 1 < Int.ofNat L then
 pbI (xF D 19 [.inr 2, .inl ((xs (z + 1).toNat).toInt)] M) fun v2 M1 =>
 if 0 ≤ z + 1 ∧ z + 1 < Int.ofNat L then
 pbI (xF D 226 [.inr 62, .inl ((xs (z + 1).toNat).toInt)] M1) fun v4 M3 =>
 X 13 [.inr 95, .inr 2, .inr 62, .inr 92, .inl (z + 5), u5, u6] [] M3
 else none
 else none := rfl
set_option maxRecDepth 100000 in
theorem LT_20 (D : Nat) (X : pX) (L : Nat) (xs : Nat → Int32) (z : Int) (u5 : pV) (u6 : pV) (M : pM) : prun (lawc L xs) (lstC) X (xF D) 90 397 [.inr 95, .inr 2, .inr 62, .inr 92, .inl z, u5, u6] [] M =
 pbI (xF D 20 [.inr 2] M) fun v2 M1 =>
 pbI (xF D 227 [.inr 62] M1) fun v4 M3 =>
 X 13 [.inr 95, .inr 2, .inr 62, .inr 92, .inl (z + 5), u5, u6] [] M3 := rfl
set_option maxRecDepth 100000 in
theorem LT_21 (D : Nat) (X : pX) (L : Nat) (xs : Nat → Int32) (z : Int) (u5 : pV) (u6 : pV) (M : pM) : prun (lawc L xs) (lstC) X (xF D) 90 404 [.inr 95, .inr 2, .inr 62, .inr 92, .inl z, u5, u6] [] M =
 pbI (xF D 21 [.inr 2] M) fun v2 M1 =>
 pbI (xF D 234 [.inr 62] M1) fun v4 M3 =>
 X 13 [.inr 95, .inr 2, .inr 62, .inr 92, .inl (z + 5), u5, u6] [] M3 := rfl
set_option maxRecDepth 100000 in
theorem LT_22 (D : Nat) (X : pX) (L : Nat) (xs : Nat → Int32) (z : Int) (u5 : pV) (u6 : pV) (M : pM) : prun (lawc L xs) (lstC) X (xF D) 90 411 [.inr 95, .inr 2, .inr 62, .inr 92, .inl z, u5, u6] [] M =
 pbI (xF D 22 [.inr 2] M) fun v2 M1 =>
 pbI (xF D 235 [.inr 62] M1) fun v4 M3 =>
 X 13 [.inr 95, .inr 2, .inr 62, .inr 92, .inl (z + 5), u5, u6] [] M3 := rfl
set_option maxRecDepth 100000 in
theorem LT_23 (D : Nat) (X : pX) (L : Nat) (xs : Nat → Int32) (z : Int) (u5 : pV) (u6 : pV) (M : pM) : prun (lawc L xs) (lstC) X (xF D) 90 418 [.inr 95, .inr 2, .inr 62, .inr 92, .inl z, u5, u6] [] M =
 pbI (xF D 23 [.inr 2] M) fun v2 M1 =>
 pbI (xF D 236 [.inr 62] M1) fun v4 M3 =>
 X 13 [.inr 95, .inr 2, .inr 62, .inr 92, .inl (z + 5), u5, u6] [] M3 := rfl
set_option maxRecDepth 100000 in
theorem LT_24 (D : Nat) (X : pX) (L : Nat) (xs : Nat → Int32) (z : Int) (u5 : pV) (u6 : pV) (M : pM) : prun (lawc L xs) (lstC) X (xF D) 90 425 [.inr 95, .inr 2, .inr 62, .inr 92, .inl z, u5, u6] [] M =
 pbI (xF D 24 [.inr 2] M) fun v2 M1 =>
 pbI (xF D 238 [.inr 62] M1) fun v4 M3 =>
 X 13 [.inr 95, .inr 2, .inr 62, .inr 92, .inl (z + 5), u5, u6] [] M3 := rfl
set_option maxRecDepth 100000 in
theorem LT_25 (D : Nat) (X : pX) (L : Nat) (xs : Nat → Int32) (z : Int) (u5 : pV) (u6 : pV) (M : pM) : prun (lawc L xs) (lstC) X (xF D) 90 432 [.inr 95, .inr 2, .inr 62, .inr 92, .inl z, u5, u6] [] M =
 if 0 ≤ z + 1 ∧ z + 1 < Int.ofNat L then
 if 0 ≤ z + 2 ∧ z + 2 < Int.ofNat L then
 pbI (xF D 25 [.inr 2, .inl ((xs (z + 1).toNat).toInt), .inl ((xs (z + 2).toNat).toInt)] M) fun v2 M1 =>
 if 0 ≤ z + 1 ∧ z + 1 < Int.ofNat L then
 if 0 ≤ z + 2 ∧ z + 2 < Int.ofNat L then
 pbI (xF D 239 [.inr 62, .inl ((xs (z + 1).toNat).toInt), .inl ((xs (z + 2).toNat).toInt)] M1) fun v4 M3 =>
 X 13 [.inr 95, .inr 2, .inr 62, .inr 92, .inl (z + 5), u5, u6] [] M3
 else none
 else none
 else none
 else none := rfl
set_option maxRecDepth 100000 in
theorem LT_26 (D : Nat) (X : pX) (L : Nat) (xs : Nat → Int32) (z : Int) (u5 : pV) (u6 : pV) (M : pM) : prun (lawc L xs) (lstC) X (xF D) 90 459 [.inr 95, .inr 2, .inr 62, .inr 92, .inl z, u5, u6] [] M =
 pbI (xF D 26 [.inr 2] M) fun v2 M1 =>
 pbI (xF D 240 [.inr 62] M1) fun v4 M3 =>
 X 13 [.inr 95, .inr 2, .inr 62, .inr 92, .inl (z + 5), u5, u6] [] M3 := rfl
set_option maxRecDepth 100000 in
theorem LT_27 (D : Nat) (X : pX) (L : Nat) (xs : Nat → Int32) (z : Int) (u5 : pV) (u6 : pV) (M : pM) : prun (lawc L xs) (lstC) X (xF D) 90 466 [.inr 95, .inr 2, .inr 62, .inr 92, .inl z, u5, u6] [] M =
 if 0 ≤ z + 1 ∧ z + 1 < Int.ofNat L then
 if 0 ≤ z + 2 ∧ z + 2 < Int.ofNat L then
 pbI (xF D 27 [.inr 2, .inl ((xs (z + 1).toNat).toInt), .inl ((xs (z + 2).toNat).toInt)] M) fun v2 M1 =>
 if 0 ≤ z + 1 ∧ z + 1 < Int.ofNat L then
 if 0 ≤ z + 2 ∧ z + 2 < Int.ofNat L then
 pbI (xF D 241 [.inr 62, .inl ((xs (z + 1).toNat).toInt), .inl ((xs (z + 2).toNat).toInt)] M1) fun v4 M3 =>
 X 13 [.inr 95, .inr 2, .inr 62, .inr 92, .inl (z + 5), u5, u6] [] M3
 else none
 else none
 else none
 else none := rfl
set_option maxRecDepth 100000 in
theorem LT_28 (D : Nat) (X : pX) (L : Nat) (xs : Nat → Int32) (z : Int) (u5 : pV) (u6 : pV) (M : pM) : prun (lawc L xs) (lstC) X (xF D) 90 493 [.inr 95, .inr 2, .inr 62, .inr 92, .inl z, u5, u6] [] M =
 if 0 ≤ z + 1 ∧ z + 1 < Int.ofNat L then
 pbI (xF D 28 [.inr 2, .inl ((xs (z + 1).toNat).toInt)] M) fun v2 M1 =>
 if 0 ≤ z + 1 ∧ z + 1 < Int.ofNat L then
 pbI (xF D 242 [.inr 62, .inl ((xs (z + 1).toNat).toInt)] M1) fun v4 M3 =>
 X 13 [.inr 95, .inr 2, .inr 62, .inr 92, .inl (z + 5), u5, u6] [] M3
 else none
 else none := rfl
set_option maxRecDepth 100000 in
theorem LT_29 (D : Nat) (X : pX) (L : Nat) (xs : Nat → Int32) (z : Int) (u5 : pV) (u6 : pV) (M : pM) : prun (lawc L xs) (lstC) X (xF D) 90 510 [.inr 95, .inr 2, .inr 62, .inr 92, .inl z, u5, u6] [] M =
 if 0 ≤ z + 1 ∧ z + 1 < Int.ofNat L then
 if 0 ≤ z + 2 ∧ z + 2 < Int.ofNat L then
 pbI (xF D 29 [.inr 2, .inl ((xs (z + 1).toNat).toInt), .inl ((xs (z + 2).toNat).toInt)] M) fun v2 M1 =>
 if 0 ≤ z + 1 ∧ z + 1 < Int.ofNat L then
 if 0 ≤ z + 2 ∧ z + 2 < Int.ofNat L then
 pbI (xF D 243 [.inr 62, .inl ((xs (z + 1).toNat).toInt), .inl ((xs (z + 2).toNat).toInt)] M1) fun v4 M3 =>
 X 13 [.inr 95, .inr 2, .inr 62, .inr 92, .inl (z + 5), u5, u6] [] M3
 else none
 else none
 else none
 else none := rfl
set_option maxRecDepth 100000 in
theorem LT_30 (D : Nat) (X : pX) (L : Nat) (xs : Nat → Int32) (z : Int) (u5 : pV) (u6 : pV) (M : pM) : prun (lawc L xs) (lstC) X (xF D) 90 537 [.inr 95, .inr 2, .inr 62, .inr 92, .inl z, u5, u6] [] M =
 if 0 ≤ z + 1 ∧ z + 1 < Int.ofNat L then
 pbI (xF D 30 [.inr 2, .inl ((xs (z + 1).toNat).toInt)] M) fun v2 M1 =>
 if 0 ≤ z + 1 ∧ z + 1 < Int.ofNat L then
 pbI (xF D 244 [.inr 62, .inl ((xs (z + 1).toNat).toInt)] M1) fun v4 M3 =>
 X 13 [.inr 95, .inr 2, .inr 62, .inr 92, .inl (z + 5), u5, u6] [] M3
 else none
 else none := rfl
set_option maxRecDepth 100000 in
theorem LT_31 (D : Nat) (X : pX) (L : Nat) (xs : Nat → Int32) (z : Int) (u5 : pV) (u6 : pV) (M : pM) : prun (lawc L xs) (lstC) X (xF D) 90 554 [.inr 95, .inr 2, .inr 62, .inr 92, .inl z, u5, u6] [] M =
 if 0 ≤ z + 1 ∧ z + 1 < Int.ofNat L then
 if 0 ≤ z + 2 ∧ z + 2 < Int.ofNat L then
 pbI (xF D 31 [.inr 2, .inl ((xs (z + 1).toNat).toInt), .inl ((xs (z + 2).toNat).toInt)] M) fun v2 M1 =>
 if 0 ≤ z + 1 ∧ z + 1 < Int.ofNat L then
 if 0 ≤ z + 2 ∧ z + 2 < Int.ofNat L then
 pbI (xF D 245 [.inr 62, .inl ((xs (z + 1).toNat).toInt), .inl ((xs (z + 2).toNat).toInt)] M1) fun v4 M3 =>
 X 13 [.inr 95, .inr 2, .inr 62, .inr 92, .inl (z + 5), u5, u6] [] M3
 else none
 else none
 else none
 else none := rfl
set_option maxRecDepth 100000 in
theorem LT_32 (D : Nat) (X : pX) (L : Nat) (xs : Nat → Int32) (z : Int) (u5 : pV) (u6 : pV) (M : pM) : prun (lawc L xs) (lstC) X (xF D) 90 581 [.inr 95, .inr 2, .inr 62, .inr 92, .inl z, u5, u6] [] M =
 pbI (xF D 32 [.inr 2] M) fun v2 M1 =>
 pbI (xF D 246 [.inr 62] M1) fun v4 M3 =>
 X 13 [.inr 95, .inr 2, .inr 62, .inr 92, .inl (z + 5), u5, u6] [] M3 := rfl
set_option maxRecDepth 100000 in
theorem LT_33 (D : Nat) (X : pX) (L : Nat) (xs : Nat → Int32) (z : Int) (u5 : pV) (u6 : pV) (M : pM) : prun (lawc L xs) (lstC) X (xF D) 90 588 [.inr 95, .inr 2, .inr 62, .inr 92, .inl z, u5, u6] [] M =
 pbI (xF D 33 [.inr 2] M) fun v2 M1 =>
 pbI (xF D 248 [.inr 62] M1) fun v4 M3 =>
 X 13 [.inr 95, .inr 2, .inr 62, .inr 92, .inl (z + 5), u5, u6] [] M3 := rfl
set_option maxRecDepth 100000 in
theorem LT_34 (D : Nat) (X : pX) (L : Nat) (xs : Nat → Int32) (z : Int) (u5 : pV) (u6 : pV) (M : pM) : prun (lawc L xs) (lstC) X (xF D) 90 595 [.inr 95, .inr 2, .inr 62, .inr 92, .inl z, u5, u6] [] M =
 if 0 ≤ z + 1 ∧ z + 1 < Int.ofNat L then
 if 0 ≤ z + 2 ∧ z + 2 < Int.ofNat L then
 pbI (xF D 34 [.inr 2, .inl ((xs (z + 1).toNat).toInt), .inl ((xs (z + 2).toNat).toInt)] M) fun v2 M1 =>
 if 0 ≤ z + 1 ∧ z + 1 < Int.ofNat L then
 if 0 ≤ z + 2 ∧ z + 2 < Int.ofNat L then
 pbI (xF D 250 [.inr 62, .inl ((xs (z + 1).toNat).toInt), .inl ((xs (z + 2).toNat).toInt)] M1) fun v4 M3 =>
 X 13 [.inr 95, .inr 2, .inr 62, .inr 92, .inl (z + 5), u5, u6] [] M3
 else none
 else none
 else none
 else none := rfl
set_option maxRecDepth 100000 in
theorem LT_35 (D : Nat) (X : pX) (L : Nat) (xs : Nat → Int32) (z : Int) (u5 : pV) (u6 : pV) (M : pM) : prun (lawc L xs) (lstC) X (xF D) 90 622 [.inr 95, .inr 2, .inr 62, .inr 92, .inl z, u5, u6] [] M =
 if 0 ≤ z + 1 ∧ z + 1 < Int.ofNat L then
 if 0 ≤ z + 2 ∧ z + 2 < Int.ofNat L then
 pbI (xF D 35 [.inr 2, .inl ((xs (z + 1).toNat).toInt), .inl ((xs (z + 2).toNat).toInt)] M) fun v2 M1 =>
 if 0 ≤ z + 1 ∧ z + 1 < Int.ofNat L then
 if 0 ≤ z + 2 ∧ z + 2 < Int.ofNat L then
 pbI (xF D 251 [.inr 62, .inl ((xs (z + 1).toNat).toInt), .inl ((xs (z + 2).toNat).toInt)] M1) fun v4 M3 =>
 X 13 [.inr 95, .inr 2, .inr 62, .inr 92, .inl (z + 5), u5, u6] [] M3
 else none
 else none
 else none
 else none := rfl
set_option maxRecDepth 100000 in
theorem LT_36 (D : Nat) (X : pX) (L : Nat) (xs : Nat → Int32) (z : Int) (u5 : pV) (u6 : pV) (M : pM) : prun (lawc L xs) (lstC) X (xF D) 90 649 [.inr 95, .inr 2, .inr 62, .inr 92, .inl z, u5, u6] [] M =
 pbI (xF D 36 [.inr 2] M) fun v2 M1 =>
 pbI (xF D 252 [.inr 62] M1) fun v4 M3 =>
 X 13 [.inr 95, .inr 2, .inr 62, .inr 92, .inl (z + 5), u5, u6] [] M3 := rfl
set_option maxRecDepth 100000 in
theorem LT_37 (D : Nat) (X : pX) (L : Nat) (xs : Nat → Int32) (z : Int) (u5 : pV) (u6 : pV) (M : pM) : prun (lawc L xs) (lstC) X (xF D) 90 656 [.inr 95, .inr 2, .inr 62, .inr 92, .inl z, u5, u6] [] M =
 if 0 ≤ z + 1 ∧ z + 1 < Int.ofNat L then
 pbI (xF D 37 [.inr 2, .inl ((xs (z + 1).toNat).toInt)] M) fun v2 M1 =>
 if 0 ≤ z + 1 ∧ z + 1 < Int.ofNat L then
 pbI (xF D 254 [.inr 62, .inl ((xs (z + 1).toNat).toInt)] M1) fun v4 M3 =>
 X 13 [.inr 95, .inr 2, .inr 62, .inr 92, .inl (z + 5), u5, u6] [] M3
 else none
 else none := rfl
set_option maxRecDepth 100000 in
theorem LT_38 (D : Nat) (X : pX) (L : Nat) (xs : Nat → Int32) (z : Int) (u5 : pV) (u6 : pV) (M : pM) : prun (lawc L xs) (lstC) X (xF D) 90 673 [.inr 95, .inr 2, .inr 62, .inr 92, .inl z, u5, u6] [] M =
 pbI (xF D 38 [.inr 2] M) fun v2 M1 =>
 pbI (xF D 255 [.inr 62] M1) fun v4 M3 =>
 X 13 [.inr 95, .inr 2, .inr 62, .inr 92, .inl (z + 5), u5, u6] [] M3 := rfl
set_option maxRecDepth 100000 in
theorem LT_39 (D : Nat) (X : pX) (L : Nat) (xs : Nat → Int32) (z : Int) (u5 : pV) (u6 : pV) (M : pM) : prun (lawc L xs) (lstC) X (xF D) 90 680 [.inr 95, .inr 2, .inr 62, .inr 92, .inl z, u5, u6] [] M =
 pbI (xF D 39 [.inr 2] M) fun v2 M1 =>
 pbI (xF D 257 [.inr 62] M1) fun v4 M3 =>
 X 13 [.inr 95, .inr 2, .inr 62, .inr 92, .inl (z + 5), u5, u6] [] M3 := rfl
set_option maxRecDepth 100000 in
theorem LT_40 (D : Nat) (X : pX) (L : Nat) (xs : Nat → Int32) (z : Int) (u5 : pV) (u6 : pV) (M : pM) : prun (lawc L xs) (lstC) X (xF D) 90 687 [.inr 95, .inr 2, .inr 62, .inr 92, .inl z, u5, u6] [] M =
 pbI (xF D 40 [.inr 2] M) fun v2 M1 =>
 pbI (xF D 259 [.inr 62] M1) fun v4 M3 =>
 X 13 [.inr 95, .inr 2, .inr 62, .inr 92, .inl (z + 5), u5, u6] [] M3 := rfl
set_option maxRecDepth 100000 in
theorem LT_41 (D : Nat) (X : pX) (L : Nat) (xs : Nat → Int32) (z : Int) (u5 : pV) (u6 : pV) (M : pM) : prun (lawc L xs) (lstC) X (xF D) 90 694 [.inr 95, .inr 2, .inr 62, .inr 92, .inl z, u5, u6] [] M =
 pbI (xF D 41 [.inr 2] M) fun v2 M1 =>
 pbI (xF D 263 [.inr 62] M1) fun v4 M3 =>
 X 13 [.inr 95, .inr 2, .inr 62, .inr 92, .inl (z + 5), u5, u6] [] M3 := rfl
set_option maxRecDepth 100000 in
theorem LT_42 (D : Nat) (X : pX) (L : Nat) (xs : Nat → Int32) (z : Int) (u5 : pV) (u6 : pV) (M : pM) : prun (lawc L xs) (lstC) X (xF D) 90 701 [.inr 95, .inr 2, .inr 62, .inr 92, .inl z, u5, u6] [] M =
 pbI (xF D 42 [.inr 2] M) fun v2 M1 =>
 pbI (xF D 264 [.inr 62] M1) fun v4 M3 =>
 X 13 [.inr 95, .inr 2, .inr 62, .inr 92, .inl (z + 5), u5, u6] [] M3 := rfl
set_option maxRecDepth 100000 in
theorem LT_43 (D : Nat) (X : pX) (L : Nat) (xs : Nat → Int32) (z : Int) (u5 : pV) (u6 : pV) (M : pM) : prun (lawc L xs) (lstC) X (xF D) 90 708 [.inr 95, .inr 2, .inr 62, .inr 92, .inl z, u5, u6] [] M =
 if 0 ≤ z + 1 ∧ z + 1 < Int.ofNat L then
 pbI (xF D 43 [.inr 2, .inl ((xs (z + 1).toNat).toInt)] M) fun v2 M1 =>
 if 0 ≤ z + 1 ∧ z + 1 < Int.ofNat L then
 pbI (xF D 266 [.inr 62, .inl ((xs (z + 1).toNat).toInt)] M1) fun v4 M3 =>
 X 13 [.inr 95, .inr 2, .inr 62, .inr 92, .inl (z + 5), u5, u6] [] M3
 else none
 else none := rfl
set_option maxRecDepth 100000 in
theorem LT_44 (D : Nat) (X : pX) (L : Nat) (xs : Nat → Int32) (z : Int) (u5 : pV) (u6 : pV) (M : pM) : prun (lawc L xs) (lstC) X (xF D) 90 725 [.inr 95, .inr 2, .inr 62, .inr 92, .inl z, u5, u6] [] M =
 if 0 ≤ z + 1 ∧ z + 1 < Int.ofNat L then
 pbI (xF D 44 [.inr 2, .inl ((xs (z + 1).toNat).toInt)] M) fun v2 M1 =>
 if 0 ≤ z + 1 ∧ z + 1 < Int.ofNat L then
 pbI (xF D 267 [.inr 62, .inl ((xs (z + 1).toNat).toInt)] M1) fun v4 M3 =>
 if eq32 v2 v4 then
 X 13 [.inr 95, .inr 2, .inr 62, .inr 92, .inl (z + 5), u5, u6] [] M3
 else
 some (some (.inl 0), M3)
 else none
 else none := rfl
set_option maxRecDepth 100000 in
theorem LT_45 (D : Nat) (X : pX) (L : Nat) (xs : Nat → Int32) (z : Int) (u5 : pV) (u6 : pV) (M : pM) : prun (lawc L xs) (lstC) X (xF D) 90 742 [.inr 95, .inr 2, .inr 62, .inr 92, .inl z, u5, u6] [] M =
 if 0 ≤ z + 1 ∧ z + 1 < Int.ofNat L then
 pbI (xF D 45 [.inr 2, .inl ((xs (z + 1).toNat).toInt)] M) fun v2 M1 =>
 if 0 ≤ z + 1 ∧ z + 1 < Int.ofNat L then
 pbI (xF D 268 [.inr 62, .inl ((xs (z + 1).toNat).toInt)] M1) fun v4 M3 =>
 X 13 [.inr 95, .inr 2, .inr 62, .inr 92, .inl (z + 5), u5, u6] [] M3
 else none
 else none := rfl
set_option maxRecDepth 100000 in
theorem LT_46 (D : Nat) (X : pX) (L : Nat) (xs : Nat → Int32) (z : Int) (u5 : pV) (u6 : pV) (M : pM) : prun (lawc L xs) (lstC) X (xF D) 90 759 [.inr 95, .inr 2, .inr 62, .inr 92, .inl z, u5, u6] [] M =
 if 0 ≤ z + 1 ∧ z + 1 < Int.ofNat L then
 X 766 [.inr 95, .inr 2, .inr 62, .inr 92, .inl z, u5, u6] [.inr 92, .inl ((xs (z + 1).toNat).toInt), .inr 2] M
 else none := rfl
set_option maxRecDepth 100000 in
theorem LT_99 (D : Nat) (X : pX) (L : Nat) (xs : Nat → Int32) (z : Int) (u5 : pV) (u6 : pV) (M : pM) : prun (lawc L xs) (lstC) X (xF D) 90 777 [.inr 95, .inr 2, .inr 62, .inr 92, .inl z, u5, u6] [] M =
 X 13 [.inr 95, .inr 2, .inr 62, .inr 92, .inl (z + 5), u5, u6] [] M := rfl
set_option maxRecDepth 100000 in
theorem LT_after_85 (D : Nat) (X : pX) (L : Nat) (xs : Nat → Int32) (z : Int) (v : Int) (u5 : pV) (u6 : pV) (M : pM) : prun (lawc L xs) (lstH) X (xF D) 90 86 [.inr 95, .inr 2, .inr 62, .inr 92, .inl z, u5, u6] [.inl v] M =
 if 0 ≤ z + 1 ∧ z + 1 < Int.ofNat L then
 if 0 ≤ z + 2 ∧ z + 2 < Int.ofNat L then
 pbI (xF D 199 [.inr 62, .inl ((xs (z + 1).toNat).toInt), .inl ((xs (z + 2).toNat).toInt)] M) fun v2 M1 =>
 X 13 [.inr 95, .inr 2, .inr 62, .inr 92, .inl (z + 5), .inl v, .inl v2] [] M1
 else none
 else none := rfl
set_option maxRecDepth 100000 in
theorem LT_after_113 (D : Nat) (X : pX) (L : Nat) (xs : Nat → Int32) (z : Int) (v : Int) (u5 : pV) (u6 : pV) (M : pM) : prun (lawc L xs) (lstH) X (xF D) 90 114 [.inr 95, .inr 2, .inr 62, .inr 92, .inl z, u5, u6] [.inl v] M =
 if 0 ≤ z + 1 ∧ z + 1 < Int.ofNat L then
 if 0 ≤ z + 2 ∧ z + 2 < Int.ofNat L then
 pbI (xF D 201 [.inr 62, .inl ((xs (z + 1).toNat).toInt), .inl ((xs (z + 2).toNat).toInt)] M) fun v2 M1 =>
 X 13 [.inr 95, .inr 2, .inr 62, .inr 92, .inl (z + 5), .inl v, .inl v2] [] M1
 else none
 else none := rfl
set_option maxRecDepth 100000 in
theorem LT_after_766 (D : Nat) (X : pX) (L : Nat) (xs : Nat → Int32) (z : Int) (v : Int) (u5 : pV) (u6 : pV) (M : pM) : prun (lawc L xs) (lstH) X (xF D) 90 767 [.inr 95, .inr 2, .inr 62, .inr 92, .inl z, u5, u6] [.inl v] M =
 if 0 ≤ z + 1 ∧ z + 1 < Int.ofNat L then
 pbI (xF D 269 [.inr 62, .inl ((xs (z + 1).toNat).toInt)] M) fun v2 M1 =>
 X 13 [.inr 95, .inr 2, .inr 62, .inr 92, .inl (z + 5), .inl v, .inl v2] [] M1
 else none := rfl
end
section
section
/-! THE CLAIM OUT OF ONE WALK OF THE LAW'S BODY. Your part is whole_start (and what it stands on); all else here is the same for every law, but numbers. -/
def R_law : String := "SetsStayTogetherLaw"
def lw_P (b : Addr) (xs : List Int32) (args : Array Value) (s : State) : Prop := args = #[.ref b] ∧ s.IntsAt b xs ∧ xs.length ≤ 2560 ∧ (Jvm.Cond.and given_1 narrow_1).before args s = true
def lw_Q (_ : Array Value) (s : State) (o : Outcome) (t : State) : Prop := o = .returned (some (.int 1)) ∧ Framed s o t [] 601024 7293034
def lw_Z (below : List Frame) (a : Array Value) (s : State) : State → Prop := fun t => ∃ o, t.status = .running ∧ Ended t below o ∧ lw_Q a s o t
/-- the law's own end, with 1 on the stack, nothing written that was there before, its room as the claim has it -/
theorem lw_ret {p : Program} {l : Launch} {e : Env} {s : State} {m : MethodId} {below : List Frame} {meth : Method} {c : Code} {b : Nat} (hx : p.tables.exec = Jvm.exec) (hb : c.code = code) (hr : meth.sig.returnType = ret) (hlocks : meth.locks = false) {pc : Nat} {H : Heap} {ls : Array Slot} (hdg : decode code pc = .ok (.ireturn, 1)) : W p l e room_1 s m #[Value.ref b] below meth c H [] 601024 7293034 (lw_Z below #[Value.ref b] s) (F0 m pc ls [.int 1]) := by
  intro T hT X
  obtain ⟨fs, hret, hrun, hended, hW, hframe⟩ := X.leave (v := some (.int 1)) (hlocks := hlocks) (fun h => by rw [hr] at h; cases h)
  have hmeth' : T.vm.method? m = some meth := X.method'
  refine ⟨T.setFrames fs, ?_, .returned (some (.int 1)), hrun, hended, rfl, ⟨_, rfl⟩, hW, hframe⟩
  jvm_step X.here [X.here.top, hx, hb, hdg, hmeth', hr, ret, narrow_b1]
  (try refine ⟨rfl, ?_⟩); (try refine ⟨rfl, ?_⟩)
  first | (intro acts; rw [hret _ acts rfl rfl rfl]) | rw [hret _ _ rfl rfl rfl]
  exact Steps.refl _
/-- what holds at the law's entry: the machine, the code, the tables' words (any of lw_tbl by 'hts w (by decide +kernel)'), the script of L ints xs at the cell b, what the Statement gives of the start (any of its parts by flat_of_before) -/
def lw_At (p : Program) (s : State) (m : MethodId) (meth : Method) (c : Code) (b L : Nat) (xs : Nat → Int32) : Prop :=
  p.tables.exec = Jvm.exec ∧ c.code = code ∧ meth.sig.returnType = ret ∧ c.maxLocals = 7 ∧ s.vm.findClass R_law = some m.cls ∧ (∀ w ∈ lw_tbl, w.before #[Value.ref b] s = true) ∧ va_X b L xs s s.heap ∧ b < s.heap.size ∧ meth.locks = false ∧ (Jvm.Cond.and given_1 narrow_1).before #[Value.ref b] s = true
end
section
/-! the law's loop: what one turn does in the pure machine, and that the real law does it too -/
noncomputable def lawX (Inv : Nat → pM → Prop) (j : Nat) : pX := fun i ls st M => @ite _ (i = 13 ∧ st = [] ∧ Inv (j + 1) M ∧ ∃ u5 u6, ls = [.inr 95, .inr 2, .inr 62, .inr 92, .inl (Int.ofNat (5 * j) + 5), u5, u6]) (Classical.propDecidable _) (some (some (.inl 1), M)) none
noncomputable def lawR (D L : Nat) (xs : Nat → Int32) (Inv : Nat → pM → Prop) (j : Nat) : pX := prun (lawc L xs) lstH (lawX Inv j) (xF D) 90
noncomputable def lawX1 (D L : Nat) (xs : Nat → Int32) (Inv : Nat → pM → Prop) (j : Nat) : pX := fun i ls st M =>
  bif Nat.beq i 85 then (match st with
    | [.inr 92, .inl p1, .inl p0, .inr 2] => pbI (yL D 4 10 [.inr 2, .inl p0, .inl p1] M) fun v M1 => lawR D L xs Inv j (85 + 1) ls [.inl v] M1
    | _ => none)
  else bif Nat.beq i 113 then (match st with
    | [.inr 92, .inl p1, .inl p0, .inr 2] => pbI (yL D 5 10 [.inr 2, .inl p0, .inl p1] M) fun v M1 => lawR D L xs Inv j (113 + 1) ls [.inl v] M1
    | _ => none)
  else bif Nat.beq i 766 then (match st with
    | [.inr 92, .inl p0, .inr 2] => pbI (yL D 46 7 [.inr 2, .inl p0] M) fun v M1 => lawR D L xs Inv j (766 + 1) ls [.inl v] M1
    | _ => none)
  else lawX Inv j i ls st M
noncomputable def lawC (D L : Nat) (xs : Nat → Int32) (Inv : Nat → pM → Prop) (j : Nat) : pX := prun (lawc L xs) lstC (lawX1 D L xs Inv j) (xF D) 90
noncomputable def lawXt (D L : Nat) (xs : Nat → Int32) (Inv : Nat → pM → Prop) (j : Nat) : pX := fun i ls st M => bif lstT i then lawC D L xs Inv j i ls st M else none
noncomputable def lawT (D L : Nat) (xs : Nat → Int32) (Inv : Nat → pM → Prop) (j : Nat) : pX := prun (lawc L xs) lstT (lawXt D L xs Inv j) (xF D) 90
/-- what a turn owes -/
def lawStep (D L : Nat) (xs : Nat → Int32) (Inv : Nat → pM → Prop) (j : Nat) (M : pM) : Prop := ∀ u5 u6 : pV, ∃ M', lawT D L xs Inv j 13 [.inr 95, .inr 2, .inr 62, .inr 92, .inl (Int.ofNat (5 * j)), u5, u6] [] M = some (some (.inl 1), M')
theorem pcall_go2 {p : Program} {l : Launch} {e : Env} {R : Room} {s : State} {m : MethodId} {args : Array Value} {below : List Frame} {meth : Method} {c : Code} {H : Heap} {locs : List Loc} {kc ks mc ms : Nat} {Q : State → Prop} {pc : Nat} {arr : Array Slot} {st0 rest : List Value} {G : va_G} {ad : Nat → Nat} {cA : Nat → ClassId} {A0 : Nat → Prop} {H0 : Heap} {M : pM} {q : pR} {a : Array Value}
    (hA : ∀ q : Nat, H0.size ≤ q → A0 q) (hW : pWd G ad cA A0 H0 M H locs)
    (hr : va_Run p l e R s m args below meth c H locs kc ks mc ms (F0 m pc arr st0) rest (pQ G ad cA (va_A (pW ad cA M) H.size) q a) (va_A (pW ad cA M) H.size))
    (kk : ∀ (H1 : Heap) (locs1 : List Loc), pWd G ad cA A0 H0 q.2 H1 locs1 → W p l e R s m args below meth c H1 locs1 (kc + mc) (ks + ms) Q (F0 m (pc + 3) arr ((q.1.map (ptv ad)).toList ++ rest))) : W p l e R s m args below meth c H locs kc ks Q (F0 m pc arr st0) := by
  intro T hT X
  obtain ⟨v, st₀, t, T', L, h0, X', hL, e1, e2, ⟨hv, hP1, hF⟩, st⟩ := hr T hT X
  cases hv
  have hin : ∀ z, va_A (pW ad cA M) H.size z → A0 z := by
    rintro z (⟨k, e9, h⟩ | h)
    · exact hW.2.1.2 k _ h
    · exact hA z (Nat.le_trans hW.2.2.1 h)
  obtain ⟨hz, hk⟩ := hF
  rw [h0] at hz hk
  obtain ⟨t2, a1, b1⟩ := kk T'.heap (locs ++ L) ⟨by rw [e1]; exact hP1, pD_of hW.2.1, Nat.le_trans hW.2.2.1 (by rw [e1]; exact hz), fun z h1 h2 => by rw [e1, hk z (Nat.lt_of_lt_of_le h1 hW.2.2.1) (fun y => h2 (hin z y))]; exact hW.2.2.2.1 z h1 h2, fun z hz9 => by
      rcases List.mem_append.mp hz9 with h | h
      · exact hW.2.2.2.2 z h
      · exact hin _ (hL z h)⟩ T' rfl X'
  exact ⟨t2, st t2 a1, b1⟩
theorem pgiW {y : MethodName} {c : ByteArray} {n : Nat} {r : Option FieldType} {hh : List (Nat × Nat × Nat × Nat)} (h : Cond.codeWith y c n r hh ∈ pws) : GoodIn pws (Cond.codeWith y c n r hh :: pws) := fun w hw => by
  have hm : w ∈ pws := by
    rcases List.mem_cons.mp hw with rfl | hw
    · exact h
    · exact hw
  exact ⟨hm, good_of_word (pGood hm).2⟩
/-- what holds of the law's frame all along -/
def lawCtx (p : Program) (l : Launch) (s : State) (m : MethodId) (meth : Method) (c : Code) (G : va_G) (ad : Nat → Nat) (cA : Nat → ClassId) (L : Nat) (xs : Nat → Int32) (a1 a2 a3 : Nat) : Prop :=
  p.tables.exec = Jvm.exec ∧ c.code = code ∧ c.maxLocals = 7 ∧ s.vm.findClass RL = some m.cls ∧ (∀ w ∈ pws, w.before #[Value.ref (ad 93)] s = true) ∧ pNw s ∧ va_K G pcl (ptys cA) s ∧ pRO ad (fun q : Nat => s.heap.size ≤ q) s s.heap ∧ meth.sig.returnType = ret ∧ meth.locks = false ∧ l.stackTraces = false ∧ pTh (fun q : Nat => s.heap.size ≤ q) s s.heap a1 a2 a3 ∧ pSc ad (fun q : Nat => s.heap.size ≤ q) s L xs
section LOOP
variable {p : Program} {l : Launch} {e : Env} {s : State} {m : MethodId} {below : List Frame} {meth : Method} {c : Code} {G : va_G} {ad : Nat → Nat} {cA : Nat → ClassId} {L : Nat} {xs : Nat → Int32} {a1 a2 a3 : Nat}
abbrev lawQ (below : List Frame) (ad : Nat → Nat) (s : State) : pR → State → Prop := fun r => if r.1 = some (.inl 1) then lw_Z below #[Value.ref (ad 93)] s else fun _ => True
theorem lawCx (hC : lawCtx p l s m meth c G ad cA L xs a1 a2 a3) {kc ks : Nat} (h1 : kc ≤ 601024) (h2 : ks ≤ 7293034) : pCx p room_1 s m #[Value.ref (ad 93)] meth c G ad cA (fun q : Nat => s.heap.size ≤ q) s.heap RL code 7 kc ks := by
  obtain ⟨q1, q2, q3, q4, q5, q6, q7, q8, q9⟩ := hC
  exact ⟨q1, q2, q3, q4, q5, q6, q7, h1, h2, Nat.le_of_ble_eq_true rfl, Nat.le_of_ble_eq_true rfl, rfl, q8⟩
theorem lawRt (hC : lawCtx p l s m meth c G ad cA L xs a1 a2 a3) {kc ks : Nat} (h1 : kc ≤ 601024) (h2 : ks ≤ 7293034) : pRt p l e room_1 s m #[Value.ref (ad 93)] below meth c G ad cA (fun q : Nat => s.heap.size ≤ q) s.heap kc ks (lawQ below ad s) code ret := by
  obtain ⟨q1, q2, q3, q4, q5, q6, q7, q8, q9, q10, -, -, q13⟩ := hC
  have hany : ∀ (v : Option pV) (M : pM) (H : Heap) (locs : List Loc) (g : JFrame), v ≠ some (.inl 1) → W p l e room_1 s m #[Value.ref (ad 93)] below meth c H locs kc ks (lawQ below ad s (v, M)) g := by
    intro v M H locs g hv T _ _
    refine ⟨_, Steps.refl _, ?_⟩
    show (if v = some (.inl 1) then _ else fun _ => True) _
    rw [if_neg hv]
    trivial
  refine ⟨fun hr => ?_, fun hr v M H locs arr pc hv hd hW => ?_, fun hr => ?_, fun hr => ?_⟩
  · cases hr
  · rcases hv with rfl | rfl
    · exact hany _ _ _ _ _ (by decide)
    · show W p l e room_1 s m #[Value.ref (ad 93)] below meth c H locs kc ks (if (some (.inl 1) : Option pV) = some (.inl 1) then lw_Z below #[Value.ref (ad 93)] s else fun _ => True) _
      rw [if_pos rfl]
      refine W.widen h1 h2 ?_
      have hbl : ad 93 < s.heap.size := q13.2.1
      have e0 : ∀ q ∈ locs, s.heap.size ≤ q.base := hW.2.2.2.2
      show W p l e room_1 s m #[Value.ref (ad 93)] below meth c H locs 601024 7293034 (lw_Z below #[Value.ref (ad 93)] s) (F0 m pc arr [.int (iI 1)])
      refine va_forget e0 ?_
      exact lw_ret q1 q2 q9 q10 hd
  · cases hr
  · obtain ⟨_, hr⟩ := hr; cases hr
theorem lawY (D : Nat) (hD : D ≤ 1000) : pMt l G ad cA pyn pwk room_1 (xF D) := x_sound (by show D + 1 ≤ 2048; omega) (by show 80 * (D + 1) ≤ 84000; omega)
theorem lawCall (hC : lawCtx p l s m meth c G ad cA L xs a1 a2 a3) {y : MethodName} {cc : ByteArray} {mx idx n : Nat} {hh : List (Nat × Nat × Nat × Nat)} {rm : Room} {av rest : List Value} {M M2 : pM} {v : Int} {kc ks pc : Nat} {arr : Array Slot} {H : Heap} {locs : List Loc} {Q : State → Prop}
    (hM : ∀ sz, Met l y (Cond.codeWith y cc mx (some .int) hh :: pws) rm (va_Pc av (pPreT G ad cA M sz a1 a2 a3)) (pQ G ad cA (va_A (pW ad cA M) sz) (some (.inl v), M2)) 1 6 (va_A (pW ad cA M) sz)) (hcd : Cond.codeWith y cc mx (some .int) hh ∈ pws) (hin : Cond.initialized y.cls ∈ pws) (hlk : Cond.methodLink RL idx y ∈ pws) (hst : Cond.static y ∈ pws)
    (hy : y.cls ≠ "java/lang/invoke/MethodHandle" ∧ y.cls ≠ "java/lang/invoke/VarHandle") (hn : (parseMethodDescriptor y.desc).map (fun d => d.parameters.length) = some n) (hav : av.length = n) (h1 : rm.cells = 1) (h2 : rm.slots = 6) (h3 : rm.frames + 1 ≤ 2048) (h4 : 8 + (mx + 11) + rm.locals ≤ 84000) (hsum : (rest.map fun v => v.category).sum ≤ 8)
    (hd : decode code pc = .ok (.invokestatic idx, 3)) (hkc : kc + 1 ≤ 601024) (hks : ks + 6 ≤ 7293034) (hW : pWd G ad cA (fun q : Nat => s.heap.size ≤ q) s.heap M H locs) (hsz : arr.size = 7)
    (kk : ∀ (H1 : Heap) (locs1 : List Loc), pWd G ad cA (fun q : Nat => s.heap.size ≤ q) s.heap M2 H1 locs1 → W p l e room_1 s m #[Value.ref (ad 93)] below meth c H1 locs1 (kc + 1) (ks + 6) Q (F0 m (pc + 3) arr (.int (iI v) :: rest))) : W p l e room_1 s m #[Value.ref (ad 93)] below meth c H locs kc ks Q (F0 m pc arr (av.reverse ++ rest)) := by
  obtain ⟨q1, q2, q3, q4, q5, q6, q7, q8, q9, q10, q11, q12, q13⟩ := hC
  have hA : ∀ q : Nat, s.heap.size ≤ q → (fun q : Nat => s.heap.size ≤ q) q := fun _ h => h
  refine pcall_go2 hA hW (vx_runSW (n := n) (As := av) (rest := rest) ⟨q1, q2, q3, q4, q5⟩ (hM H.size) ⟨⟨h1, h2, h3, h4, pay_in q5 (pgiW hcd), List.mem_cons_self⟩, q5 _ hcd, q5 _ hin, hy, fun sig h => ?_, q5 _ hlk, q5 _ hst⟩ ⟨pblindT, fun U hU hWm => ⟨rfl, ppre hA hW rfl q8 q7 q6 U hU hWm, pTh_at hA hW rfl q12 hU hWm⟩⟩ rfl hav hsz rfl (lv_room hsum) hd ⟨hkc, hks⟩) (fun H1 locs1 hW1 => kk H1 locs1 hW1)
  rw [h] at hn
  exact (Option.some.inj hn).symm
set_option maxRecDepth 100000 in
set_option maxHeartbeats 4000000 in
theorem lawX1_gd (hC : lawCtx p l s m meth c G ad cA L xs a1 a2 a3) {Inv : Nat → pM → Prop} {j D : Nat} (hD : D ≤ 1000) {kc ks : Nat} (hkc : kc + 1 ≤ 601024) (hks : ks + 6 ≤ 7293034)
    (hX : pGd p l e room_1 s m #[Value.ref (ad 93)] below meth c G ad cA (fun q : Nat => s.heap.size ≤ q) s.heap (kc + 1) (ks + 6) (lawQ below ad s) 7 lawpc (lawX Inv j)) :
    pGd p l e room_1 s m #[Value.ref (ad 93)] below meth c G ad cA (fun q : Nat => s.heap.size ≤ q) s.heap kc ks (lawQ below ad s) 7 lawpc (lawX1 D L xs Inv j) := by
  have hR : pGd p l e room_1 s m #[Value.ref (ad 93)] below meth c G ad cA (fun q : Nat => s.heap.size ≤ q) s.heap (kc + 1) (ks + 6) (lawQ below ad s) 7 lawpc (lawR D L xs Inv j) :=
    prun_snd (lawc_snd L xs) (lawCx hC hkc hks) hC.2.2.2.2.2.2.2.2.2.2.2.2 (fun _ h => h) (lawRt hC hkc hks) lstH hX (lawY D hD) 90
  intro i ls st M r h H locs arr hW hl
  unfold lawX1 at h
  cases h1 : Nat.beq i 85 with
  | true =>
    have hi : i = 85 := Nat.eq_of_beq_eq_true h1
    subst hi
    rw [h1, cond_true] at h
    split at h
    · rename_i p1 p0
      cases hy : yL D 4 10 [.inr 2, .inl p0, .inl p1] M with
      | none => rw [hy] at h; cases h
      | some q =>
        rw [hy] at h
        rcases q with ⟨_ | v | k, M2⟩
        · cases h
        · show W p l e room_1 s m #[Value.ref (ad 93)] below meth c H locs kc ks (lawQ below ad s r) (F0 m (lawpc 85) arr (([.ref (ad 0), .int (iI p0), .int (iI p1), .ref (ad 90)] : List Value).reverse ++ []))
          refine lawCall (n := 4) (mx := 5) hC (fun sz => L_room l hC.2.2.2.2.2.2.2.2.2.2.1 G ad cA D M M2 p0 p1 v hy sz a1 a2 a3) (pmt6 42 rfl rfl) (pmt1 0 rfl rfl) (pmt6 40 rfl rfl) (pmt6 41 rfl rfl) (by decide +kernel) (by decide +kernel) rfl rfl rfl (by show D + 12 + 1 ≤ 2048; omega) (by show 8 + (5 + 11) + 80 * (D + 3) ≤ 84000; omega) (Nat.zero_le _) (by decide +kernel) hkc hks hW hl.2.1 (fun H1 locs1 hW1 => ?_)
          exact hR _ _ _ _ _ h _ _ _ hW1 hl
        · cases k <;> cases h
    · cases h
  | false =>
  rw [h1, cond_false] at h
  cases h2 : Nat.beq i 113 with
  | true =>
    have hi : i = 113 := Nat.eq_of_beq_eq_true h2
    subst hi
    rw [h2, cond_true] at h
    split at h
    · rename_i p1 p0
      cases hy : yL D 5 10 [.inr 2, .inl p0, .inl p1] M with
      | none => rw [hy] at h; cases h
      | some q =>
        rw [hy] at h
        rcases q with ⟨_ | v | k, M2⟩
        · cases h
        · show W p l e room_1 s m #[Value.ref (ad 93)] below meth c H locs kc ks (lawQ below ad s r) (F0 m (lawpc 113) arr (([.ref (ad 0), .int (iI p0), .int (iI p1), .ref (ad 90)] : List Value).reverse ++ []))
          refine lawCall (n := 4) (mx := 5) hC (fun sz => L_thing l hC.2.2.2.2.2.2.2.2.2.2.1 G ad cA D M M2 p0 p1 v hy sz a1 a2 a3) (pmt6 118 rfl rfl) (pmt1 0 rfl rfl) (pmt6 116 rfl rfl) (pmt6 117 rfl rfl) (by decide +kernel) (by decide +kernel) rfl rfl rfl (by show D + 12 + 1 ≤ 2048; omega) (by show 8 + (5 + 11) + 80 * (D + 3) ≤ 84000; omega) (Nat.zero_le _) (by decide +kernel) hkc hks hW hl.2.1 (fun H1 locs1 hW1 => ?_)
          exact hR _ _ _ _ _ h _ _ _ hW1 hl
        · cases k <;> cases h
    · cases h
  | false =>
  rw [h2, cond_false] at h
  cases h3 : Nat.beq i 766 with
  | true =>
    have hi : i = 766 := Nat.eq_of_beq_eq_true h3
    subst hi
    rw [h3, cond_true] at h
    split at h
    · rename_i p0
      cases hy : yL D 46 7 [.inr 2, .inl p0] M with
      | none => rw [hy] at h; cases h
      | some q =>
        rw [hy] at h
        rcases q with ⟨_ | v | k, M2⟩
        · cases h
        · show W p l e room_1 s m #[Value.ref (ad 93)] below meth c H locs kc ks (lawQ below ad s r) (F0 m (lawpc 766) arr (([.ref (ad 0), .int (iI p0), .ref (ad 90)] : List Value).reverse ++ []))
          refine lawCall (n := 3) (mx := 4) hC (fun sz => L_row l hC.2.2.2.2.2.2.2.2.2.2.1 G ad cA D M M2 p0 v hy sz a1 a2 a3) (pmt6 127 rfl rfl) (pmt1 0 rfl rfl) (pmt6 125 rfl rfl) (pmt6 126 rfl rfl) (by decide +kernel) (by decide +kernel) rfl rfl rfl (by show D + 12 + 1 ≤ 2048; omega) (by show 8 + (4 + 11) + 80 * (D + 3) ≤ 84000; omega) (Nat.zero_le _) (by decide +kernel) hkc hks hW hl.2.1 (fun H1 locs1 hW1 => ?_)
          exact hR _ _ _ _ _ h _ _ _ hW1 hl
        · cases k <;> cases h
    · cases h
  | false =>
  rw [h3, cond_false] at h
  exact W.widen (Nat.le_succ _) (Nat.le_add_right _ 6) (hX _ _ _ _ _ h _ _ _ hW hl)
theorem lawN {j L : Nat} (h : 5 * j + 5 ≤ L) (h2 : L ≤ 2560) : 100 + j + 1 ≤ 601024 ∧ 200000 + 6 * j + 6 ≤ 7293034 ∧ 100 + j ≤ 601024 ∧ 200000 + 6 * j ≤ 7293034 := by omega
set_option maxRecDepth 100000 in
/-- THE LOOP -/
theorem law_loop (hC : lawCtx p l s m meth c G ad cA L xs a1 a2 a3) {Inv : Nat → pM → Prop} {D : Nat} (hD : D ≤ 1000) (hLN : L ≤ 2560) (hstep : ∀ j M, Inv j M → 5 * j + 5 ≤ L → lawStep D L xs Inv j M) : ∀ n j M, 5 * j ≤ L → L < 5 * (j + n) + 5 → Inv j M → ∀ H locs arr u5 u6, pWd G ad cA (fun q : Nat => s.heap.size ≤ q) s.heap M H locs → pLs ad 7 [.inr 95, .inr 2, .inr 62, .inr 92, .inl (Int.ofNat (5 * j)), u5, u6] arr →
    W p l e room_1 s m #[Value.ref (ad 93)] below meth c H locs (100 + j) (200000 + 6 * j) (lw_Z below #[Value.ref (ad 93)] s) (F0 m (lawpc 13) arr []) := by
  have hend : ∀ j M, 5 * j ≤ L → L < 5 * j + 5 → ∀ H locs arr u5 u6, pWd G ad cA (fun q : Nat => s.heap.size ≤ q) s.heap M H locs → pLs ad 7 [.inr 95, .inr 2, .inr 62, .inr 92, .inl (Int.ofNat (5 * j)), u5, u6] arr →
    W p l e room_1 s m #[Value.ref (ad 93)] below meth c H locs (100 + j) (200000 + 6 * j) (lw_Z below #[Value.ref (ad 93)] s) (F0 m (lawpc 13) arr []) := by
    intro j M hj1 hj2 H locs arr u5 u6 hW hl
    have hG := prun_snd (e := e) (below := below) (lawc_snd L xs) (lawCx hC (kc := 100 + j) (ks := 200000 + 6 * j) (by omega) (by omega)) hC.2.2.2.2.2.2.2.2.2.2.2.2 (fun _ h => h) (lawRt hC (by omega) (by omega)) lstT (X := fun _ _ _ _ => none) (fun _ _ _ _ _ h => by cases h) (lawY D hD) 90
    have h1 : prun (lawc L xs) lstT (fun _ _ _ _ => none) (xF D) 90 13 [.inr 95, .inr 2, .inr 62, .inr 92, .inl (Int.ofNat (5 * j)), u5, u6] [] M = some (some (.inl 1), M) := by
      rw [LT_top, if_pos]
      rw [lt32_iff]
      all_goals (simp only [Int.ofNat_eq_natCast]; omega)
    exact hG _ _ _ _ _ h1 H locs arr hW hl
  intro n
  induction n with
  | zero =>
    intro j M hj1 hj hI H locs arr u5 u6 hW hl
    exact hend j M hj1 (by omega) H locs arr u5 u6 hW hl
  | succ n ih =>
    intro j M hj1 hj hI H locs arr u5 u6 hW hl
    rcases Nat.lt_or_ge L (5 * j + 5) with h9 | h9
    · exact hend j M hj1 h9 H locs arr u5 u6 hW hl
    have hX : pGd p l e room_1 s m #[Value.ref (ad 93)] below meth c G ad cA (fun q : Nat => s.heap.size ≤ q) s.heap (100 + j + 1) (200000 + 6 * j + 6) (lawQ below ad s) 7 lawpc (lawX Inv j) := by
      intro i ls st M9 r h H9 locs9 arr9 hW9 hl9
      unfold lawX at h
      split at h
      · rename_i hq
        cases h
        obtain ⟨rfl, rfl, hI9, v5, v6, rfl⟩ := hq
        exact ih (j + 1) M9 (by omega) (by omega) hI9 H9 locs9 arr9 v5 v6 hW9 hl9
      · cases h
    obtain ⟨h1, h2, h3, h4⟩ := lawN h9 hLN
    have hX1 := lawX1_gd (e := e) (below := below) (kc := 100 + j) (ks := 200000 + 6 * j) hC hD h1 h2 hX
    have hCg := prun_snd (e := e) (below := below) (lawc_snd L xs) (lawCx hC (kc := 100 + j) (ks := 200000 + 6 * j) h3 h4) hC.2.2.2.2.2.2.2.2.2.2.2.2 (fun _ h => h) (lawRt hC h3 h4) lstC hX1 (lawY D hD) 90
    have hTg := prun_snd (e := e) (below := below) (lawc_snd L xs) (lawCx hC (kc := 100 + j) (ks := 200000 + 6 * j) h3 h4) hC.2.2.2.2.2.2.2.2.2.2.2.2 (fun _ h => h) (lawRt hC h3 h4) lstT (X := lawXt D L xs Inv j) (fun i ls st M9 r h => by
      unfold lawXt at h
      cases hb : lstT i with
      | true => rw [hb] at h; exact hCg i ls st M9 r h
      | false => rw [hb] at h; cases h) (lawY D hD) 90
    obtain ⟨M', h5⟩ := hstep j M hI h9 u5 u6
    exact hTg _ _ _ _ _ h5 H locs arr hW hl
end LOOP
end
end
