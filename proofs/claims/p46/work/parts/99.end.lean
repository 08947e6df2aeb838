/-! the claim: scripts of any length -/
def gRb (a : aV) (z : Int) : Bool := (Nat.beq a.1 0 && decide (a.2.1 ≤ z) && decide (z ≤ a.2.2.1)) || Nat.beq a.1 1
theorem gRb_ok {a : aV} {z : Int} (h : gRb a z = true) : gR a z := by
  unfold gRb at h
  rw [Bool.or_eq_true, Bool.and_eq_true, Bool.and_eq_true] at h
  rcases h with h | h
  · exact Or.inl ⟨Nat.eq_of_beq_eq_true h.1.1, of_decide_eq_true h.1.2, of_decide_eq_true h.2⟩
  · exact Or.inr (Or.inl (Nat.eq_of_beq_eq_true h))
def gOb (o : Nat) : Bool := bif Nat.beq (gT o).length 1 && Nat.ble 100 (pK o) then gRb ((gT o).getD 0 eT) 0 && !(Nat.beq o 0) && !(Nat.beq o 3) && !(Nat.beq o 30) && !(Nat.beq o 60) else (List.range (pL o)).all fun k => gRb (gAll o k) (M0 o k)
set_option maxRecDepth 1000000 in
theorem gO_new : (List.range pN).all gOb = true := by decide +kernel
theorem M0_z {o i : Nat} (h1 : o ≠ 0) (h2 : o ≠ 3) (h3 : o ≠ 30) (h4 : o ≠ 60) : M0 o i = 0 := by
  unfold M0
  rw [pset_ne h4, pset_ne h4, pset_ne h4, pset_ne h3, pset_ne h2, pset_ne h1]
theorem beq_no {a b : Nat} (h : (!(Nat.beq a b)) = true) : a ≠ b := fun e => by
  rw [e, Nat.beq_refl] at h; cases h
theorem gM_new : gM gAll M0 := by
  intro o k hk
  have ho : o < pN := by
    by_cases q : o < pN
    · exact q
    · unfold pL at hk
      rw [pOT_end (Nat.le_of_not_lt q)] at hk
      exact absurd hk (Nat.not_lt_zero _)
  have h := List.all_eq_true.mp gO_new o (List.mem_range.mpr ho)
  unfold gOb at h
  cases q : Nat.beq (gT o).length 1 && Nat.ble 100 (pK o) with
  | false =>
    rw [q, cond_false] at h
    exact gRb_ok (List.all_eq_true.mp h k (List.mem_range.mpr hk))
  | true =>
    rw [q, cond_true, Bool.and_eq_true, Bool.and_eq_true, Bool.and_eq_true, Bool.and_eq_true] at h
    obtain ⟨⟨⟨⟨h1, h2⟩, h3⟩, h4⟩, h5⟩ := h
    rw [Bool.and_eq_true] at q
    obtain ⟨v, hv⟩ : ∃ v, gT o = [v] := List.length_eq_one_iff.mp (Nat.eq_of_beq_eq_true q.1)
    rw [gAll_row hv q.2 (Nat.lt_of_lt_of_le hk (pL_le _)), M0_z (beq_no h2) (beq_no h3) (beq_no h4) (beq_no h5)]
    rw [hv] at h1
    exact gRb_ok h1
theorem M0_60 {i : Nat} (h1 : i ≠ 12) (h2 : i ≠ 18) (h3 : i ≠ 26) : M0 60 i = 0 := by
  unfold M0
  rw [pset_ne2 h3, pset_ne2 h2, pset_ne2 h1, pset_ne (by decide), pset_ne (by decide), pset_ne (by decide)]
theorem RI0_new : RI0 M0 := by
  have z0 : M0 60 0 = 0 := M0_60 (by decide) (by decide) (by decide)
  have z3 : M0 60 3 = 0 := M0_60 (by decide) (by decide) (by decide)
  have z8 : M0 60 8 = 0 := M0_60 (by decide) (by decide) (by decide)
  have z33 : M0 60 33 = 0 := M0_60 (by decide) (by decide) (by decide)
  have z52 : M0 60 52 = 0 := M0_60 (by decide) (by decide) (by decide)
  have z62 : ∀ i, M0 62 i = 0 := fun i => M0_z (by decide) (by decide) (by decide) (by decide)
  refine ⟨gM_new, M0_60 (by decide) (by decide) (by decide), ⟨fun r hr => ?_, fun a b _ _ => ?_, fun a b _ _ _ => z62 _, fun t ht => ?_, fun s hs => ?_⟩, fun k hk => ?_, ?_, ?_, fun i hi h => ?_⟩
  · rw [z0] at hr; omega
  · rw [z62, z62]
  · rw [z3] at ht; omega
  · rw [z8] at hs; omega
  · rw [z33] at hk; omega
  · rw [z52]; decide
  · rw [z52, z0, z3]; decide
  · exact absurd (M0_z (by decide) (by decide) (by decide) (by decide)) h
def G0 : pM := fun o i => if o = 8 ∧ i = 2 then 999 else 0
theorem G0_z {o i : Nat} (h : o ≠ 8 ∨ i ≠ 2) : G0 o i = 0 := if_neg (by omega)
theorem M0_0 {i : Nat} (h : i ≠ 17) : M0 0 i = 0 := by
  unfold M0
  rw [pset_ne (by decide), pset_ne (by decide), pset_ne (by decide), pset_ne (by decide), pset_ne (by decide), pset_ne2 h]
theorem M0_17 : M0 0 17 = 999 := by
  unfold M0
  rw [pset_ne (show 0 ≠ 60 by decide), pset_ne (show 0 ≠ 60 by decide), pset_ne (show 0 ≠ 60 by decide), pset_ne (show 0 ≠ 30 by decide), pset_ne (show 0 ≠ 3 by decide), pset_eq]
theorem M0_12 : M0 60 12 = 999 := by
  unfold M0
  rw [pset_ne2 (show 12 ≠ 26 by decide), pset_ne2 (show 12 ≠ 18 by decide), pset_eq]
theorem G0_R : hR G0 = 0 := by unfold hR; rw [G0_z (Or.inl (by decide))]; rfl
theorem G0_T : hT G0 = 0 := by unfold hT; rw [G0_z (Or.inl (by decide))]; rfl
theorem G0_S : hS G0 = 0 := by unfold hS; rw [G0_z (Or.inl (by decide))]; rfl
theorem CI_new : CI M0 := by
  have z : ∀ o i, o ≠ 0 → o ≠ 3 → o ≠ 30 → o ≠ 60 → M0 o i = 0 := fun o i a b c d => M0_z a b c d
  have g : ∀ o i, o ≠ 8 → G0 o i = 0 := fun o i h => G0_z (Or.inl h)
  refine ⟨G0, ⟨⟨?_, ?_, ?_, fun r hr => ?_, fun p _ => ?_, fun t ht => ?_, fun s hs => ?_⟩, ⟨?_, ?_, ?_⟩, ⟨?_, fun k hk => ?_⟩, fun i hi => ⟨?_, fun h => ?_⟩⟩, ⟨?_, ?_, ?_, fun r hr => ?_, fun p _ => ?_, fun t ht => ?_, fun s hs => ?_⟩, ⟨?_, ?_, ?_⟩, ⟨?_, fun k hk => ?_⟩, fun i hi => ⟨?_, fun h => ?_⟩⟩
  · rw [z 7 9 (by decide) (by decide) (by decide) (by decide), G0_R]; rfl
  · rw [z 7 10 (by decide) (by decide) (by decide) (by decide), G0_T]; rfl
  · rw [z 7 11 (by decide) (by decide) (by decide) (by decide), G0_S]; rfl
  · rw [G0_R] at hr; omega
  · rw [z 9 p (by decide) (by decide) (by decide) (by decide), g 2 p (by decide)]
  · rw [G0_T] at ht; omega
  · rw [G0_S] at hs; omega
  · rw [M0_0 (by decide)]; exact (G0_z (Or.inr (by decide))).symm
  · rw [M0_0 (by decide)]; exact (G0_z (Or.inr (by decide))).symm
  · rw [M0_17]; rfl
  · rw [z 39 3 (by decide) (by decide) (by decide) (by decide), g 9 0 (by decide)]
  · rw [g 9 0 (by decide)] at hk; omega
  · rw [z _ 1 (by omega) (by omega) (by omega) (by omega), g 13 i (by decide)]
  · exact absurd (g 13 i (by decide)) h
  · rw [M0_60 (by decide) (by decide) (by decide), G0_R]; rfl
  · rw [M0_60 (by decide) (by decide) (by decide), G0_T]; rfl
  · rw [M0_60 (by decide) (by decide) (by decide), G0_S]; rfl
  · rw [G0_R] at hr; omega
  · rw [z 62 p (by decide) (by decide) (by decide) (by decide), g 2 p (by decide)]
  · rw [G0_T] at ht; omega
  · rw [G0_S] at hs; omega
  · rw [M0_60 (by decide) (by decide) (by decide)]; exact (G0_z (Or.inr (by decide))).symm
  · rw [M0_60 (by decide) (by decide) (by decide)]; exact (G0_z (Or.inr (by decide))).symm
  · rw [M0_12]; rfl
  · rw [M0_60 (by decide) (by decide) (by decide), g 9 0 (by decide)]
  · rw [g 9 0 (by decide)] at hk; omega
  · rw [z 88 i (by decide) (by decide) (by decide) (by decide), g 13 i (by decide)]
  · exact absurd (g 13 i (by decide)) h
theorem IV_new : IV M0 := by
  refine ⟨RI0_new, ⟨?_, fun i _ => ?_⟩, CI_new, Or.inl ⟨M0_0 (by decide), M0_60 (by decide) (by decide) (by decide)⟩, trivial, trivial⟩
  · rw [M0_60 (by decide) (by decide) (by decide)]
    exact M0_z (by decide) (by decide) (by decide) (by decide)
  · rw [show M0 2 i = 0 from M0_z (by decide) (by decide) (by decide) (by decide), show M0 68 i = 0 from M0_z (by decide) (by decide) (by decide) (by decide)]
    rfl
theorem whole_start {p : Program} {e : Env} {s : State} {m : MethodId} {below : List Frame} {meth : Method} {c : Code} (l : Launch) (hflags : l.flags = flags0) {b L : Nat} {xs : Nat → Int32} (hL : L ≤ 2560) (C0 : lw_At p s m meth c b L xs) : W p l e room_1 s m #[Value.ref b] below meth c s.heap [] 0 0 (lw_Z below #[Value.ref b] s) (entryFrame m ([Value.ref b] : List Value).toArray 7) := by
  refine law_main l hflags hL C0 (fun _ M => IV M) IV_new ?_
  intro j M hI hj
  exact lawStep_of hL hj (fun a1 a2 a3 a4 c => k_all hI a1 a2 a3 a4 c) hI
set_option maxHeartbeats 4000000 in
theorem lw_walk (l : Launch) (hflags : l.flags = flags0) (b : Addr) (xs : List Int32) : MetFree l x (headSpec (Jvm.Cond.code x code maxLocals ret :: tables_1) room_1) (lw_P b xs) (fun _ _ _ _ _ => True) lw_Q := by
  refine MetFree.of_bodyS (code := code) (maxLocals := maxLocals) (ret := ret) (by decide) ?_ ?_
  · intro args s m h hn
    obtain ⟨meth, c, h1, h2, h3, h4, h5, h6, -, -⟩ := Cond.code_spec hn (atoms_spec (ws := Jvm.Cond.code x code maxLocals ret :: tables_1) h _ List.mem_cons_self)
    exact ⟨meth, c, h1, h2, h3, h4, h5, h6⟩
  · intro p e s m args below meth c s₁ B hml0 hP _
    obtain ⟨rfl, hx, hbd, hgv⟩ := hP
    obtain ⟨scr, harrAt, hlist, hof, hsmall⟩ := hx
    obtain ⟨hcb, hkn, -, -⟩ := State.arrayAt?_spec harrAt
    have hown : s.vm.findClass R_law = some m.cls := findClass_of_methodNamed B.named
    have hts0 : ∀ c ∈ (Jvm.Cond.code x code maxLocals ret :: tables_1), c.before #[Value.ref b] s = true := atoms_spec (ws := Jvm.Cond.code x code maxLocals ret :: tables_1) B.pre
    have hts : ∀ w ∈ lw_tbl, w.before #[Value.ref b] s = true := k2_hts_sels lw_privs (fun w hw => hts0 w (List.mem_cons_of_mem _ hw)) lw_privs_ok
    have hml : c.maxLocals = 7 := B.maxLocals_eq (hts0 _ List.mem_cons_self)
    have X₀ : Stand p l e room_1 s m #[Value.ref b] below meth c s₁ [] 0 0 := Stand.of_body B
    have hh0 : s₁.heap = s.heap := by rw [B.state]; rfl
    have hsz : scr.slots.size = xs.length := by rw [← Array.length_toList, hlist, List.length_map]
    have hval : ∀ j : Nat, j < xs.length → scr.slots[j]? = some (.int (xs.getD j 0)) := fun j hj => by
      rw [← Array.getElem?_toList, hlist]
      simp [hj]
    have hbl : b < s.heap.size := (Array.getElem?_eq_some_iff.mp hcb).1
    have hX : va_X b xs.length (fun j => xs.getD j 0) s s.heap := ⟨scr, hcb, hof, hkn, hsz, hval⟩
    have K : W p l e room_1 s m #[Value.ref b] below meth c s₁.heap [] 0 0 (lw_Z below #[Value.ref b] s) (entryFrame m ([Value.ref b] : List Value).toArray 7) := by
      rw [hh0]
      exact whole_start l hflags hbd ⟨B.exec, B.bytes, B.returns, hml, hown, hts, hX, hbl, B.notSynchronized, hgv⟩
    obtain ⟨t, a1, o, b1, b2, b3⟩ := K s₁ rfl X₀
    exact ⟨t, o, a1, b1, b2, b3⟩
theorem lw_pre_spec {args : Array Value} {s : State} (h : (Jvm.Cond.and given_1 narrow_1).before args s = true) (hr : rest_1_c.before args s = true) : ∃ (b : Addr) (xs : List Int32), lw_P b xs args s := by
  have hs := flat_of_before _ h
  have hq := flat_of_before _ hr
  have hc : (Cond.count 1).before args s = true := hs _ (by decide +kernel)
  have harr : (Cond.arrayOf (.arg 0) .int).before args s = true := hs _ (by decide +kernel)
  have hle : (Cond.le (.length (.arg 0)) (.int 2560)).before args s = true := hs _ (by decide +kernel)
  have hlen : (Cond.isInt (.length (.arg 0))).before args s = true := hq _ (by decide +kernel)
  have hall : (Cond.all (.arg 0) (.isInt (.elem (.arg 0) (.index 0)))).before args s = true := hq _ (by decide +kernel)
  obtain ⟨b, xs, hb, hx⟩ := State.ints_of_pre rfl harr hlen hall
  have hsm : xs.length < 2 ^ 31 := hx.choose_spec.2.2.2
  have hev : (Term.length (.arg 0)).eval args s none [] s = some (.int xs.length.toInt32) := hx.length_eval hb
  have hv := Cond.le_ints hev (show (Term.int 2560).eval args s none [] s = some (.int 2560) from rfl)
  have hd : xs.length.toInt32 ≤ 2560 := by
    simpa [Cond.before, Cond.holds, hv] using hle
  have hN : xs.length ≤ 2560 := (Int32.ofNat_le_ofNat hsm (by decide)).mp (show Int32.ofNat xs.length ≤ Int32.ofNat 2560 from hd)
  exact ⟨b, xs, Cond.one_arg hc (show args[0]? = some (.ref b) from hb), hx, hN, h⟩
theorem lw_comes (l : Launch) (hflags : l.flags = flags0) : Comes l x (Jvm.Cond.code x code maxLocals ret :: tables_1) room_1 (fun tb e args s => Calls_1 tb e args s ∧ rest_1 tb e args s ∧ Pre_1 tb e args s)
    (fun _ _ args s o t => lw_Q args s o t) := by
  intro p e ha hc hk s m args below hf hfit hheap happ hpre
  obtain ⟨b, xs, hP⟩ := lw_pre_spec hpre.2.2 hpre.2.1
  obtain ⟨k, o, h1, h2, h3, hQ⟩ := lw_walk l hflags b xs p e ha hc hk s m args below hf ((Spec.applies_iff_loose hf).mp happ).1 hP trivial
  exact ⟨k, o, h1, h2, h3, hQ⟩
theorem lw_frame {s t : State} {o : Outcome} {args : Array Value} (h : Framed s o t [] 601024 7293034) :
    Framed s o t (fieldLocs frame_1_writes args s ++ arrayLocs frame_1_arrays args s ++ staticLocs frame_1_statics s) 601024 7293034 := h
theorem lw_limb (L : Cond) (hL : ∀ (args : Array Value) (s t : State), L.after args s (.returned (some (.int 1))) t = true) :
    ArmFor flags0 classFile x code maxLocals ret World_1 tables_1 room_1 Calls_1 rest_1 Pre_1
      (fun tb e a s o t => postC L tb e a s o t ∧ Framed s o t (fieldLocs frame_1_writes a s ++ arrayLocs frame_1_arrays a s ++ staticLocs frame_1_statics s) 601024 7293034) := by
  intro l hflags _ _ p e ha hc hk s m args below hf hfit hheap happ hpre
  obtain ⟨k, o, h1, h2, h3, rfl, hF⟩ := lw_comes l hflags p e ha hc hk s m args below hf hfit hheap happ hpre
  exact ⟨k, _, h1, h2, h3, hL args s _, lw_frame hF⟩
theorem i_vc : Claimed_1_1 ∧ Claimed_1_2 := ⟨lw_limb limb_1_1 (fun args s t => by simp [limb_1_1, Cond.after, Cond.holds, Cond.value]), lw_limb limb_1_2 (fun args s t => Cond.after_iff.mpr (by
  first | (rw [show limb_1_2 = Cond.eq .result (.int 1) from rfl, Cond.eq_ints (x := 1) (y := 1) rfl rfl]; simp; done) | (simp [limb_1_2, Cond.value, Term.eval]; done)))⟩
