section
/-! the law from its entry to its loop (by program) -/
theorem pmu1 {w : Cond} (j : Nat) (h : tables_1_1[j]? = some w) : w ∈ lw_tbl := List.mem_append_right _ (show w ∈ tables_1 from List.mem_append_left _ (List.mem_of_getElem? h))
theorem pmu2 {w : Cond} (j : Nat) (h : tables_1_2[j]? = some w) : w ∈ lw_tbl := List.mem_append_right _ (show w ∈ tables_1 from List.mem_append_right _ (List.mem_append_left _ (List.mem_of_getElem? h)))
theorem pmu3 {w : Cond} (j : Nat) (h : tables_1_3[j]? = some w) : w ∈ lw_tbl := List.mem_append_right _ (show w ∈ tables_1 from List.mem_append_right _ (List.mem_append_right _ (List.mem_append_left _ (List.mem_of_getElem? h))))
theorem pmu4 {w : Cond} (j : Nat) (h : tables_1_4[j]? = some w) : w ∈ lw_tbl := List.mem_append_right _ (show w ∈ tables_1 from List.mem_append_right _ (List.mem_append_right _ (List.mem_append_right _ (List.mem_append_left _ (List.mem_of_getElem? h)))))
theorem pmu5 {w : Cond} (j : Nat) (h : tables_1_5[j]? = some w) : w ∈ lw_tbl := List.mem_append_right _ (show w ∈ tables_1 from List.mem_append_right _ (List.mem_append_right _ (List.mem_append_right _ (List.mem_append_right _ (List.mem_append_left _ (List.mem_of_getElem? h))))))
theorem pmu6 {w : Cond} (j : Nat) (h : tables_1_6[j]? = some w) : w ∈ lw_tbl := List.mem_append_right _ (show w ∈ tables_1 from List.mem_append_right _ (List.mem_append_right _ (List.mem_append_right _ (List.mem_append_right _ (List.mem_append_right _ (List.mem_append_left _ (List.mem_of_getElem? h)))))))
/-- the memory of new objects -/
def M0 : pM := (pset (pset (pset (pset (pset (pset (fun _ _ => 0) 0 17 999) 3 3 (-1)) 30 3 (-1)) 60 12 999) 60 18 1) 60 26 (-1))
theorem notrace_of {l : Launch} (h : l.flags = flags0) : l.stackTraces = false := by
  unfold Launch.stackTraces
  rw [h]
  decide +kernel
theorem exactly_ref {t : Term} {nm : String} {b : Nat} {s : State} (h : (Cond.exactly t nm).before #[Value.ref b] s = true) : ∃ a, t.eval #[Value.ref b] s none [] s = some (.ref a) := by
  obtain ⟨a, _, _, _, q, _⟩ := Cond.exactly_spec (show (Cond.exactly t nm).holds #[Value.ref b] s none s [] = true from h)
  exact ⟨a, q⟩
theorem va_P_re {G : va_G} {cl : List vw_C} {ws : va_W} {H : Heap} (h : va_P G cl ws H) (p : Nat) {a : Nat} {e e' : va_E} (hp : ws[p]? = some (a, e)) (he : va_at G cl (a, e) H → va_at G cl (a, e') H) : va_P G cl (ws.set p (a, e')) H := by
  intro k q hk
  rw [List.getElem?_set] at hk
  split at hk
  · split at hk
    · rename_i h1 h2
      cases hk
      exact he (h p _ hp)
    · cases hk
  · exact h k q hk
theorem arrV_ext {c : ClassId} {n : Nat} {f g : Nat → Value} (h : ∀ j, j < n → f j = g j) : arrV c n f = arrV c n g := by
  unfold arrV
  congr 1
  apply Array.ext
  · simp
  · intro i h1 h2
    simp at h1
    simp [h i h1]
theorem pni_of {b : Nat} {s : State} (h : ∀ w ∈ lw_tbl, w.before #[Value.ref b] s = true) : pNi s := ⟨List.forall_mem_cons.mpr ⟨va_Nw.of rfl (h _ (pmu1 86 rfl)), List.forall_mem_cons.mpr ⟨va_Nw.of rfl (h _ (pmu1 101 rfl)), List.forall_mem_cons.mpr ⟨va_Nw.of rfl (h _ (pmu1 180 rfl)), List.forall_mem_cons.mpr ⟨va_Nw.of rfl (h _ (pmu1 201 rfl)), List.forall_mem_cons.mpr ⟨va_Nw.of rfl (h _ (pmu2 9 rfl)), List.forall_mem_cons.mpr ⟨va_Nw.of rfl (h _ (pmu2 33 rfl)), List.forall_mem_cons.mpr ⟨va_Nw.of rfl (h _ (pmu2 61 rfl)), List.forall_mem_cons.mpr ⟨va_Nw.of rfl (h _ (pmu2 83 rfl)), List.forall_mem_cons.mpr ⟨va_Nw.of rfl (h _ (pmu1 35 rfl)), List.forall_mem_cons.mpr ⟨va_Nw.of rfl (h _ (pmu1 185 rfl)), fun _ h => absurd h List.not_mem_nil⟩⟩⟩⟩⟩⟩⟩⟩⟩⟩, va_AO.of (h _ (pmu2 31 rfl))⟩
theorem pnw_of {b : Nat} {s : State} (h : ∀ w ∈ lw_tbl, w.before #[Value.ref b] s = true) : pNw s := List.forall_mem_cons.mpr ⟨va_Nw.of rfl (h _ (pmu2 199 rfl)), List.forall_mem_cons.mpr ⟨va_Nw.of rfl (h _ (pmu3 65 rfl)), List.forall_mem_cons.mpr ⟨va_Nw.of rfl (h _ (pmu4 68 rfl)), List.forall_mem_cons.mpr ⟨va_Nw.of rfl (h _ (pmu5 205 rfl)), List.forall_mem_cons.mpr ⟨va_Nw.of rfl (h _ (pmu6 22 rfl)), List.forall_mem_cons.mpr ⟨va_Nw.of rfl (h _ (pmu4 115 rfl)), List.forall_mem_cons.mpr ⟨va_Nw.of rfl (h _ (pmu3 217 rfl)), List.forall_mem_cons.mpr ⟨va_Nw.of rfl (h _ (pmu5 161 rfl)), List.forall_mem_cons.mpr ⟨va_Nw.of rfl (h _ (pmu5 166 rfl)), List.forall_mem_cons.mpr ⟨va_Nw.of rfl (h _ (pmu4 191 rfl)), List.forall_mem_cons.mpr ⟨va_Nw.of rfl (h _ (pmu4 192 rfl)), List.forall_mem_cons.mpr ⟨va_Nw.of rfl (h _ (pmu4 216 rfl)), fun _ h => absurd h List.not_mem_nil⟩⟩⟩⟩⟩⟩⟩⟩⟩⟩⟩⟩
set_option maxRecDepth 100000 in
set_option maxHeartbeats 4000000 in
theorem pro_of {b : Nat} {s : State} (hts : ∀ w ∈ lw_tbl, w.before #[Value.ref b] s = true) (hg : (Jvm.Cond.and given_1 narrow_1).before #[Value.ref b] s = true) : ∃ ka kv : Nat, vk_S 1 [9] [sbyt] (fun _ => ka) (fun _ => kv) (fun q : Nat => s.heap.size ≤ q) s s.heap ∧ va_Z "java/lang/String" "COMPACT_STRINGS" "Z" (.int 1) (fun q : Nat => s.heap.size ≤ q) s s.heap ∧ vk_R RX7 130 "ibwgkrzdh" ka s := by
  have hs := flat_of_before _ hg
  have hA : ∀ a : Nat, a < s.heap.size → ¬ (s.heap.size ≤ a) := fun a h => Nat.not_le.mpr h
  have one : ∀ i : Nat, i < 1 → i = 0 := fun i h => by omega
  obtain ⟨adK, adV, h1, h2⟩ := vk_Sof (N := 1) (tm := fun _ => Term.string RX7 130) (len := [9]) (byt := [sbyt]) (args := #[Value.ref b]) (s := s) (A := fun q : Nat => s.heap.size ≤ q)
    (fun i h => by rw [one i h]; decide) (fun i h => hs _ (by decide +kernel)) (fun i h => hs _ (by decide +kernel)) (fun i h => hs _ (by decide +kernel)) (fun i h => by rw [one i h]; exact hs _ (by decide +kernel))
    (fun i h j hj => by
      rw [one i h] at hj ⊢
      have hj : j < 9 := hj
      rcases (show j = 0 ∨ j = 1 ∨ j = 2 ∨ j = 3 ∨ j = 4 ∨ j = 5 ∨ j = 6 ∨ j = 7 ∨ j = 8 by omega) with rfl | rfl | rfl | rfl | rfl | rfl | rfl | rfl | rfl
      all_goals exact hs _ (by decide +kernel)) (fun i j hi hj hne => absurd ((one i hi).trans (one j hj).symm) hne) hA
  refine ⟨adK 0, adV 0, ⟨fun i hi => ?_, fun i j hi hj _ => (one i hi).trans (one j hj).symm⟩, va_Zof (hts _ (pmu3 138 rfl)) (hts _ (pmu1 15 rfl)) ?_ hA, vk_R.of (hts _ (pmu3 124 rfl)) (h2 0 (by decide))⟩
  · have := h1.1 i hi
    rw [one i hi] at this ⊢
    exact this
  · have h3 : (Jvm.Cond.eq (Jvm.Term.static "java/lang/String" "COMPACT_STRINGS" "Z") (Jvm.Term.int (1 : Int32))).before #[Value.ref b] s = true := hs _ (by decide +kernel)
    obtain ⟨v, h4, h5⟩ := Cond.eq_one h3
    cases h5
    exact h4
set_option maxRecDepth 100000 in
set_option maxHeartbeats 4000000 in
theorem pth_of {b : Nat} {s : State} (hts : ∀ w ∈ lw_tbl, w.before #[Value.ref b] s = true) (hg : (Jvm.Cond.and given_1 narrow_1).before #[Value.ref b] s = true) : ∃ a1 a2 a3 : Nat, pTh (fun q : Nat => s.heap.size ≤ q) s s.heap a1 a2 a3 := by
  have hs := flat_of_before _ hg
  have hA : ∀ a : Nat, a < s.heap.size → ¬ (s.heap.size ≤ a) := fun a h => Nat.not_le.mpr h
  have hst : ∀ (k : Nat) (tx : String), (Cond.stringRef RX11 k tx).before #[Value.ref b] s = true → (Cond.exactly (.string RX11 k) "java/lang/String").before #[Value.ref b] s = true → ∃ a, vk_R RX11 k tx a s := by
    intro k tx h1 h2
    obtain ⟨a, h3⟩ := exactly_ref h2
    exact ⟨a, vk_R.of h1 h3⟩
  obtain ⟨a1, h1⟩ := hst 142 "no such room, or nothing told of it so" (hts _ (pmu6 87 rfl)) (hs _ (by decide +kernel))
  obtain ⟨a2, h2⟩ := hst 167 "no such thing, or nothing told of it so" (hts _ (pmu6 123 rfl)) (hs _ (by decide +kernel))
  obtain ⟨a3, h3⟩ := hst 440 "no such number in the row" (hts _ (pmu6 132 rfl)) (hs _ (by decide +kernel))
  exact ⟨a1, a2, a3, vx_Zqof (hts _ (pmu6 75 rfl)) (hts _ (pmu1 21 rfl)) (hs _ (by decide +kernel)) hA, vx_Zqof (hts _ (pmu6 77 rfl)) (hts _ (pmu1 21 rfl)) (hs _ (by decide +kernel)) hA, h1, h2, h3, va_Nw.of rfl (hts _ (pmu6 50 rfl)), List.forall_mem_cons.mpr ⟨va_Nw.of rfl (hts _ (pmu6 52 rfl)), List.forall_mem_cons.mpr ⟨va_Nw.of rfl (hts _ (pmu6 54 rfl)), List.forall_mem_cons.mpr ⟨va_Nw.of rfl (hts _ (pmu6 56 rfl)), fun _ h => absurd h List.not_mem_nil⟩⟩⟩⟩
set_option maxRecDepth 100000 in
set_option maxHeartbeats 8000000 in
/-- THE LAW from its entry, with any invariant of its turns -/
theorem law_main {p : Program} {e : Env} {s : State} {m : MethodId} {below : List Frame} {meth : Method} {c : Code} (l : Launch) (hflags : l.flags = flags0) {b L : Nat} {xs : Nat → Int32} (hL : L ≤ 2560) (C0 : lw_At p s m meth c b L xs) (Inv : Nat → pM → Prop) (hI : Inv 0 M0) (hstep : ∀ j M, Inv j M → 5 * j + 5 ≤ L → lawStep 1000 L xs Inv j M) : W p l e room_1 s m #[Value.ref b] below meth c s.heap [] 0 0 (lw_Z below #[Value.ref b] s) (entryFrame m ([Value.ref b] : List Value).toArray 7) := by
  obtain ⟨hx, hb, hr, hml, hown0, htsL, hX, hbl, hlocks, hgv⟩ := id C0
  have hown : s.vm.findClass RL = some m.cls := hown0
  have hp : ∀ w ∈ pws, w.before #[Value.ref b] s = true := fun w h => htsL w (pGood h).1
  have hni : pNi s := pni_of htsL
  have hnw : pNw s := pnw_of htsL
  obtain ⟨ka, kv, hRO1, hRO2, hRO3⟩ := pro_of htsL hgv
  obtain ⟨a1, a2, a3, hTh⟩ := pth_of htsL hgv
  have hA : ∀ q : Nat, s.heap.size ≤ q → (fun q : Nat => s.heap.size ≤ q) q := fun _ h => h
  have hbA : ¬ (fun q : Nat => s.heap.size ≤ q) b := Nat.not_le.mpr hbl
  obtain ⟨C0, S0, hKn0⟩ := u_known (C := RX0) (T := TX0) (N := 13) (n := 13) hp pin0 (hp _ (pmt1 100 rfl rfl))
  obtain ⟨C1, S1, hKn1⟩ := u_known (C := RX1) (T := TX1) (N := 1) (n := 1) hp pin1 (hp _ (pmt1 75 rfl rfl))
  obtain ⟨C2, S2, hKn2⟩ := u_known (C := RX2) (T := TX2) (N := 10) (n := 10) hp pin2 (hp _ (pmt2 82 rfl rfl))
  obtain ⟨C3, S3, hKn3⟩ := u_known (C := RX3) (T := TX3) (N := 6) (n := 6) hp pin3 (hp _ (pmt2 32 rfl rfl))
  obtain ⟨C4, S4, hKn4⟩ := u_known (C := RX4) (T := TX4) (N := 2) (n := 2) hp pin4 (hp _ (pmt1 85 rfl rfl))
  obtain ⟨C5, S5, hKn5⟩ := u_known (C := RX5) (T := TX5) (N := 4) (n := 4) hp pin5 (hp _ (pmt2 8 rfl rfl))
  obtain ⟨C6, S6, hKn6⟩ := u_known (C := RX6) (T := TX6) (N := 4) (n := 4) hp pin6 (hp _ (pmt1 52 rfl rfl))
  obtain ⟨C7, S7, hKn7⟩ := u_known (C := RX7) (T := TX7) (N := 3) (n := 3) hp pin7 (hp _ (pmt1 179 rfl rfl))
  obtain ⟨C8, S8, hKn8⟩ := u_known (C := RX8) (T := TX8) (N := 2) (n := 2) hp pin8 (hp _ (pmt1 34 rfl rfl))
  obtain ⟨C9, S9, hKn9⟩ := u_known (C := RX9) (T := TX9) (N := 4) (n := 4) hp pin9 (hp _ (pmt2 60 rfl rfl))
  obtain ⟨C10, S10, hKn10⟩ := u_known (C := RX10) (T := TX10) (N := 12) (n := 12) hp pin10 (hp _ (pmt1 200 rfl rfl))
  obtain ⟨C11, S11, hKn11⟩ := u_known (C := RX11) (T := TX11) (N := 18) (n := 18) hp pin11 (hp _ (pmt1 26 rfl rfl))
  obtain ⟨C12, S12, hKn12⟩ := u_known (C := RX12) (T := TX12) (N := 56) (n := 56) hp pin12 (hp _ (pmt6 134 rfl rfl))
  obtain ⟨G, hKc⟩ : ∃ G : va_G, ∀ (k : Nat) (q : vw_C), pcl[k]? = some q → u_Kn s q.1 q.2.1 q.2.2 (G.1 k) (G.2 k) := by
    refine ⟨(fun k => [C0, C1, C2, C3, C4, C5, C6, C7, C8, C9, C10, C11, C12].getD k C0, fun k => [S0, S1, S2, S3, S4, S5, S6, S7, S8, S9, S10, S11, S12].getD k S0), ?_⟩
    intro k q hq
    match k, hq with
    | 0, hq => cases hq; exact hKn0
    | 1, hq => cases hq; exact hKn1
    | 2, hq => cases hq; exact hKn2
    | 3, hq => cases hq; exact hKn3
    | 4, hq => cases hq; exact hKn4
    | 5, hq => cases hq; exact hKn5
    | 6, hq => cases hq; exact hKn6
    | 7, hq => cases hq; exact hKn7
    | 8, hq => cases hq; exact hKn8
    | 9, hq => cases hq; exact hKn9
    | 10, hq => cases hq; exact hKn10
    | 11, hq => cases hq; exact hKn11
    | 12, hq => cases hq; exact hKn12
    | k + 13, hq => simp [pcl] at hq
  have hS : va_S (fun q : Nat => s.heap.size ≤ q) s.heap s.heap [] := va_S.rf
  have hK : va_K G pcl [] s := ⟨hKc, fun k q h => by simp at h⟩
  have hP : va_P G pcl [] s.heap := fun k q h => by simp at h
  have hD : va_D (fun q : Nat => s.heap.size ≤ q) [] := ⟨fun i j p q h => by simp at h, fun k q h => by simp at h⟩
  have hl := lv_entry ([.ref b]) (n := 7) (Nat.le_of_ble_eq_true rfl)
  rw [lg_entry_eq]
  generalize (lg_sl ([.ref b]) ++ List.replicate (7 - (lg_sl ([.ref b])).length) Slot.unset).toArray = ls at hl ⊢
  have hl : lv_has ls 7 [(0, .ref b)] := hl
  refine va_new (ci := 11) (fs := [.null, .null, .null, .null, .null, .null, .null, .null, .null, .null, .null, .null, .null, .null, .int (iI 0), .int (iI 0), .int (iI 0), .int (iI 0)]) (C := RX11) (T := TX11) (N := 18) hx hb hp pin11 tyX11 tyX11_ok hown (hp _ (pmt1 25 rfl rfl)) (hp _ (pmt1 26 rfl rfl)) (hp _ (pmt1 1 rfl rfl)) hK hP hD hS hA rfl (show ∀ j, j < 18 → defaultValue (tyX11 j) = vp_V [.null, .null, .null, .null, .null, .null, .null, .null, .null, .null, .null, .null, .null, .null, .int (iI 0), .int (iI 0), .int (iI 0), .int (iI 0)] j by decide +kernel) (Nat.le_of_ble_eq_true rfl) (Nat.le_of_ble_eq_true rfl) (show decode code 0 = .ok (.new 8, 3) from dX_new (by decide +kernel)) (fun q1 H hP hD hS => ?_)
  have hP : va_P G pcl [(q1, .inr (11, [.null, .null, .null, .null, .null, .null, .null, .null, .null, .null, .null, .null, .null, .null, .int (iI 0), .int (iI 0), .int (iI 0), .int (iI 0)]))] H := hP
  have hD : va_D (fun q : Nat => s.heap.size ≤ q) [(q1, .inr (11, [.null, .null, .null, .null, .null, .null, .null, .null, .null, .null, .null, .null, .null, .null, .int (iI 0), .int (iI 0), .int (iI 0), .int (iI 0)]))] := hD
  refine W.widen (k := 1) (n := 18) (Nat.le_of_ble_eq_true rfl) (Nat.le_of_ble_eq_true rfl) ?_
  refine lv_dup hx hb (show decode code 3 = .ok (.dup, 1) from dX_dup (by decide +kernel)) rfl ?_
  have hPc := hP.sub (ws' := [(q1, .inr (11, [.null, .null, .null, .null, .null, .null, .null, .null, .null, .null, .null, .null, .null, .null, .int (iI 0), .int (iI 0), .int (iI 0), .int (iI 0)]))]) [0] rfl
  have hDc := hD.sub (ws' := [(q1, .inr (11, [.null, .null, .null, .null, .null, .null, .null, .null, .null, .null, .null, .null, .null, .null, .int (iI 0), .int (iI 0), .int (iI 0), .int (iI 0)]))]) [0] (by decide) rfl
  have hKc := hK.sub (tys' := []) [] rfl
  have hFc := va_free (wc := [(q1, .inr (11, [.null, .null, .null, .null, .null, .null, .null, .null, .null, .null, .null, .null, .null, .null, .int (iI 0), .int (iI 0), .int (iI 0), .int (iI 0)]))]) hD hS hA [0] rfl
  refine va_callv (va_runI (As := []) (rest := [.ref q1]) ⟨hx, hb, hml, hown, hp⟩ (ctor_11 l G q1 H.size) (cwI 0 hp (pgi (pmt1 29 rfl rfl)) rfl rfl rfl (hp _ (pmt1 1 rfl rfl)) (hp _ (pmt1 27 rfl rfl)) (hp _ (pmt1 28 rfl rfl)) rfl ⟨by decide +kernel, by decide +kernel, by decide +kernel⟩ ⟨Nat.le_of_ble_eq_true rfl, Nat.le_of_ble_eq_true rfl⟩) ⟨pCp_blind, fun U hU hW => ⟨rfl, by rw [hU], by rw [hU]; exact hPc, va_K.moved hW.alike hKc, hDc.weaken (fun _ _ _ _ => trivial), pNi_warm hW hni⟩⟩ rfl rfl hl.1 rfl (lv_room (Nat.le_of_ble_eq_true rfl)) (show decode code 4 = .ok (.invokespecial 22, 3) from dX_invokespecial (by decide +kernel)) ⟨Nat.le_of_ble_eq_true rfl, Nat.le_of_ble_eq_true rfl⟩) hS (fun q _ h => hFc q h) hFc (fun u t H1 locs ht hvm hw hB hz1 hk1 hS => ?_)
  refine Exists.elim hB (fun q2 hB => ?_)
  refine Exists.elim hB (fun q3 hB => ?_)
  refine Exists.elim hB (fun q4 hB => ?_)
  refine Exists.elim hB (fun q5 hB => ?_)
  refine Exists.elim hB (fun q6 hB => ?_)
  refine Exists.elim hB (fun q7 hB => ?_)
  refine Exists.elim hB (fun q8 hB => ?_)
  refine Exists.elim hB (fun q9 hB => ?_)
  refine Exists.elim hB (fun q10 hB => ?_)
  refine Exists.elim hB (fun q11 hB => ?_)
  refine Exists.elim hB (fun q12 hB => ?_)
  refine Exists.elim hB (fun q13 hB => ?_)
  refine Exists.elim hB (fun q14 hB => ?_)
  refine Exists.elim hB (fun q15 hB => ?_)
  refine Exists.elim hB (fun q16 hB => ?_)
  refine Exists.elim hB (fun q17 hB => ?_)
  refine Exists.elim hB (fun q18 hB => ?_)
  refine Exists.elim hB (fun q19 hB => ?_)
  refine Exists.elim hB (fun q20 hB => ?_)
  refine Exists.elim hB (fun q21 hB => ?_)
  refine Exists.elim hB (fun q22 hB => ?_)
  refine Exists.elim hB (fun q23 hB => ?_)
  refine Exists.elim hB (fun q24 hB => ?_)
  refine Exists.elim hB (fun q25 hB => ?_)
  refine Exists.elim hB (fun q26 hB => ?_)
  refine Exists.elim hB (fun q27 hB => ?_)
  refine Exists.elim hB (fun q28 hB => ?_)
  refine Exists.elim hB (fun q29 hB => ?_)
  refine Exists.elim hB (fun q30 hB => ?_)
  refine Exists.elim hB (fun q31 hB => ?_)
  refine Exists.elim hB (fun q32 hB => ?_)
  refine Exists.elim hB (fun q33 hB => ?_)
  refine Exists.elim hB (fun q34 hB => ?_)
  refine Exists.elim hB (fun q35 hB => ?_)
  refine Exists.elim hB (fun q36 hB => ?_)
  refine Exists.elim hB (fun q37 hB => ?_)
  refine Exists.elim hB (fun q38 hB => ?_)
  refine Exists.elim hB (fun q39 hB => ?_)
  refine Exists.elim hB (fun q40 hB => ?_)
  refine Exists.elim hB (fun q41 hB => ?_)
  refine Exists.elim hB (fun q42 hB => ?_)
  refine Exists.elim hB (fun q43 hB => ?_)
  refine Exists.elim hB (fun q44 hB => ?_)
  refine Exists.elim hB (fun q45 hB => ?_)
  refine Exists.elim hB (fun q46 hB => ?_)
  refine Exists.elim hB (fun q47 hB => ?_)
  refine Exists.elim hB (fun q48 hB => ?_)
  refine Exists.elim hB (fun q49 hB => ?_)
  refine Exists.elim hB (fun q50 hB => ?_)
  refine Exists.elim hB (fun q51 hB => ?_)
  refine Exists.elim hB (fun q52 hB => ?_)
  refine Exists.elim hB (fun q53 hB => ?_)
  refine Exists.elim hB (fun q54 hB => ?_)
  refine Exists.elim hB (fun q55 hB => ?_)
  refine Exists.elim hB (fun q56 hB => ?_)
  refine Exists.elim hB (fun q57 hB => ?_)
  refine Exists.elim hB (fun q58 hB => ?_)
  refine Exists.elim hB (fun q59 hB => ?_)
  refine Exists.elim hB (fun q60 hB => ?_)
  refine Exists.elim hB (fun c61 hB => ?_)
  refine Exists.elim hB (fun c62 hB => ?_)
  refine Exists.elim hB (fun c63 hB => ?_)
  refine Exists.elim hB (fun c64 hB => ?_)
  refine Exists.elim hB (fun c65 hB => ?_)
  refine Exists.elim hB (fun c66 hB => ?_)
  refine Exists.elim hB (fun c67 hB => ?_)
  refine Exists.elim hB (fun c68 hB => ?_)
  refine Exists.elim hB (fun c69 hB => ?_)
  refine Exists.elim hB (fun c70 hB => ?_)
  refine Exists.elim hB (fun c71 hB => ?_)
  refine Exists.elim hB (fun c72 hB => ?_)
  refine Exists.elim hB (fun c73 hB => ?_)
  refine Exists.elim hB (fun c74 hB => ?_)
  refine Exists.elim hB (fun c75 hB => ?_)
  refine Exists.elim hB (fun c76 hB => ?_)
  refine Exists.elim hB (fun c77 hB => ?_)
  refine Exists.elim hB (fun c78 hB => ?_)
  refine Exists.elim hB (fun c79 hB => ?_)
  refine Exists.elim hB (fun c80 hB => ?_)
  refine Exists.elim hB (fun c81 hB => ?_)
  refine Exists.elim hB (fun c82 hB => ?_)
  refine Exists.elim hB (fun c83 hB => ?_)
  refine Exists.elim hB (fun c84 hB => ?_)
  refine Exists.elim hB (fun c85 hB => ?_)
  refine Exists.elim hB (fun c86 hB => ?_)
  refine Exists.elim hB (fun c87 hB => ?_)
  refine Exists.elim hB (fun c88 hB => ?_)
  refine Exists.elim hB (fun c89 hB => ?_)
  refine Exists.elim hB (fun c90 hB => ?_)
  refine Exists.elim hB (fun c91 hB => ?_)
  refine Exists.elim hB (fun c92 hB => ?_)
  refine Exists.elim hB (fun c93 hB => ?_)
  refine Exists.elim hB (fun c94 hB => ?_)
  refine Exists.elim hB (fun c95 hB => ?_)
  refine Exists.elim hB (fun c96 hB => ?_)
  refine Exists.elim hB (fun c97 hB => ?_)
  refine Exists.elim hB (fun c98 hB => ?_)
  refine Exists.elim hB (fun c99 hB => ?_)
  refine Exists.elim hB (fun c100 hB => ?_)
  refine Exists.elim hB (fun c101 hB => ?_)
  refine Exists.elim hB (fun c102 hB => ?_)
  refine Exists.elim hB (fun c103 hB => ?_)
  refine Exists.elim hB (fun c104 hB => ?_)
  obtain ⟨hP1, hK1, hD1⟩ := hB
  rw [ht] at hP1
  have hK1 := va_K.moved hvm.symm hK1
  obtain ⟨hP, hD⟩ := va_join (wr := []) (w1 := [(q1, .inr (11, [.ref q2, .ref q4, .ref q5, .ref q6, .ref q8, .ref q18, .ref q28, .ref q33, .ref q40, .ref q44, .ref q49, .ref q53, .ref q59, .ref q60, .int (iI 0), .int (iI 0), .int (iI 0), .int (iI 999)])), (q2, .inr (8, [.ref q3, .int (iI 0)])), (q3, .inl (c61, 80, .inl (fun _ => iI 0))), (q4, .inr (6, [.ref q2, .int (iI 0), .int (iI 0), .int (iI (-1))])), (q5, .inr (1, [.ref q4])), (q6, .inr (4, [.ref q7, .int (iI 0)])), (q7, .inl (c62, 12, .inl (fun _ => iI 0))), (q8, .inr (0, [.ref q9, .ref q10, .ref q11, .ref q12, .ref q13, .ref q14, .ref q15, .ref q16, .ref q17, .int (iI 0), .int (iI 0), .int (iI 0), .int (iI 0)])), (q9, .inl (c63, 6, .inl (fun _ => iI 0))), (q10, .inl (c64, 36, .inl (fun _ => iI 0))), (q11, .inl (c65, 10, .inl (fun _ => iI 0))), (q12, .inl (c66, 10, .inl (fun _ => iI 0))), (q13, .inl (c67, 10, .inl (fun _ => iI 0))), (q14, .inl (c68, 10, .inl (fun _ => iI 0))), (q15, .inl (c69, 8, .inl (fun _ => iI 0))), (q16, .inl (c70, 10, .inl (fun _ => iI 0))), (q17, .inl (c71, 10, .inl (fun _ => iI 0))), (q18, .inr (0, [.ref q19, .ref q20, .ref q21, .ref q22, .ref q23, .ref q24, .ref q25, .ref q26, .ref q27, .int (iI 0), .int (iI 0), .int (iI 0), .int (iI 0)])), (q19, .inl (c72, 6, .inl (fun _ => iI 0))), (q20, .inl (c73, 36, .inl (fun _ => iI 0))), (q21, .inl (c74, 10, .inl (fun _ => iI 0))), (q22, .inl (c75, 10, .inl (fun _ => iI 0))), (q23, .inl (c76, 10, .inl (fun _ => iI 0))), (q24, .inl (c77, 10, .inl (fun _ => iI 0))), (q25, .inl (c78, 8, .inl (fun _ => iI 0))), (q26, .inl (c79, 10, .inl (fun _ => iI 0))), (q27, .inl (c80, 10, .inl (fun _ => iI 0))), (q28, .inr (7, [.ref q29, .ref q31, .ref q32])), (q29, .inr (8, [.ref q30, .int (iI 0)])), (q30, .inl (c81, 80, .inl (fun _ => iI 0))), (q31, .inr (6, [.ref q29, .int (iI 0), .int (iI 0), .int (iI (-1))])), (q32, .inl (c82, 9, .inl (fun _ => iI 0))), (q33, .inr (10, [.ref q34, .ref q35, .ref q36, .ref q37, .ref q38, .ref q39, .int (iI 0), .int (iI 0), .int (iI 0), .int (iI 0), .int (iI 0), .int (iI 0)])), (q34, .inl (c83, 6, .inl (fun _ => iI 0))), (q35, .inl (c84, 6, .inl (fun _ => iI 0))), (q36, .inl (c85, 10, .inl (fun _ => iI 0))), (q37, .inl (c86, 10, .inl (fun _ => iI 0))), (q38, .inl (c87, 60, .inl (fun _ => iI 0))), (q39, .inl (c88, 10, .inl (fun _ => iI 0))), (q40, .inr (5, [.ref q41, .ref q42, .ref q43, .int (iI 0)])), (q41, .inl (c89, 20, .inl (fun _ => iI 0))), (q42, .inl (c90, 20, .inl (fun _ => iI 0))), (q43, .inl (c91, 20, .inl (fun _ => iI 0))), (q44, .inl (c92, 2, .inr (.inr (.inr (.inr (va_up (va_up (fun _ => none) 0 (some q45)) 1 (some q47))))))), (q45, .inr (3, [.ref q46, .int (iI 0), .int (iI 0), .int (iI 0), .int (iI 0), .int (iI 0)])), (q46, .inl (c93, 10, .inl (fun _ => iI 0))), (q47, .inr (3, [.ref q48, .int (iI 0), .int (iI 0), .int (iI 0), .int (iI 0), .int (iI 0)])), (q48, .inl (c94, 10, .inl (fun _ => iI 0))), (q49, .inr (9, [.ref q50, .ref q51, .ref q52, .int (iI 0)])), (q50, .inl (c95, 1024, .inl (fun _ => iI 0))), (q51, .inl (c96, 10, .inl (fun _ => iI 0))), (q52, .inl (c97, 10, .inl (fun _ => iI 0))), (q53, .inr (2, [.ref q54, .ref q55, .ref q56, .ref q57, .ref q58, .int (iI 0), .int (iI 0), .int (iI 0), .int (iI 0), .int (iI 0)])), (q54, .inl (c98, 300, .inl (fun _ => iI 0))), (q55, .inl (c99, 360, .inl (fun _ => iI 0))), (q56, .inl (c100, 300, .inl (fun _ => iI 0))), (q57, .inl (c101, 300, .inl (fun _ => iI 0))), (q58, .inl (c102, 300, .inl (fun _ => iI 0))), (q59, .inl (c103, 10, .inl (fun _ => iI 0))), (q60, .inl (c104, 10, .inl (fun _ => iI 0)))]) hP hD [0] [] rfl rfl (by decide) (by decide) hk1 hFc hP1 hD1
  have hK := (hK.sub (tys' := []) [] rfl).app hK1
  generalize H1 = H at hP hS ⊢
  have hP : va_P G pcl [(q1, .inr (11, [.ref q2, .ref q4, .ref q5, .ref q6, .ref q8, .ref q18, .ref q28, .ref q33, .ref q40, .ref q44, .ref q49, .ref q53, .ref q59, .ref q60, .int (iI 0), .int (iI 0), .int (iI 0), .int (iI 999)])), (q2, .inr (8, [.ref q3, .int (iI 0)])), (q3, .inl (c61, 80, .inl (fun _ => iI 0))), (q4, .inr (6, [.ref q2, .int (iI 0), .int (iI 0), .int (iI (-1))])), (q5, .inr (1, [.ref q4])), (q6, .inr (4, [.ref q7, .int (iI 0)])), (q7, .inl (c62, 12, .inl (fun _ => iI 0))), (q8, .inr (0, [.ref q9, .ref q10, .ref q11, .ref q12, .ref q13, .ref q14, .ref q15, .ref q16, .ref q17, .int (iI 0), .int (iI 0), .int (iI 0), .int (iI 0)])), (q9, .inl (c63, 6, .inl (fun _ => iI 0))), (q10, .inl (c64, 36, .inl (fun _ => iI 0))), (q11, .inl (c65, 10, .inl (fun _ => iI 0))), (q12, .inl (c66, 10, .inl (fun _ => iI 0))), (q13, .inl (c67, 10, .inl (fun _ => iI 0))), (q14, .inl (c68, 10, .inl (fun _ => iI 0))), (q15, .inl (c69, 8, .inl (fun _ => iI 0))), (q16, .inl (c70, 10, .inl (fun _ => iI 0))), (q17, .inl (c71, 10, .inl (fun _ => iI 0))), (q18, .inr (0, [.ref q19, .ref q20, .ref q21, .ref q22, .ref q23, .ref q24, .ref q25, .ref q26, .ref q27, .int (iI 0), .int (iI 0), .int (iI 0), .int (iI 0)])), (q19, .inl (c72, 6, .inl (fun _ => iI 0))), (q20, .inl (c73, 36, .inl (fun _ => iI 0))), (q21, .inl (c74, 10, .inl (fun _ => iI 0))), (q22, .inl (c75, 10, .inl (fun _ => iI 0))), (q23, .inl (c76, 10, .inl (fun _ => iI 0))), (q24, .inl (c77, 10, .inl (fun _ => iI 0))), (q25, .inl (c78, 8, .inl (fun _ => iI 0))), (q26, .inl (c79, 10, .inl (fun _ => iI 0))), (q27, .inl (c80, 10, .inl (fun _ => iI 0))), (q28, .inr (7, [.ref q29, .ref q31, .ref q32])), (q29, .inr (8, [.ref q30, .int (iI 0)])), (q30, .inl (c81, 80, .inl (fun _ => iI 0))), (q31, .inr (6, [.ref q29, .int (iI 0), .int (iI 0), .int (iI (-1))])), (q32, .inl (c82, 9, .inl (fun _ => iI 0))), (q33, .inr (10, [.ref q34, .ref q35, .ref q36, .ref q37, .ref q38, .ref q39, .int (iI 0), .int (iI 0), .int (iI 0), .int (iI 0), .int (iI 0), .int (iI 0)])), (q34, .inl (c83, 6, .inl (fun _ => iI 0))), (q35, .inl (c84, 6, .inl (fun _ => iI 0))), (q36, .inl (c85, 10, .inl (fun _ => iI 0))), (q37, .inl (c86, 10, .inl (fun _ => iI 0))), (q38, .inl (c87, 60, .inl (fun _ => iI 0))), (q39, .inl (c88, 10, .inl (fun _ => iI 0))), (q40, .inr (5, [.ref q41, .ref q42, .ref q43, .int (iI 0)])), (q41, .inl (c89, 20, .inl (fun _ => iI 0))), (q42, .inl (c90, 20, .inl (fun _ => iI 0))), (q43, .inl (c91, 20, .inl (fun _ => iI 0))), (q44, .inl (c92, 2, .inr (.inr (.inr (.inr (va_up (va_up (fun _ => none) 0 (some q45)) 1 (some q47))))))), (q45, .inr (3, [.ref q46, .int (iI 0), .int (iI 0), .int (iI 0), .int (iI 0), .int (iI 0)])), (q46, .inl (c93, 10, .inl (fun _ => iI 0))), (q47, .inr (3, [.ref q48, .int (iI 0), .int (iI 0), .int (iI 0), .int (iI 0), .int (iI 0)])), (q48, .inl (c94, 10, .inl (fun _ => iI 0))), (q49, .inr (9, [.ref q50, .ref q51, .ref q52, .int (iI 0)])), (q50, .inl (c95, 1024, .inl (fun _ => iI 0))), (q51, .inl (c96, 10, .inl (fun _ => iI 0))), (q52, .inl (c97, 10, .inl (fun _ => iI 0))), (q53, .inr (2, [.ref q54, .ref q55, .ref q56, .ref q57, .ref q58, .int (iI 0), .int (iI 0), .int (iI 0), .int (iI 0), .int (iI 0)])), (q54, .inl (c98, 300, .inl (fun _ => iI 0))), (q55, .inl (c99, 360, .inl (fun _ => iI 0))), (q56, .inl (c100, 300, .inl (fun _ => iI 0))), (q57, .inl (c101, 300, .inl (fun _ => iI 0))), (q58, .inl (c102, 300, .inl (fun _ => iI 0))), (q59, .inl (c103, 10, .inl (fun _ => iI 0))), (q60, .inl (c104, 10, .inl (fun _ => iI 0)))] H := hP
  have hD : va_D (fun q : Nat => s.heap.size ≤ q) [(q1, .inr (11, [.ref q2, .ref q4, .ref q5, .ref q6, .ref q8, .ref q18, .ref q28, .ref q33, .ref q40, .ref q44, .ref q49, .ref q53, .ref q59, .ref q60, .int (iI 0), .int (iI 0), .int (iI 0), .int (iI 999)])), (q2, .inr (8, [.ref q3, .int (iI 0)])), (q3, .inl (c61, 80, .inl (fun _ => iI 0))), (q4, .inr (6, [.ref q2, .int (iI 0), .int (iI 0), .int (iI (-1))])), (q5, .inr (1, [.ref q4])), (q6, .inr (4, [.ref q7, .int (iI 0)])), (q7, .inl (c62, 12, .inl (fun _ => iI 0))), (q8, .inr (0, [.ref q9, .ref q10, .ref q11, .ref q12, .ref q13, .ref q14, .ref q15, .ref q16, .ref q17, .int (iI 0), .int (iI 0), .int (iI 0), .int (iI 0)])), (q9, .inl (c63, 6, .inl (fun _ => iI 0))), (q10, .inl (c64, 36, .inl (fun _ => iI 0))), (q11, .inl (c65, 10, .inl (fun _ => iI 0))), (q12, .inl (c66, 10, .inl (fun _ => iI 0))), (q13, .inl (c67, 10, .inl (fun _ => iI 0))), (q14, .inl (c68, 10, .inl (fun _ => iI 0))), (q15, .inl (c69, 8, .inl (fun _ => iI 0))), (q16, .inl (c70, 10, .inl (fun _ => iI 0))), (q17, .inl (c71, 10, .inl (fun _ => iI 0))), (q18, .inr (0, [.ref q19, .ref q20, .ref q21, .ref q22, .ref q23, .ref q24, .ref q25, .ref q26, .ref q27, .int (iI 0), .int (iI 0), .int (iI 0), .int (iI 0)])), (q19, .inl (c72, 6, .inl (fun _ => iI 0))), (q20, .inl (c73, 36, .inl (fun _ => iI 0))), (q21, .inl (c74, 10, .inl (fun _ => iI 0))), (q22, .inl (c75, 10, .inl (fun _ => iI 0))), (q23, .inl (c76, 10, .inl (fun _ => iI 0))), (q24, .inl (c77, 10, .inl (fun _ => iI 0))), (q25, .inl (c78, 8, .inl (fun _ => iI 0))), (q26, .inl (c79, 10, .inl (fun _ => iI 0))), (q27, .inl (c80, 10, .inl (fun _ => iI 0))), (q28, .inr (7, [.ref q29, .ref q31, .ref q32])), (q29, .inr (8, [.ref q30, .int (iI 0)])), (q30, .inl (c81, 80, .inl (fun _ => iI 0))), (q31, .inr (6, [.ref q29, .int (iI 0), .int (iI 0), .int (iI (-1))])), (q32, .inl (c82, 9, .inl (fun _ => iI 0))), (q33, .inr (10, [.ref q34, .ref q35, .ref q36, .ref q37, .ref q38, .ref q39, .int (iI 0), .int (iI 0), .int (iI 0), .int (iI 0), .int (iI 0), .int (iI 0)])), (q34, .inl (c83, 6, .inl (fun _ => iI 0))), (q35, .inl (c84, 6, .inl (fun _ => iI 0))), (q36, .inl (c85, 10, .inl (fun _ => iI 0))), (q37, .inl (c86, 10, .inl (fun _ => iI 0))), (q38, .inl (c87, 60, .inl (fun _ => iI 0))), (q39, .inl (c88, 10, .inl (fun _ => iI 0))), (q40, .inr (5, [.ref q41, .ref q42, .ref q43, .int (iI 0)])), (q41, .inl (c89, 20, .inl (fun _ => iI 0))), (q42, .inl (c90, 20, .inl (fun _ => iI 0))), (q43, .inl (c91, 20, .inl (fun _ => iI 0))), (q44, .inl (c92, 2, .inr (.inr (.inr (.inr (va_up (va_up (fun _ => none) 0 (some q45)) 1 (some q47))))))), (q45, .inr (3, [.ref q46, .int (iI 0), .int (iI 0), .int (iI 0), .int (iI 0), .int (iI 0)])), (q46, .inl (c93, 10, .inl (fun _ => iI 0))), (q47, .inr (3, [.ref q48, .int (iI 0), .int (iI 0), .int (iI 0), .int (iI 0), .int (iI 0)])), (q48, .inl (c94, 10, .inl (fun _ => iI 0))), (q49, .inr (9, [.ref q50, .ref q51, .ref q52, .int (iI 0)])), (q50, .inl (c95, 1024, .inl (fun _ => iI 0))), (q51, .inl (c96, 10, .inl (fun _ => iI 0))), (q52, .inl (c97, 10, .inl (fun _ => iI 0))), (q53, .inr (2, [.ref q54, .ref q55, .ref q56, .ref q57, .ref q58, .int (iI 0), .int (iI 0), .int (iI 0), .int (iI 0), .int (iI 0)])), (q54, .inl (c98, 300, .inl (fun _ => iI 0))), (q55, .inl (c99, 360, .inl (fun _ => iI 0))), (q56, .inl (c100, 300, .inl (fun _ => iI 0))), (q57, .inl (c101, 300, .inl (fun _ => iI 0))), (q58, .inl (c102, 300, .inl (fun _ => iI 0))), (q59, .inl (c103, 10, .inl (fun _ => iI 0))), (q60, .inl (c104, 10, .inl (fun _ => iI 0)))] := hD
  have hK : va_K G pcl [(c61, .int), (c62, .int), (c63, .int), (c64, .int), (c65, .int), (c66, .int), (c67, .int), (c68, .int), (c69, .int), (c70, .int), (c71, .int), (c72, .int), (c73, .int), (c74, .int), (c75, .int), (c76, .int), (c77, .int), (c78, .int), (c79, .int), (c80, .int), (c81, .int), (c82, .int), (c83, .int), (c84, .int), (c85, .int), (c86, .int), (c87, .int), (c88, .int), (c89, .int), (c90, .int), (c91, .int), (c92, .object "SetsStayTogether$Kept"), (c93, .int), (c94, .int), (c95, .boolean), (c96, .int), (c97, .int), (c98, .int), (c99, .int), (c100, .int), (c101, .int), (c102, .int), (c103, .int), (c104, .int)] s := hK
  refine W.widen (k := 60) (n := 3313) (Nat.le_of_ble_eq_true rfl) (Nat.le_of_ble_eq_true rfl) ?_
  refine lv_astore_n (k := 1) (lv' := [(1, .ref q1), (0, .ref b)]) hx hb (show decode code 7 = .ok (.astore_n 1, 1) by decide +kernel) rfl hl (by decide) rfl (fun ls hl => ?_)
  refine va_new (ci := 12) (fs := [.int (iI 0), .null, .null, .int (iI 0), .null, .null, .null, .null, .int (iI 0), .null, .int (iI 0), .int (iI 0), .int (iI 0), .null, .int (iI 0), .null, .int (iI 0), .int (iI 0), .null, .int (iI 0), .int (iI 0), .int (iI 0), .int (iI 0), .null, .null, .int (iI 0), .int (iI 0), .int (iI 0), .null, .null, .int (iI 0), .null, .null, .int (iI 0), .null, .null, .null, .null, .int (iI 0), .int (iI 0), .int (iI 0), .null, .null, .int (iI 0), .int (iI 0), .null, .null, .null, .int (iI 0), .int (iI 0), .null, .null, .int (iI 0), .null, .null, .null]) (C := RX12) (T := TX12) (N := 56) hx hb hp pin12 tyX12 tyX12_ok hown (hp _ (pmt6 133 rfl rfl)) (hp _ (pmt6 134 rfl rfl)) (hp _ (pmt1 13 rfl rfl)) hK hP hD hS hA rfl (show ∀ j, j < 56 → defaultValue (tyX12 j) = vp_V [.int (iI 0), .null, .null, .int (iI 0), .null, .null, .null, .null, .int (iI 0), .null, .int (iI 0), .int (iI 0), .int (iI 0), .null, .int (iI 0), .null, .int (iI 0), .int (iI 0), .null, .int (iI 0), .int (iI 0), .int (iI 0), .int (iI 0), .null, .null, .int (iI 0), .int (iI 0), .int (iI 0), .null, .null, .int (iI 0), .null, .null, .int (iI 0), .null, .null, .null, .null, .int (iI 0), .int (iI 0), .int (iI 0), .null, .null, .int (iI 0), .int (iI 0), .null, .null, .null, .int (iI 0), .int (iI 0), .null, .null, .int (iI 0), .null, .null, .null] j by decide +kernel) (Nat.le_of_ble_eq_true rfl) (Nat.le_of_ble_eq_true rfl) (show decode code 8 = .ok (.new 23, 3) from dX_new (by decide +kernel)) (fun q105 H hP hD hS => ?_)
  have hP : va_P G pcl [(q1, .inr (11, [.ref q2, .ref q4, .ref q5, .ref q6, .ref q8, .ref q18, .ref q28, .ref q33, .ref q40, .ref q44, .ref q49, .ref q53, .ref q59, .ref q60, .int (iI 0), .int (iI 0), .int (iI 0), .int (iI 999)])), (q2, .inr (8, [.ref q3, .int (iI 0)])), (q3, .inl (c61, 80, .inl (fun _ => iI 0))), (q4, .inr (6, [.ref q2, .int (iI 0), .int (iI 0), .int (iI (-1))])), (q5, .inr (1, [.ref q4])), (q6, .inr (4, [.ref q7, .int (iI 0)])), (q7, .inl (c62, 12, .inl (fun _ => iI 0))), (q8, .inr (0, [.ref q9, .ref q10, .ref q11, .ref q12, .ref q13, .ref q14, .ref q15, .ref q16, .ref q17, .int (iI 0), .int (iI 0), .int (iI 0), .int (iI 0)])), (q9, .inl (c63, 6, .inl (fun _ => iI 0))), (q10, .inl (c64, 36, .inl (fun _ => iI 0))), (q11, .inl (c65, 10, .inl (fun _ => iI 0))), (q12, .inl (c66, 10, .inl (fun _ => iI 0))), (q13, .inl (c67, 10, .inl (fun _ => iI 0))), (q14, .inl (c68, 10, .inl (fun _ => iI 0))), (q15, .inl (c69, 8, .inl (fun _ => iI 0))), (q16, .inl (c70, 10, .inl (fun _ => iI 0))), (q17, .inl (c71, 10, .inl (fun _ => iI 0))), (q18, .inr (0, [.ref q19, .ref q20, .ref q21, .ref q22, .ref q23, .ref q24, .ref q25, .ref q26, .ref q27, .int (iI 0), .int (iI 0), .int (iI 0), .int (iI 0)])), (q19, .inl (c72, 6, .inl (fun _ => iI 0))), (q20, .inl (c73, 36, .inl (fun _ => iI 0))), (q21, .inl (c74, 10, .inl (fun _ => iI 0))), (q22, .inl (c75, 10, .inl (fun _ => iI 0))), (q23, .inl (c76, 10, .inl (fun _ => iI 0))), (q24, .inl (c77, 10, .inl (fun _ => iI 0))), (q25, .inl (c78, 8, .inl (fun _ => iI 0))), (q26, .inl (c79, 10, .inl (fun _ => iI 0))), (q27, .inl (c80, 10, .inl (fun _ => iI 0))), (q28, .inr (7, [.ref q29, .ref q31, .ref q32])), (q29, .inr (8, [.ref q30, .int (iI 0)])), (q30, .inl (c81, 80, .inl (fun _ => iI 0))), (q31, .inr (6, [.ref q29, .int (iI 0), .int (iI 0), .int (iI (-1))])), (q32, .inl (c82, 9, .inl (fun _ => iI 0))), (q33, .inr (10, [.ref q34, .ref q35, .ref q36, .ref q37, .ref q38, .ref q39, .int (iI 0), .int (iI 0), .int (iI 0), .int (iI 0), .int (iI 0), .int (iI 0)])), (q34, .inl (c83, 6, .inl (fun _ => iI 0))), (q35, .inl (c84, 6, .inl (fun _ => iI 0))), (q36, .inl (c85, 10, .inl (fun _ => iI 0))), (q37, .inl (c86, 10, .inl (fun _ => iI 0))), (q38, .inl (c87, 60, .inl (fun _ => iI 0))), (q39, .inl (c88, 10, .inl (fun _ => iI 0))), (q40, .inr (5, [.ref q41, .ref q42, .ref q43, .int (iI 0)])), (q41, .inl (c89, 20, .inl (fun _ => iI 0))), (q42, .inl (c90, 20, .inl (fun _ => iI 0))), (q43, .inl (c91, 20, .inl (fun _ => iI 0))), (q44, .inl (c92, 2, .inr (.inr (.inr (.inr (va_up (va_up (fun _ => none) 0 (some q45)) 1 (some q47))))))), (q45, .inr (3, [.ref q46, .int (iI 0), .int (iI 0), .int (iI 0), .int (iI 0), .int (iI 0)])), (q46, .inl (c93, 10, .inl (fun _ => iI 0))), (q47, .inr (3, [.ref q48, .int (iI 0), .int (iI 0), .int (iI 0), .int (iI 0), .int (iI 0)])), (q48, .inl (c94, 10, .inl (fun _ => iI 0))), (q49, .inr (9, [.ref q50, .ref q51, .ref q52, .int (iI 0)])), (q50, .inl (c95, 1024, .inl (fun _ => iI 0))), (q51, .inl (c96, 10, .inl (fun _ => iI 0))), (q52, .inl (c97, 10, .inl (fun _ => iI 0))), (q53, .inr (2, [.ref q54, .ref q55, .ref q56, .ref q57, .ref q58, .int (iI 0), .int (iI 0), .int (iI 0), .int (iI 0), .int (iI 0)])), (q54, .inl (c98, 300, .inl (fun _ => iI 0))), (q55, .inl (c99, 360, .inl (fun _ => iI 0))), (q56, .inl (c100, 300, .inl (fun _ => iI 0))), (q57, .inl (c101, 300, .inl (fun _ => iI 0))), (q58, .inl (c102, 300, .inl (fun _ => iI 0))), (q59, .inl (c103, 10, .inl (fun _ => iI 0))), (q60, .inl (c104, 10, .inl (fun _ => iI 0))), (q105, .inr (12, [.int (iI 0), .null, .null, .int (iI 0), .null, .null, .null, .null, .int (iI 0), .null, .int (iI 0), .int (iI 0), .int (iI 0), .null, .int (iI 0), .null, .int (iI 0), .int (iI 0), .null, .int (iI 0), .int (iI 0), .int (iI 0), .int (iI 0), .null, .null, .int (iI 0), .int (iI 0), .int (iI 0), .null, .null, .int (iI 0), .null, .null, .int (iI 0), .null, .null, .null, .null, .int (iI 0), .int (iI 0), .int (iI 0), .null, .null, .int (iI 0), .int (iI 0), .null, .null, .null, .int (iI 0), .int (iI 0), .null, .null, .int (iI 0), .null, .null, .null]))] H := hP
  have hD : va_D (fun q : Nat => s.heap.size ≤ q) [(q1, .inr (11, [.ref q2, .ref q4, .ref q5, .ref q6, .ref q8, .ref q18, .ref q28, .ref q33, .ref q40, .ref q44, .ref q49, .ref q53, .ref q59, .ref q60, .int (iI 0), .int (iI 0), .int (iI 0), .int (iI 999)])), (q2, .inr (8, [.ref q3, .int (iI 0)])), (q3, .inl (c61, 80, .inl (fun _ => iI 0))), (q4, .inr (6, [.ref q2, .int (iI 0), .int (iI 0), .int (iI (-1))])), (q5, .inr (1, [.ref q4])), (q6, .inr (4, [.ref q7, .int (iI 0)])), (q7, .inl (c62, 12, .inl (fun _ => iI 0))), (q8, .inr (0, [.ref q9, .ref q10, .ref q11, .ref q12, .ref q13, .ref q14, .ref q15, .ref q16, .ref q17, .int (iI 0), .int (iI 0), .int (iI 0), .int (iI 0)])), (q9, .inl (c63, 6, .inl (fun _ => iI 0))), (q10, .inl (c64, 36, .inl (fun _ => iI 0))), (q11, .inl (c65, 10, .inl (fun _ => iI 0))), (q12, .inl (c66, 10, .inl (fun _ => iI 0))), (q13, .inl (c67, 10, .inl (fun _ => iI 0))), (q14, .inl (c68, 10, .inl (fun _ => iI 0))), (q15, .inl (c69, 8, .inl (fun _ => iI 0))), (q16, .inl (c70, 10, .inl (fun _ => iI 0))), (q17, .inl (c71, 10, .inl (fun _ => iI 0))), (q18, .inr (0, [.ref q19, .ref q20, .ref q21, .ref q22, .ref q23, .ref q24, .ref q25, .ref q26, .ref q27, .int (iI 0), .int (iI 0), .int (iI 0), .int (iI 0)])), (q19, .inl (c72, 6, .inl (fun _ => iI 0))), (q20, .inl (c73, 36, .inl (fun _ => iI 0))), (q21, .inl (c74, 10, .inl (fun _ => iI 0))), (q22, .inl (c75, 10, .inl (fun _ => iI 0))), (q23, .inl (c76, 10, .inl (fun _ => iI 0))), (q24, .inl (c77, 10, .inl (fun _ => iI 0))), (q25, .inl (c78, 8, .inl (fun _ => iI 0))), (q26, .inl (c79, 10, .inl (fun _ => iI 0))), (q27, .inl (c80, 10, .inl (fun _ => iI 0))), (q28, .inr (7, [.ref q29, .ref q31, .ref q32])), (q29, .inr (8, [.ref q30, .int (iI 0)])), (q30, .inl (c81, 80, .inl (fun _ => iI 0))), (q31, .inr (6, [.ref q29, .int (iI 0), .int (iI 0), .int (iI (-1))])), (q32, .inl (c82, 9, .inl (fun _ => iI 0))), (q33, .inr (10, [.ref q34, .ref q35, .ref q36, .ref q37, .ref q38, .ref q39, .int (iI 0), .int (iI 0), .int (iI 0), .int (iI 0), .int (iI 0), .int (iI 0)])), (q34, .inl (c83, 6, .inl (fun _ => iI 0))), (q35, .inl (c84, 6, .inl (fun _ => iI 0))), (q36, .inl (c85, 10, .inl (fun _ => iI 0))), (q37, .inl (c86, 10, .inl (fun _ => iI 0))), (q38, .inl (c87, 60, .inl (fun _ => iI 0))), (q39, .inl (c88, 10, .inl (fun _ => iI 0))), (q40, .inr (5, [.ref q41, .ref q42, .ref q43, .int (iI 0)])), (q41, .inl (c89, 20, .inl (fun _ => iI 0))), (q42, .inl (c90, 20, .inl (fun _ => iI 0))), (q43, .inl (c91, 20, .inl (fun _ => iI 0))), (q44, .inl (c92, 2, .inr (.inr (.inr (.inr (va_up (va_up (fun _ => none) 0 (some q45)) 1 (some q47))))))), (q45, .inr (3, [.ref q46, .int (iI 0), .int (iI 0), .int (iI 0), .int (iI 0), .int (iI 0)])), (q46, .inl (c93, 10, .inl (fun _ => iI 0))), (q47, .inr (3, [.ref q48, .int (iI 0), .int (iI 0), .int (iI 0), .int (iI 0), .int (iI 0)])), (q48, .inl (c94, 10, .inl (fun _ => iI 0))), (q49, .inr (9, [.ref q50, .ref q51, .ref q52, .int (iI 0)])), (q50, .inl (c95, 1024, .inl (fun _ => iI 0))), (q51, .inl (c96, 10, .inl (fun _ => iI 0))), (q52, .inl (c97, 10, .inl (fun _ => iI 0))), (q53, .inr (2, [.ref q54, .ref q55, .ref q56, .ref q57, .ref q58, .int (iI 0), .int (iI 0), .int (iI 0), .int (iI 0), .int (iI 0)])), (q54, .inl (c98, 300, .inl (fun _ => iI 0))), (q55, .inl (c99, 360, .inl (fun _ => iI 0))), (q56, .inl (c100, 300, .inl (fun _ => iI 0))), (q57, .inl (c101, 300, .inl (fun _ => iI 0))), (q58, .inl (c102, 300, .inl (fun _ => iI 0))), (q59, .inl (c103, 10, .inl (fun _ => iI 0))), (q60, .inl (c104, 10, .inl (fun _ => iI 0))), (q105, .inr (12, [.int (iI 0), .null, .null, .int (iI 0), .null, .null, .null, .null, .int (iI 0), .null, .int (iI 0), .int (iI 0), .int (iI 0), .null, .int (iI 0), .null, .int (iI 0), .int (iI 0), .null, .int (iI 0), .int (iI 0), .int (iI 0), .int (iI 0), .null, .null, .int (iI 0), .int (iI 0), .int (iI 0), .null, .null, .int (iI 0), .null, .null, .int (iI 0), .null, .null, .null, .null, .int (iI 0), .int (iI 0), .int (iI 0), .null, .null, .int (iI 0), .int (iI 0), .null, .null, .null, .int (iI 0), .int (iI 0), .null, .null, .int (iI 0), .null, .null, .null]))] := hD
  refine W.widen (k := 61) (n := 3369) (Nat.le_of_ble_eq_true rfl) (Nat.le_of_ble_eq_true rfl) ?_
  refine lv_dup hx hb (show decode code 11 = .ok (.dup, 1) from dX_dup (by decide +kernel)) rfl ?_
  have hPc := hP.sub (ws' := [(q105, .inr (12, [.int (iI 0), .null, .null, .int (iI 0), .null, .null, .null, .null, .int (iI 0), .null, .int (iI 0), .int (iI 0), .int (iI 0), .null, .int (iI 0), .null, .int (iI 0), .int (iI 0), .null, .int (iI 0), .int (iI 0), .int (iI 0), .int (iI 0), .null, .null, .int (iI 0), .int (iI 0), .int (iI 0), .null, .null, .int (iI 0), .null, .null, .int (iI 0), .null, .null, .null, .null, .int (iI 0), .int (iI 0), .int (iI 0), .null, .null, .int (iI 0), .int (iI 0), .null, .null, .null, .int (iI 0), .int (iI 0), .null, .null, .int (iI 0), .null, .null, .null]))]) [60] rfl
  have hDc := hD.sub (ws' := [(q105, .inr (12, [.int (iI 0), .null, .null, .int (iI 0), .null, .null, .null, .null, .int (iI 0), .null, .int (iI 0), .int (iI 0), .int (iI 0), .null, .int (iI 0), .null, .int (iI 0), .int (iI 0), .null, .int (iI 0), .int (iI 0), .int (iI 0), .int (iI 0), .null, .null, .int (iI 0), .int (iI 0), .int (iI 0), .null, .null, .int (iI 0), .null, .null, .int (iI 0), .null, .null, .null, .null, .int (iI 0), .int (iI 0), .int (iI 0), .null, .null, .int (iI 0), .int (iI 0), .null, .null, .null, .int (iI 0), .int (iI 0), .null, .null, .int (iI 0), .null, .null, .null]))]) [60] (by decide) rfl
  have hKc := hK.sub (tys' := []) [] rfl
  have hFc := va_free (wc := [(q105, .inr (12, [.int (iI 0), .null, .null, .int (iI 0), .null, .null, .null, .null, .int (iI 0), .null, .int (iI 0), .int (iI 0), .int (iI 0), .null, .int (iI 0), .null, .int (iI 0), .int (iI 0), .null, .int (iI 0), .int (iI 0), .int (iI 0), .int (iI 0), .null, .null, .int (iI 0), .int (iI 0), .int (iI 0), .null, .null, .int (iI 0), .null, .null, .int (iI 0), .null, .null, .null, .null, .int (iI 0), .int (iI 0), .int (iI 0), .null, .null, .int (iI 0), .int (iI 0), .null, .null, .null, .int (iI 0), .int (iI 0), .null, .null, .int (iI 0), .null, .null, .null]))]) hD hS hA [60] rfl
  refine va_callv (va_runI (As := []) (rest := [.ref q105]) ⟨hx, hb, hml, hown, hp⟩ (ctor_12 l G q105 H.size) (cwI 0 hp (pgi (pmt6 137 rfl rfl)) rfl rfl rfl (hp _ (pmt1 13 rfl rfl)) (hp _ (pmt6 135 rfl rfl)) (hp _ (pmt6 136 rfl rfl)) rfl ⟨by decide +kernel, by decide +kernel, by decide +kernel⟩ ⟨Nat.le_of_ble_eq_true rfl, Nat.le_of_ble_eq_true rfl⟩) ⟨pCp_blind, fun U hU hW => ⟨rfl, by rw [hU], by rw [hU]; exact hPc, va_K.moved hW.alike hKc, hDc.weaken (fun _ _ _ _ => trivial), pNi_warm hW hni⟩⟩ rfl rfl hl.1 rfl (lv_room (Nat.le_of_ble_eq_true rfl)) (show decode code 12 = .ok (.invokespecial 25, 3) from dX_invokespecial (by decide +kernel)) ⟨Nat.le_of_ble_eq_true rfl, Nat.le_of_ble_eq_true rfl⟩) hS (fun q _ h => hFc q h) hFc (fun u t H1 locs ht hvm hw hB hz1 hk1 hS => ?_)
  refine Exists.elim hB (fun q106 hB => ?_)
  refine Exists.elim hB (fun q107 hB => ?_)
  refine Exists.elim hB (fun q108 hB => ?_)
  refine Exists.elim hB (fun q109 hB => ?_)
  refine Exists.elim hB (fun q110 hB => ?_)
  refine Exists.elim hB (fun q111 hB => ?_)
  refine Exists.elim hB (fun q112 hB => ?_)
  refine Exists.elim hB (fun q113 hB => ?_)
  refine Exists.elim hB (fun q114 hB => ?_)
  refine Exists.elim hB (fun q115 hB => ?_)
  refine Exists.elim hB (fun q116 hB => ?_)
  refine Exists.elim hB (fun q117 hB => ?_)
  refine Exists.elim hB (fun q118 hB => ?_)
  refine Exists.elim hB (fun q119 hB => ?_)
  refine Exists.elim hB (fun q120 hB => ?_)
  refine Exists.elim hB (fun q121 hB => ?_)
  refine Exists.elim hB (fun q122 hB => ?_)
  refine Exists.elim hB (fun q123 hB => ?_)
  refine Exists.elim hB (fun q124 hB => ?_)
  refine Exists.elim hB (fun q125 hB => ?_)
  refine Exists.elim hB (fun q126 hB => ?_)
  refine Exists.elim hB (fun q127 hB => ?_)
  refine Exists.elim hB (fun q128 hB => ?_)
  refine Exists.elim hB (fun q129 hB => ?_)
  refine Exists.elim hB (fun q130 hB => ?_)
  refine Exists.elim hB (fun q131 hB => ?_)
  refine Exists.elim hB (fun q132 hB => ?_)
  refine Exists.elim hB (fun q133 hB => ?_)
  refine Exists.elim hB (fun q134 hB => ?_)
  refine Exists.elim hB (fun c135 hB => ?_)
  refine Exists.elim hB (fun c136 hB => ?_)
  refine Exists.elim hB (fun c137 hB => ?_)
  refine Exists.elim hB (fun c138 hB => ?_)
  refine Exists.elim hB (fun c139 hB => ?_)
  refine Exists.elim hB (fun c140 hB => ?_)
  refine Exists.elim hB (fun c141 hB => ?_)
  refine Exists.elim hB (fun c142 hB => ?_)
  refine Exists.elim hB (fun c143 hB => ?_)
  refine Exists.elim hB (fun c144 hB => ?_)
  refine Exists.elim hB (fun c145 hB => ?_)
  refine Exists.elim hB (fun c146 hB => ?_)
  refine Exists.elim hB (fun c147 hB => ?_)
  refine Exists.elim hB (fun c148 hB => ?_)
  refine Exists.elim hB (fun c149 hB => ?_)
  refine Exists.elim hB (fun c150 hB => ?_)
  refine Exists.elim hB (fun c151 hB => ?_)
  refine Exists.elim hB (fun c152 hB => ?_)
  refine Exists.elim hB (fun c153 hB => ?_)
  refine Exists.elim hB (fun c154 hB => ?_)
  refine Exists.elim hB (fun c155 hB => ?_)
  refine Exists.elim hB (fun c156 hB => ?_)
  refine Exists.elim hB (fun c157 hB => ?_)
  refine Exists.elim hB (fun c158 hB => ?_)
  refine Exists.elim hB (fun c159 hB => ?_)
  refine Exists.elim hB (fun c160 hB => ?_)
  refine Exists.elim hB (fun c161 hB => ?_)
  refine Exists.elim hB (fun c162 hB => ?_)
  refine Exists.elim hB (fun c163 hB => ?_)
  obtain ⟨hP1, hK1, hD1⟩ := hB
  rw [ht] at hP1
  have hK1 := va_K.moved hvm.symm hK1
  obtain ⟨hP, hD⟩ := va_join (wr := [(q1, .inr (11, [.ref q2, .ref q4, .ref q5, .ref q6, .ref q8, .ref q18, .ref q28, .ref q33, .ref q40, .ref q44, .ref q49, .ref q53, .ref q59, .ref q60, .int (iI 0), .int (iI 0), .int (iI 0), .int (iI 999)])), (q2, .inr (8, [.ref q3, .int (iI 0)])), (q3, .inl (c61, 80, .inl (fun _ => iI 0))), (q4, .inr (6, [.ref q2, .int (iI 0), .int (iI 0), .int (iI (-1))])), (q5, .inr (1, [.ref q4])), (q6, .inr (4, [.ref q7, .int (iI 0)])), (q7, .inl (c62, 12, .inl (fun _ => iI 0))), (q8, .inr (0, [.ref q9, .ref q10, .ref q11, .ref q12, .ref q13, .ref q14, .ref q15, .ref q16, .ref q17, .int (iI 0), .int (iI 0), .int (iI 0), .int (iI 0)])), (q9, .inl (c63, 6, .inl (fun _ => iI 0))), (q10, .inl (c64, 36, .inl (fun _ => iI 0))), (q11, .inl (c65, 10, .inl (fun _ => iI 0))), (q12, .inl (c66, 10, .inl (fun _ => iI 0))), (q13, .inl (c67, 10, .inl (fun _ => iI 0))), (q14, .inl (c68, 10, .inl (fun _ => iI 0))), (q15, .inl (c69, 8, .inl (fun _ => iI 0))), (q16, .inl (c70, 10, .inl (fun _ => iI 0))), (q17, .inl (c71, 10, .inl (fun _ => iI 0))), (q18, .inr (0, [.ref q19, .ref q20, .ref q21, .ref q22, .ref q23, .ref q24, .ref q25, .ref q26, .ref q27, .int (iI 0), .int (iI 0), .int (iI 0), .int (iI 0)])), (q19, .inl (c72, 6, .inl (fun _ => iI 0))), (q20, .inl (c73, 36, .inl (fun _ => iI 0))), (q21, .inl (c74, 10, .inl (fun _ => iI 0))), (q22, .inl (c75, 10, .inl (fun _ => iI 0))), (q23, .inl (c76, 10, .inl (fun _ => iI 0))), (q24, .inl (c77, 10, .inl (fun _ => iI 0))), (q25, .inl (c78, 8, .inl (fun _ => iI 0))), (q26, .inl (c79, 10, .inl (fun _ => iI 0))), (q27, .inl (c80, 10, .inl (fun _ => iI 0))), (q28, .inr (7, [.ref q29, .ref q31, .ref q32])), (q29, .inr (8, [.ref q30, .int (iI 0)])), (q30, .inl (c81, 80, .inl (fun _ => iI 0))), (q31, .inr (6, [.ref q29, .int (iI 0), .int (iI 0), .int (iI (-1))])), (q32, .inl (c82, 9, .inl (fun _ => iI 0))), (q33, .inr (10, [.ref q34, .ref q35, .ref q36, .ref q37, .ref q38, .ref q39, .int (iI 0), .int (iI 0), .int (iI 0), .int (iI 0), .int (iI 0), .int (iI 0)])), (q34, .inl (c83, 6, .inl (fun _ => iI 0))), (q35, .inl (c84, 6, .inl (fun _ => iI 0))), (q36, .inl (c85, 10, .inl (fun _ => iI 0))), (q37, .inl (c86, 10, .inl (fun _ => iI 0))), (q38, .inl (c87, 60, .inl (fun _ => iI 0))), (q39, .inl (c88, 10, .inl (fun _ => iI 0))), (q40, .inr (5, [.ref q41, .ref q42, .ref q43, .int (iI 0)])), (q41, .inl (c89, 20, .inl (fun _ => iI 0))), (q42, .inl (c90, 20, .inl (fun _ => iI 0))), (q43, .inl (c91, 20, .inl (fun _ => iI 0))), (q44, .inl (c92, 2, .inr (.inr (.inr (.inr (va_up (va_up (fun _ => none) 0 (some q45)) 1 (some q47))))))), (q45, .inr (3, [.ref q46, .int (iI 0), .int (iI 0), .int (iI 0), .int (iI 0), .int (iI 0)])), (q46, .inl (c93, 10, .inl (fun _ => iI 0))), (q47, .inr (3, [.ref q48, .int (iI 0), .int (iI 0), .int (iI 0), .int (iI 0), .int (iI 0)])), (q48, .inl (c94, 10, .inl (fun _ => iI 0))), (q49, .inr (9, [.ref q50, .ref q51, .ref q52, .int (iI 0)])), (q50, .inl (c95, 1024, .inl (fun _ => iI 0))), (q51, .inl (c96, 10, .inl (fun _ => iI 0))), (q52, .inl (c97, 10, .inl (fun _ => iI 0))), (q53, .inr (2, [.ref q54, .ref q55, .ref q56, .ref q57, .ref q58, .int (iI 0), .int (iI 0), .int (iI 0), .int (iI 0), .int (iI 0)])), (q54, .inl (c98, 300, .inl (fun _ => iI 0))), (q55, .inl (c99, 360, .inl (fun _ => iI 0))), (q56, .inl (c100, 300, .inl (fun _ => iI 0))), (q57, .inl (c101, 300, .inl (fun _ => iI 0))), (q58, .inl (c102, 300, .inl (fun _ => iI 0))), (q59, .inl (c103, 10, .inl (fun _ => iI 0))), (q60, .inl (c104, 10, .inl (fun _ => iI 0)))]) (w1 := [(q105, .inr (12, [.int (iI 0), .ref q106, .ref q107, .int (iI 0), .ref q108, .ref q109, .ref q110, .ref q111, .int (iI 0), .ref q112, .int (iI 0), .int (iI 0), .int (iI 999), .ref q113, .int (iI 0), .ref q114, .int (iI 0), .int (iI 0), .null, .int (iI 0), .int (iI 0), .int (iI 0), .int (iI 0), .ref q115, .ref q116, .int (iI 0), .int (iI (-1)), .int (iI 0), .ref q117, .ref q118, .int (iI 0), .ref q119, .ref q120, .int (iI 0), .ref q121, .ref q122, .ref q123, .ref q124, .int (iI 0), .int (iI 0), .int (iI 0), .ref q125, .ref q126, .int (iI 0), .int (iI 0), .ref q127, .ref q128, .ref q129, .int (iI 0), .int (iI 0), .ref q130, .ref q131, .int (iI 0), .ref q132, .ref q133, .ref q134])), (q106, .inl (c135, 6, .inl (fun _ => iI 0))), (q107, .inl (c136, 36, .inl (fun _ => iI 0))), (q108, .inl (c137, 10, .inl (fun _ => iI 0))), (q109, .inl (c138, 10, .inl (fun _ => iI 0))), (q110, .inl (c139, 10, .inl (fun _ => iI 0))), (q111, .inl (c140, 10, .inl (fun _ => iI 0))), (q112, .inl (c141, 8, .inl (fun _ => iI 0))), (q113, .inl (c142, 80, .inl (fun _ => iI 0))), (q114, .inl (c143, 16, .inl (fun _ => iI 0))), (q115, .inl (c144, 240, .inl (fun _ => iI 0))), (q116, .inl (c145, 40, .inl (fun _ => iI 0))), (q117, .inl (c146, 10, .inl (fun _ => iI 0))), (q118, .inl (c147, 10, .inl (fun _ => iI 0))), (q119, .inl (c148, 6, .inl (fun _ => iI 0))), (q120, .inl (c149, 60, .inl (fun _ => iI 0))), (q121, .inl (c150, 80, .inl (fun _ => iI 0))), (q122, .inl (c151, 10, .inl (fun _ => iI 0))), (q123, .inl (c152, 10, .inl (fun _ => iI 0))), (q124, .inl (c153, 10, .inl (fun _ => iI 0))), (q125, .inl (c154, 10, .inl (fun _ => iI 0))), (q126, .inl (c155, 10, .inl (fun _ => iI 0))), (q127, .inl (c156, 1024, .inl (fun _ => iI 0))), (q128, .inl (c157, 3010, .inl (fun _ => iI 0))), (q129, .inl (c158, 90601, .inl (fun _ => iI 0))), (q130, .inl (c159, 301, .inl (fun _ => iI 0))), (q131, .inl (c160, 301, .inl (fun _ => iI 0))), (q132, .inl (c161, 24, .inl (fun _ => iI 0))), (q133, .inl (c162, 2, .inl (fun _ => iI 0))), (q134, .inl (c163, 2, .inl (fun _ => iI 0)))]) hP hD [60] [0, 1, 2, 3, 4, 5, 6, 7, 8, 9, 10, 11, 12, 13, 14, 15, 16, 17, 18, 19, 20, 21, 22, 23, 24, 25, 26, 27, 28, 29, 30, 31, 32, 33, 34, 35, 36, 37, 38, 39, 40, 41, 42, 43, 44, 45, 46, 47, 48, 49, 50, 51, 52, 53, 54, 55, 56, 57, 58, 59] rfl rfl (by decide) (by decide) hk1 hFc hP1 hD1
  have hK := (hK.sub (tys' := [(c61, .int), (c62, .int), (c63, .int), (c64, .int), (c65, .int), (c66, .int), (c67, .int), (c68, .int), (c69, .int), (c70, .int), (c71, .int), (c72, .int), (c73, .int), (c74, .int), (c75, .int), (c76, .int), (c77, .int), (c78, .int), (c79, .int), (c80, .int), (c81, .int), (c82, .int), (c83, .int), (c84, .int), (c85, .int), (c86, .int), (c87, .int), (c88, .int), (c89, .int), (c90, .int), (c91, .int), (c92, .object "SetsStayTogether$Kept"), (c93, .int), (c94, .int), (c95, .boolean), (c96, .int), (c97, .int), (c98, .int), (c99, .int), (c100, .int), (c101, .int), (c102, .int), (c103, .int), (c104, .int)]) [0, 1, 2, 3, 4, 5, 6, 7, 8, 9, 10, 11, 12, 13, 14, 15, 16, 17, 18, 19, 20, 21, 22, 23, 24, 25, 26, 27, 28, 29, 30, 31, 32, 33, 34, 35, 36, 37, 38, 39, 40, 41, 42, 43] rfl).app hK1
  generalize H1 = H at hP hS ⊢
  have hP : va_P G pcl [(q1, .inr (11, [.ref q2, .ref q4, .ref q5, .ref q6, .ref q8, .ref q18, .ref q28, .ref q33, .ref q40, .ref q44, .ref q49, .ref q53, .ref q59, .ref q60, .int (iI 0), .int (iI 0), .int (iI 0), .int (iI 999)])), (q2, .inr (8, [.ref q3, .int (iI 0)])), (q3, .inl (c61, 80, .inl (fun _ => iI 0))), (q4, .inr (6, [.ref q2, .int (iI 0), .int (iI 0), .int (iI (-1))])), (q5, .inr (1, [.ref q4])), (q6, .inr (4, [.ref q7, .int (iI 0)])), (q7, .inl (c62, 12, .inl (fun _ => iI 0))), (q8, .inr (0, [.ref q9, .ref q10, .ref q11, .ref q12, .ref q13, .ref q14, .ref q15, .ref q16, .ref q17, .int (iI 0), .int (iI 0), .int (iI 0), .int (iI 0)])), (q9, .inl (c63, 6, .inl (fun _ => iI 0))), (q10, .inl (c64, 36, .inl (fun _ => iI 0))), (q11, .inl (c65, 10, .inl (fun _ => iI 0))), (q12, .inl (c66, 10, .inl (fun _ => iI 0))), (q13, .inl (c67, 10, .inl (fun _ => iI 0))), (q14, .inl (c68, 10, .inl (fun _ => iI 0))), (q15, .inl (c69, 8, .inl (fun _ => iI 0))), (q16, .inl (c70, 10, .inl (fun _ => iI 0))), (q17, .inl (c71, 10, .inl (fun _ => iI 0))), (q18, .inr (0, [.ref q19, .ref q20, .ref q21, .ref q22, .ref q23, .ref q24, .ref q25, .ref q26, .ref q27, .int (iI 0), .int (iI 0), .int (iI 0), .int (iI 0)])), (q19, .inl (c72, 6, .inl (fun _ => iI 0))), (q20, .inl (c73, 36, .inl (fun _ => iI 0))), (q21, .inl (c74, 10, .inl (fun _ => iI 0))), (q22, .inl (c75, 10, .inl (fun _ => iI 0))), (q23, .inl (c76, 10, .inl (fun _ => iI 0))), (q24, .inl (c77, 10, .inl (fun _ => iI 0))), (q25, .inl (c78, 8, .inl (fun _ => iI 0))), (q26, .inl (c79, 10, .inl (fun _ => iI 0))), (q27, .inl (c80, 10, .inl (fun _ => iI 0))), (q28, .inr (7, [.ref q29, .ref q31, .ref q32])), (q29, .inr (8, [.ref q30, .int (iI 0)])), (q30, .inl (c81, 80, .inl (fun _ => iI 0))), (q31, .inr (6, [.ref q29, .int (iI 0), .int (iI 0), .int (iI (-1))])), (q32, .inl (c82, 9, .inl (fun _ => iI 0))), (q33, .inr (10, [.ref q34, .ref q35, .ref q36, .ref q37, .ref q38, .ref q39, .int (iI 0), .int (iI 0), .int (iI 0), .int (iI 0), .int (iI 0), .int (iI 0)])), (q34, .inl (c83, 6, .inl (fun _ => iI 0))), (q35, .inl (c84, 6, .inl (fun _ => iI 0))), (q36, .inl (c85, 10, .inl (fun _ => iI 0))), (q37, .inl (c86, 10, .inl (fun _ => iI 0))), (q38, .inl (c87, 60, .inl (fun _ => iI 0))), (q39, .inl (c88, 10, .inl (fun _ => iI 0))), (q40, .inr (5, [.ref q41, .ref q42, .ref q43, .int (iI 0)])), (q41, .inl (c89, 20, .inl (fun _ => iI 0))), (q42, .inl (c90, 20, .inl (fun _ => iI 0))), (q43, .inl (c91, 20, .inl (fun _ => iI 0))), (q44, .inl (c92, 2, .inr (.inr (.inr (.inr (va_up (va_up (fun _ => none) 0 (some q45)) 1 (some q47))))))), (q45, .inr (3, [.ref q46, .int (iI 0), .int (iI 0), .int (iI 0), .int (iI 0), .int (iI 0)])), (q46, .inl (c93, 10, .inl (fun _ => iI 0))), (q47, .inr (3, [.ref q48, .int (iI 0), .int (iI 0), .int (iI 0), .int (iI 0), .int (iI 0)])), (q48, .inl (c94, 10, .inl (fun _ => iI 0))), (q49, .inr (9, [.ref q50, .ref q51, .ref q52, .int (iI 0)])), (q50, .inl (c95, 1024, .inl (fun _ => iI 0))), (q51, .inl (c96, 10, .inl (fun _ => iI 0))), (q52, .inl (c97, 10, .inl (fun _ => iI 0))), (q53, .inr (2, [.ref q54, .ref q55, .ref q56, .ref q57, .ref q58, .int (iI 0), .int (iI 0), .int (iI 0), .int (iI 0), .int (iI 0)])), (q54, .inl (c98, 300, .inl (fun _ => iI 0))), (q55, .inl (c99, 360, .inl (fun _ => iI 0))), (q56, .inl (c100, 300, .inl (fun _ => iI 0))), (q57, .inl (c101, 300, .inl (fun _ => iI 0))), (q58, .inl (c102, 300, .inl (fun _ => iI 0))), (q59, .inl (c103, 10, .inl (fun _ => iI 0))), (q60, .inl (c104, 10, .inl (fun _ => iI 0))), (q105, .inr (12, [.int (iI 0), .ref q106, .ref q107, .int (iI 0), .ref q108, .ref q109, .ref q110, .ref q111, .int (iI 0), .ref q112, .int (iI 0), .int (iI 0), .int (iI 999), .ref q113, .int (iI 0), .ref q114, .int (iI 0), .int (iI 0), .null, .int (iI 0), .int (iI 0), .int (iI 0), .int (iI 0), .ref q115, .ref q116, .int (iI 0), .int (iI (-1)), .int (iI 0), .ref q117, .ref q118, .int (iI 0), .ref q119, .ref q120, .int (iI 0), .ref q121, .ref q122, .ref q123, .ref q124, .int (iI 0), .int (iI 0), .int (iI 0), .ref q125, .ref q126, .int (iI 0), .int (iI 0), .ref q127, .ref q128, .ref q129, .int (iI 0), .int (iI 0), .ref q130, .ref q131, .int (iI 0), .ref q132, .ref q133, .ref q134])), (q106, .inl (c135, 6, .inl (fun _ => iI 0))), (q107, .inl (c136, 36, .inl (fun _ => iI 0))), (q108, .inl (c137, 10, .inl (fun _ => iI 0))), (q109, .inl (c138, 10, .inl (fun _ => iI 0))), (q110, .inl (c139, 10, .inl (fun _ => iI 0))), (q111, .inl (c140, 10, .inl (fun _ => iI 0))), (q112, .inl (c141, 8, .inl (fun _ => iI 0))), (q113, .inl (c142, 80, .inl (fun _ => iI 0))), (q114, .inl (c143, 16, .inl (fun _ => iI 0))), (q115, .inl (c144, 240, .inl (fun _ => iI 0))), (q116, .inl (c145, 40, .inl (fun _ => iI 0))), (q117, .inl (c146, 10, .inl (fun _ => iI 0))), (q118, .inl (c147, 10, .inl (fun _ => iI 0))), (q119, .inl (c148, 6, .inl (fun _ => iI 0))), (q120, .inl (c149, 60, .inl (fun _ => iI 0))), (q121, .inl (c150, 80, .inl (fun _ => iI 0))), (q122, .inl (c151, 10, .inl (fun _ => iI 0))), (q123, .inl (c152, 10, .inl (fun _ => iI 0))), (q124, .inl (c153, 10, .inl (fun _ => iI 0))), (q125, .inl (c154, 10, .inl (fun _ => iI 0))), (q126, .inl (c155, 10, .inl (fun _ => iI 0))), (q127, .inl (c156, 1024, .inl (fun _ => iI 0))), (q128, .inl (c157, 3010, .inl (fun _ => iI 0))), (q129, .inl (c158, 90601, .inl (fun _ => iI 0))), (q130, .inl (c159, 301, .inl (fun _ => iI 0))), (q131, .inl (c160, 301, .inl (fun _ => iI 0))), (q132, .inl (c161, 24, .inl (fun _ => iI 0))), (q133, .inl (c162, 2, .inl (fun _ => iI 0))), (q134, .inl (c163, 2, .inl (fun _ => iI 0)))] H := hP
  have hD : va_D (fun q : Nat => s.heap.size ≤ q) [(q1, .inr (11, [.ref q2, .ref q4, .ref q5, .ref q6, .ref q8, .ref q18, .ref q28, .ref q33, .ref q40, .ref q44, .ref q49, .ref q53, .ref q59, .ref q60, .int (iI 0), .int (iI 0), .int (iI 0), .int (iI 999)])), (q2, .inr (8, [.ref q3, .int (iI 0)])), (q3, .inl (c61, 80, .inl (fun _ => iI 0))), (q4, .inr (6, [.ref q2, .int (iI 0), .int (iI 0), .int (iI (-1))])), (q5, .inr (1, [.ref q4])), (q6, .inr (4, [.ref q7, .int (iI 0)])), (q7, .inl (c62, 12, .inl (fun _ => iI 0))), (q8, .inr (0, [.ref q9, .ref q10, .ref q11, .ref q12, .ref q13, .ref q14, .ref q15, .ref q16, .ref q17, .int (iI 0), .int (iI 0), .int (iI 0), .int (iI 0)])), (q9, .inl (c63, 6, .inl (fun _ => iI 0))), (q10, .inl (c64, 36, .inl (fun _ => iI 0))), (q11, .inl (c65, 10, .inl (fun _ => iI 0))), (q12, .inl (c66, 10, .inl (fun _ => iI 0))), (q13, .inl (c67, 10, .inl (fun _ => iI 0))), (q14, .inl (c68, 10, .inl (fun _ => iI 0))), (q15, .inl (c69, 8, .inl (fun _ => iI 0))), (q16, .inl (c70, 10, .inl (fun _ => iI 0))), (q17, .inl (c71, 10, .inl (fun _ => iI 0))), (q18, .inr (0, [.ref q19, .ref q20, .ref q21, .ref q22, .ref q23, .ref q24, .ref q25, .ref q26, .ref q27, .int (iI 0), .int (iI 0), .int (iI 0), .int (iI 0)])), (q19, .inl (c72, 6, .inl (fun _ => iI 0))), (q20, .inl (c73, 36, .inl (fun _ => iI 0))), (q21, .inl (c74, 10, .inl (fun _ => iI 0))), (q22, .inl (c75, 10, .inl (fun _ => iI 0))), (q23, .inl (c76, 10, .inl (fun _ => iI 0))), (q24, .inl (c77, 10, .inl (fun _ => iI 0))), (q25, .inl (c78, 8, .inl (fun _ => iI 0))), (q26, .inl (c79, 10, .inl (fun _ => iI 0))), (q27, .inl (c80, 10, .inl (fun _ => iI 0))), (q28, .inr (7, [.ref q29, .ref q31, .ref q32])), (q29, .inr (8, [.ref q30, .int (iI 0)])), (q30, .inl (c81, 80, .inl (fun _ => iI 0))), (q31, .inr (6, [.ref q29, .int (iI 0), .int (iI 0), .int (iI (-1))])), (q32, .inl (c82, 9, .inl (fun _ => iI 0))), (q33, .inr (10, [.ref q34, .ref q35, .ref q36, .ref q37, .ref q38, .ref q39, .int (iI 0), .int (iI 0), .int (iI 0), .int (iI 0), .int (iI 0), .int (iI 0)])), (q34, .inl (c83, 6, .inl (fun _ => iI 0))), (q35, .inl (c84, 6, .inl (fun _ => iI 0))), (q36, .inl (c85, 10, .inl (fun _ => iI 0))), (q37, .inl (c86, 10, .inl (fun _ => iI 0))), (q38, .inl (c87, 60, .inl (fun _ => iI 0))), (q39, .inl (c88, 10, .inl (fun _ => iI 0))), (q40, .inr (5, [.ref q41, .ref q42, .ref q43, .int (iI 0)])), (q41, .inl (c89, 20, .inl (fun _ => iI 0))), (q42, .inl (c90, 20, .inl (fun _ => iI 0))), (q43, .inl (c91, 20, .inl (fun _ => iI 0))), (q44, .inl (c92, 2, .inr (.inr (.inr (.inr (va_up (va_up (fun _ => none) 0 (some q45)) 1 (some q47))))))), (q45, .inr (3, [.ref q46, .int (iI 0), .int (iI 0), .int (iI 0), .int (iI 0), .int (iI 0)])), (q46, .inl (c93, 10, .inl (fun _ => iI 0))), (q47, .inr (3, [.ref q48, .int (iI 0), .int (iI 0), .int (iI 0), .int (iI 0), .int (iI 0)])), (q48, .inl (c94, 10, .inl (fun _ => iI 0))), (q49, .inr (9, [.ref q50, .ref q51, .ref q52, .int (iI 0)])), (q50, .inl (c95, 1024, .inl (fun _ => iI 0))), (q51, .inl (c96, 10, .inl (fun _ => iI 0))), (q52, .inl (c97, 10, .inl (fun _ => iI 0))), (q53, .inr (2, [.ref q54, .ref q55, .ref q56, .ref q57, .ref q58, .int (iI 0), .int (iI 0), .int (iI 0), .int (iI 0), .int (iI 0)])), (q54, .inl (c98, 300, .inl (fun _ => iI 0))), (q55, .inl (c99, 360, .inl (fun _ => iI 0))), (q56, .inl (c100, 300, .inl (fun _ => iI 0))), (q57, .inl (c101, 300, .inl (fun _ => iI 0))), (q58, .inl (c102, 300, .inl (fun _ => iI 0))), (q59, .inl (c103, 10, .inl (fun _ => iI 0))), (q60, .inl (c104, 10, .inl (fun _ => iI 0))), (q105, .inr (12, [.int (iI 0), .ref q106, .ref q107, .int (iI 0), .ref q108, .ref q109, .ref q110, .ref q111, .int (iI 0), .ref q112, .int (iI 0), .int (iI 0), .int (iI 999), .ref q113, .int (iI 0), .ref q114, .int (iI 0), .int (iI 0), .null, .int (iI 0), .int (iI 0), .int (iI 0), .int (iI 0), .ref q115, .ref q116, .int (iI 0), .int (iI (-1)), .int (iI 0), .ref q117, .ref q118, .int (iI 0), .ref q119, .ref q120, .int (iI 0), .ref q121, .ref q122, .ref q123, .ref q124, .int (iI 0), .int (iI 0), .int (iI 0), .ref q125, .ref q126, .int (iI 0), .int (iI 0), .ref q127, .ref q128, .ref q129, .int (iI 0), .int (iI 0), .ref q130, .ref q131, .int (iI 0), .ref q132, .ref q133, .ref q134])), (q106, .inl (c135, 6, .inl (fun _ => iI 0))), (q107, .inl (c136, 36, .inl (fun _ => iI 0))), (q108, .inl (c137, 10, .inl (fun _ => iI 0))), (q109, .inl (c138, 10, .inl (fun _ => iI 0))), (q110, .inl (c139, 10, .inl (fun _ => iI 0))), (q111, .inl (c140, 10, .inl (fun _ => iI 0))), (q112, .inl (c141, 8, .inl (fun _ => iI 0))), (q113, .inl (c142, 80, .inl (fun _ => iI 0))), (q114, .inl (c143, 16, .inl (fun _ => iI 0))), (q115, .inl (c144, 240, .inl (fun _ => iI 0))), (q116, .inl (c145, 40, .inl (fun _ => iI 0))), (q117, .inl (c146, 10, .inl (fun _ => iI 0))), (q118, .inl (c147, 10, .inl (fun _ => iI 0))), (q119, .inl (c148, 6, .inl (fun _ => iI 0))), (q120, .inl (c149, 60, .inl (fun _ => iI 0))), (q121, .inl (c150, 80, .inl (fun _ => iI 0))), (q122, .inl (c151, 10, .inl (fun _ => iI 0))), (q123, .inl (c152, 10, .inl (fun _ => iI 0))), (q124, .inl (c153, 10, .inl (fun _ => iI 0))), (q125, .inl (c154, 10, .inl (fun _ => iI 0))), (q126, .inl (c155, 10, .inl (fun _ => iI 0))), (q127, .inl (c156, 1024, .inl (fun _ => iI 0))), (q128, .inl (c157, 3010, .inl (fun _ => iI 0))), (q129, .inl (c158, 90601, .inl (fun _ => iI 0))), (q130, .inl (c159, 301, .inl (fun _ => iI 0))), (q131, .inl (c160, 301, .inl (fun _ => iI 0))), (q132, .inl (c161, 24, .inl (fun _ => iI 0))), (q133, .inl (c162, 2, .inl (fun _ => iI 0))), (q134, .inl (c163, 2, .inl (fun _ => iI 0)))] := hD
  have hK : va_K G pcl [(c61, .int), (c62, .int), (c63, .int), (c64, .int), (c65, .int), (c66, .int), (c67, .int), (c68, .int), (c69, .int), (c70, .int), (c71, .int), (c72, .int), (c73, .int), (c74, .int), (c75, .int), (c76, .int), (c77, .int), (c78, .int), (c79, .int), (c80, .int), (c81, .int), (c82, .int), (c83, .int), (c84, .int), (c85, .int), (c86, .int), (c87, .int), (c88, .int), (c89, .int), (c90, .int), (c91, .int), (c92, .object "SetsStayTogether$Kept"), (c93, .int), (c94, .int), (c95, .boolean), (c96, .int), (c97, .int), (c98, .int), (c99, .int), (c100, .int), (c101, .int), (c102, .int), (c103, .int), (c104, .int), (c135, .int), (c136, .int), (c137, .int), (c138, .int), (c139, .int), (c140, .int), (c141, .int), (c142, .byte), (c143, .int), (c144, .int), (c145, .byte), (c146, .int), (c147, .int), (c148, .int), (c149, .int), (c150, .int), (c151, .int), (c152, .int), (c153, .int), (c154, .int), (c155, .int), (c156, .boolean), (c157, .int), (c158, .int), (c159, .int), (c160, .int), (c161, .int), (c162, .boolean), (c163, .int)] s := hK
  refine W.widen (k := 90) (n := 99316) (Nat.le_of_ble_eq_true rfl) (Nat.le_of_ble_eq_true rfl) ?_
  refine lv_astore_n (k := 2) (lv' := [(2, .ref q105), (1, .ref q1), (0, .ref b)]) hx hb (show decode code 15 = .ok (.astore_n 2, 1) by decide +kernel) rfl hl (by decide) rfl (fun ls hl => ?_)
  refine lv_iconst (v := iI (1)) hx hb (show decode code 16 = .ok (.iconst 1, 1) from dX_iconst_1 (by decide +kernel)) rfl ?_
  refine va_newa (atype := .long) (ty := .long) (N' := 1) (a0 := (1, .inr (.inl (fun _ => Int64.ofInt 0)))) hx hb (hp _ (pmt8 236 rfl rfl)) rfl hK hP hD hS hA (fun cA => rfl) (by decide +kernel) (by decide +kernel) (Nat.le_of_ble_eq_true rfl) (Nat.le_of_ble_eq_true rfl) (Nat.le_of_ble_eq_true rfl) (show decode code 17 = .ok (.newarray .long, 2) from by decide +kernel) (fun q164 c165 H hK hP hD hS => ?_)
  have hP : va_P G pcl [(q1, .inr (11, [.ref q2, .ref q4, .ref q5, .ref q6, .ref q8, .ref q18, .ref q28, .ref q33, .ref q40, .ref q44, .ref q49, .ref q53, .ref q59, .ref q60, .int (iI 0), .int (iI 0), .int (iI 0), .int (iI 999)])), (q2, .inr (8, [.ref q3, .int (iI 0)])), (q3, .inl (c61, 80, .inl (fun _ => iI 0))), (q4, .inr (6, [.ref q2, .int (iI 0), .int (iI 0), .int (iI (-1))])), (q5, .inr (1, [.ref q4])), (q6, .inr (4, [.ref q7, .int (iI 0)])), (q7, .inl (c62, 12, .inl (fun _ => iI 0))), (q8, .inr (0, [.ref q9, .ref q10, .ref q11, .ref q12, .ref q13, .ref q14, .ref q15, .ref q16, .ref q17, .int (iI 0), .int (iI 0), .int (iI 0), .int (iI 0)])), (q9, .inl (c63, 6, .inl (fun _ => iI 0))), (q10, .inl (c64, 36, .inl (fun _ => iI 0))), (q11, .inl (c65, 10, .inl (fun _ => iI 0))), (q12, .inl (c66, 10, .inl (fun _ => iI 0))), (q13, .inl (c67, 10, .inl (fun _ => iI 0))), (q14, .inl (c68, 10, .inl (fun _ => iI 0))), (q15, .inl (c69, 8, .inl (fun _ => iI 0))), (q16, .inl (c70, 10, .inl (fun _ => iI 0))), (q17, .inl (c71, 10, .inl (fun _ => iI 0))), (q18, .inr (0, [.ref q19, .ref q20, .ref q21, .ref q22, .ref q23, .ref q24, .ref q25, .ref q26, .ref q27, .int (iI 0), .int (iI 0), .int (iI 0), .int (iI 0)])), (q19, .inl (c72, 6, .inl (fun _ => iI 0))), (q20, .inl (c73, 36, .inl (fun _ => iI 0))), (q21, .inl (c74, 10, .inl (fun _ => iI 0))), (q22, .inl (c75, 10, .inl (fun _ => iI 0))), (q23, .inl (c76, 10, .inl (fun _ => iI 0))), (q24, .inl (c77, 10, .inl (fun _ => iI 0))), (q25, .inl (c78, 8, .inl (fun _ => iI 0))), (q26, .inl (c79, 10, .inl (fun _ => iI 0))), (q27, .inl (c80, 10, .inl (fun _ => iI 0))), (q28, .inr (7, [.ref q29, .ref q31, .ref q32])), (q29, .inr (8, [.ref q30, .int (iI 0)])), (q30, .inl (c81, 80, .inl (fun _ => iI 0))), (q31, .inr (6, [.ref q29, .int (iI 0), .int (iI 0), .int (iI (-1))])), (q32, .inl (c82, 9, .inl (fun _ => iI 0))), (q33, .inr (10, [.ref q34, .ref q35, .ref q36, .ref q37, .ref q38, .ref q39, .int (iI 0), .int (iI 0), .int (iI 0), .int (iI 0), .int (iI 0), .int (iI 0)])), (q34, .inl (c83, 6, .inl (fun _ => iI 0))), (q35, .inl (c84, 6, .inl (fun _ => iI 0))), (q36, .inl (c85, 10, .inl (fun _ => iI 0))), (q37, .inl (c86, 10, .inl (fun _ => iI 0))), (q38, .inl (c87, 60, .inl (fun _ => iI 0))), (q39, .inl (c88, 10, .inl (fun _ => iI 0))), (q40, .inr (5, [.ref q41, .ref q42, .ref q43, .int (iI 0)])), (q41, .inl (c89, 20, .inl (fun _ => iI 0))), (q42, .inl (c90, 20, .inl (fun _ => iI 0))), (q43, .inl (c91, 20, .inl (fun _ => iI 0))), (q44, .inl (c92, 2, .inr (.inr (.inr (.inr (va_up (va_up (fun _ => none) 0 (some q45)) 1 (some q47))))))), (q45, .inr (3, [.ref q46, .int (iI 0), .int (iI 0), .int (iI 0), .int (iI 0), .int (iI 0)])), (q46, .inl (c93, 10, .inl (fun _ => iI 0))), (q47, .inr (3, [.ref q48, .int (iI 0), .int (iI 0), .int (iI 0), .int (iI 0), .int (iI 0)])), (q48, .inl (c94, 10, .inl (fun _ => iI 0))), (q49, .inr (9, [.ref q50, .ref q51, .ref q52, .int (iI 0)])), (q50, .inl (c95, 1024, .inl (fun _ => iI 0))), (q51, .inl (c96, 10, .inl (fun _ => iI 0))), (q52, .inl (c97, 10, .inl (fun _ => iI 0))), (q53, .inr (2, [.ref q54, .ref q55, .ref q56, .ref q57, .ref q58, .int (iI 0), .int (iI 0), .int (iI 0), .int (iI 0), .int (iI 0)])), (q54, .inl (c98, 300, .inl (fun _ => iI 0))), (q55, .inl (c99, 360, .inl (fun _ => iI 0))), (q56, .inl (c100, 300, .inl (fun _ => iI 0))), (q57, .inl (c101, 300, .inl (fun _ => iI 0))), (q58, .inl (c102, 300, .inl (fun _ => iI 0))), (q59, .inl (c103, 10, .inl (fun _ => iI 0))), (q60, .inl (c104, 10, .inl (fun _ => iI 0))), (q105, .inr (12, [.int (iI 0), .ref q106, .ref q107, .int (iI 0), .ref q108, .ref q109, .ref q110, .ref q111, .int (iI 0), .ref q112, .int (iI 0), .int (iI 0), .int (iI 999), .ref q113, .int (iI 0), .ref q114, .int (iI 0), .int (iI 0), .null, .int (iI 0), .int (iI 0), .int (iI 0), .int (iI 0), .ref q115, .ref q116, .int (iI 0), .int (iI (-1)), .int (iI 0), .ref q117, .ref q118, .int (iI 0), .ref q119, .ref q120, .int (iI 0), .ref q121, .ref q122, .ref q123, .ref q124, .int (iI 0), .int (iI 0), .int (iI 0), .ref q125, .ref q126, .int (iI 0), .int (iI 0), .ref q127, .ref q128, .ref q129, .int (iI 0), .int (iI 0), .ref q130, .ref q131, .int (iI 0), .ref q132, .ref q133, .ref q134])), (q106, .inl (c135, 6, .inl (fun _ => iI 0))), (q107, .inl (c136, 36, .inl (fun _ => iI 0))), (q108, .inl (c137, 10, .inl (fun _ => iI 0))), (q109, .inl (c138, 10, .inl (fun _ => iI 0))), (q110, .inl (c139, 10, .inl (fun _ => iI 0))), (q111, .inl (c140, 10, .inl (fun _ => iI 0))), (q112, .inl (c141, 8, .inl (fun _ => iI 0))), (q113, .inl (c142, 80, .inl (fun _ => iI 0))), (q114, .inl (c143, 16, .inl (fun _ => iI 0))), (q115, .inl (c144, 240, .inl (fun _ => iI 0))), (q116, .inl (c145, 40, .inl (fun _ => iI 0))), (q117, .inl (c146, 10, .inl (fun _ => iI 0))), (q118, .inl (c147, 10, .inl (fun _ => iI 0))), (q119, .inl (c148, 6, .inl (fun _ => iI 0))), (q120, .inl (c149, 60, .inl (fun _ => iI 0))), (q121, .inl (c150, 80, .inl (fun _ => iI 0))), (q122, .inl (c151, 10, .inl (fun _ => iI 0))), (q123, .inl (c152, 10, .inl (fun _ => iI 0))), (q124, .inl (c153, 10, .inl (fun _ => iI 0))), (q125, .inl (c154, 10, .inl (fun _ => iI 0))), (q126, .inl (c155, 10, .inl (fun _ => iI 0))), (q127, .inl (c156, 1024, .inl (fun _ => iI 0))), (q128, .inl (c157, 3010, .inl (fun _ => iI 0))), (q129, .inl (c158, 90601, .inl (fun _ => iI 0))), (q130, .inl (c159, 301, .inl (fun _ => iI 0))), (q131, .inl (c160, 301, .inl (fun _ => iI 0))), (q132, .inl (c161, 24, .inl (fun _ => iI 0))), (q133, .inl (c162, 2, .inl (fun _ => iI 0))), (q134, .inl (c163, 2, .inl (fun _ => iI 0))), (q164, .inl (c165, 1, .inr (.inl (fun _ => Int64.ofInt 0))))] H := hP
  have hD : va_D (fun q : Nat => s.heap.size ≤ q) [(q1, .inr (11, [.ref q2, .ref q4, .ref q5, .ref q6, .ref q8, .ref q18, .ref q28, .ref q33, .ref q40, .ref q44, .ref q49, .ref q53, .ref q59, .ref q60, .int (iI 0), .int (iI 0), .int (iI 0), .int (iI 999)])), (q2, .inr (8, [.ref q3, .int (iI 0)])), (q3, .inl (c61, 80, .inl (fun _ => iI 0))), (q4, .inr (6, [.ref q2, .int (iI 0), .int (iI 0), .int (iI (-1))])), (q5, .inr (1, [.ref q4])), (q6, .inr (4, [.ref q7, .int (iI 0)])), (q7, .inl (c62, 12, .inl (fun _ => iI 0))), (q8, .inr (0, [.ref q9, .ref q10, .ref q11, .ref q12, .ref q13, .ref q14, .ref q15, .ref q16, .ref q17, .int (iI 0), .int (iI 0), .int (iI 0), .int (iI 0)])), (q9, .inl (c63, 6, .inl (fun _ => iI 0))), (q10, .inl (c64, 36, .inl (fun _ => iI 0))), (q11, .inl (c65, 10, .inl (fun _ => iI 0))), (q12, .inl (c66, 10, .inl (fun _ => iI 0))), (q13, .inl (c67, 10, .inl (fun _ => iI 0))), (q14, .inl (c68, 10, .inl (fun _ => iI 0))), (q15, .inl (c69, 8, .inl (fun _ => iI 0))), (q16, .inl (c70, 10, .inl (fun _ => iI 0))), (q17, .inl (c71, 10, .inl (fun _ => iI 0))), (q18, .inr (0, [.ref q19, .ref q20, .ref q21, .ref q22, .ref q23, .ref q24, .ref q25, .ref q26, .ref q27, .int (iI 0), .int (iI 0), .int (iI 0), .int (iI 0)])), (q19, .inl (c72, 6, .inl (fun _ => iI 0))), (q20, .inl (c73, 36, .inl (fun _ => iI 0))), (q21, .inl (c74, 10, .inl (fun _ => iI 0))), (q22, .inl (c75, 10, .inl (fun _ => iI 0))), (q23, .inl (c76, 10, .inl (fun _ => iI 0))), (q24, .inl (c77, 10, .inl (fun _ => iI 0))), (q25, .inl (c78, 8, .inl (fun _ => iI 0))), (q26, .inl (c79, 10, .inl (fun _ => iI 0))), (q27, .inl (c80, 10, .inl (fun _ => iI 0))), (q28, .inr (7, [.ref q29, .ref q31, .ref q32])), (q29, .inr (8, [.ref q30, .int (iI 0)])), (q30, .inl (c81, 80, .inl (fun _ => iI 0))), (q31, .inr (6, [.ref q29, .int (iI 0), .int (iI 0), .int (iI (-1))])), (q32, .inl (c82, 9, .inl (fun _ => iI 0))), (q33, .inr (10, [.ref q34, .ref q35, .ref q36, .ref q37, .ref q38, .ref q39, .int (iI 0), .int (iI 0), .int (iI 0), .int (iI 0), .int (iI 0), .int (iI 0)])), (q34, .inl (c83, 6, .inl (fun _ => iI 0))), (q35, .inl (c84, 6, .inl (fun _ => iI 0))), (q36, .inl (c85, 10, .inl (fun _ => iI 0))), (q37, .inl (c86, 10, .inl (fun _ => iI 0))), (q38, .inl (c87, 60, .inl (fun _ => iI 0))), (q39, .inl (c88, 10, .inl (fun _ => iI 0))), (q40, .inr (5, [.ref q41, .ref q42, .ref q43, .int (iI 0)])), (q41, .inl (c89, 20, .inl (fun _ => iI 0))), (q42, .inl (c90, 20, .inl (fun _ => iI 0))), (q43, .inl (c91, 20, .inl (fun _ => iI 0))), (q44, .inl (c92, 2, .inr (.inr (.inr (.inr (va_up (va_up (fun _ => none) 0 (some q45)) 1 (some q47))))))), (q45, .inr (3, [.ref q46, .int (iI 0), .int (iI 0), .int (iI 0), .int (iI 0), .int (iI 0)])), (q46, .inl (c93, 10, .inl (fun _ => iI 0))), (q47, .inr (3, [.ref q48, .int (iI 0), .int (iI 0), .int (iI 0), .int (iI 0), .int (iI 0)])), (q48, .inl (c94, 10, .inl (fun _ => iI 0))), (q49, .inr (9, [.ref q50, .ref q51, .ref q52, .int (iI 0)])), (q50, .inl (c95, 1024, .inl (fun _ => iI 0))), (q51, .inl (c96, 10, .inl (fun _ => iI 0))), (q52, .inl (c97, 10, .inl (fun _ => iI 0))), (q53, .inr (2, [.ref q54, .ref q55, .ref q56, .ref q57, .ref q58, .int (iI 0), .int (iI 0), .int (iI 0), .int (iI 0), .int (iI 0)])), (q54, .inl (c98, 300, .inl (fun _ => iI 0))), (q55, .inl (c99, 360, .inl (fun _ => iI 0))), (q56, .inl (c100, 300, .inl (fun _ => iI 0))), (q57, .inl (c101, 300, .inl (fun _ => iI 0))), (q58, .inl (c102, 300, .inl (fun _ => iI 0))), (q59, .inl (c103, 10, .inl (fun _ => iI 0))), (q60, .inl (c104, 10, .inl (fun _ => iI 0))), (q105, .inr (12, [.int (iI 0), .ref q106, .ref q107, .int (iI 0), .ref q108, .ref q109, .ref q110, .ref q111, .int (iI 0), .ref q112, .int (iI 0), .int (iI 0), .int (iI 999), .ref q113, .int (iI 0), .ref q114, .int (iI 0), .int (iI 0), .null, .int (iI 0), .int (iI 0), .int (iI 0), .int (iI 0), .ref q115, .ref q116, .int (iI 0), .int (iI (-1)), .int (iI 0), .ref q117, .ref q118, .int (iI 0), .ref q119, .ref q120, .int (iI 0), .ref q121, .ref q122, .ref q123, .ref q124, .int (iI 0), .int (iI 0), .int (iI 0), .ref q125, .ref q126, .int (iI 0), .int (iI 0), .ref q127, .ref q128, .ref q129, .int (iI 0), .int (iI 0), .ref q130, .ref q131, .int (iI 0), .ref q132, .ref q133, .ref q134])), (q106, .inl (c135, 6, .inl (fun _ => iI 0))), (q107, .inl (c136, 36, .inl (fun _ => iI 0))), (q108, .inl (c137, 10, .inl (fun _ => iI 0))), (q109, .inl (c138, 10, .inl (fun _ => iI 0))), (q110, .inl (c139, 10, .inl (fun _ => iI 0))), (q111, .inl (c140, 10, .inl (fun _ => iI 0))), (q112, .inl (c141, 8, .inl (fun _ => iI 0))), (q113, .inl (c142, 80, .inl (fun _ => iI 0))), (q114, .inl (c143, 16, .inl (fun _ => iI 0))), (q115, .inl (c144, 240, .inl (fun _ => iI 0))), (q116, .inl (c145, 40, .inl (fun _ => iI 0))), (q117, .inl (c146, 10, .inl (fun _ => iI 0))), (q118, .inl (c147, 10, .inl (fun _ => iI 0))), (q119, .inl (c148, 6, .inl (fun _ => iI 0))), (q120, .inl (c149, 60, .inl (fun _ => iI 0))), (q121, .inl (c150, 80, .inl (fun _ => iI 0))), (q122, .inl (c151, 10, .inl (fun _ => iI 0))), (q123, .inl (c152, 10, .inl (fun _ => iI 0))), (q124, .inl (c153, 10, .inl (fun _ => iI 0))), (q125, .inl (c154, 10, .inl (fun _ => iI 0))), (q126, .inl (c155, 10, .inl (fun _ => iI 0))), (q127, .inl (c156, 1024, .inl (fun _ => iI 0))), (q128, .inl (c157, 3010, .inl (fun _ => iI 0))), (q129, .inl (c158, 90601, .inl (fun _ => iI 0))), (q130, .inl (c159, 301, .inl (fun _ => iI 0))), (q131, .inl (c160, 301, .inl (fun _ => iI 0))), (q132, .inl (c161, 24, .inl (fun _ => iI 0))), (q133, .inl (c162, 2, .inl (fun _ => iI 0))), (q134, .inl (c163, 2, .inl (fun _ => iI 0))), (q164, .inl (c165, 1, .inr (.inl (fun _ => Int64.ofInt 0))))] := hD
  have hK : va_K G pcl [(c61, .int), (c62, .int), (c63, .int), (c64, .int), (c65, .int), (c66, .int), (c67, .int), (c68, .int), (c69, .int), (c70, .int), (c71, .int), (c72, .int), (c73, .int), (c74, .int), (c75, .int), (c76, .int), (c77, .int), (c78, .int), (c79, .int), (c80, .int), (c81, .int), (c82, .int), (c83, .int), (c84, .int), (c85, .int), (c86, .int), (c87, .int), (c88, .int), (c89, .int), (c90, .int), (c91, .int), (c92, .object "SetsStayTogether$Kept"), (c93, .int), (c94, .int), (c95, .boolean), (c96, .int), (c97, .int), (c98, .int), (c99, .int), (c100, .int), (c101, .int), (c102, .int), (c103, .int), (c104, .int), (c135, .int), (c136, .int), (c137, .int), (c138, .int), (c139, .int), (c140, .int), (c141, .int), (c142, .byte), (c143, .int), (c144, .int), (c145, .byte), (c146, .int), (c147, .int), (c148, .int), (c149, .int), (c150, .int), (c151, .int), (c152, .int), (c153, .int), (c154, .int), (c155, .int), (c156, .boolean), (c157, .int), (c158, .int), (c159, .int), (c160, .int), (c161, .int), (c162, .boolean), (c163, .int), (c165, .long)] s := hK
  refine W.widen (k := 91) (n := 99317) (Nat.le_of_ble_eq_true rfl) (Nat.le_of_ble_eq_true rfl) ?_
  refine lv_astore_n (k := 3) (lv' := [(3, .ref q164), (2, .ref q105), (1, .ref q1), (0, .ref b)]) hx hb (show decode code 19 = .ok (.astore_n 3, 1) by decide +kernel) rfl hl (by decide) rfl (fun ls hl => ?_)
  have hP1 := hP.sub (ws' := [(q1, .inr (11, [.ref q2, .ref q4, .ref q5, .ref q6, .ref q8, .ref q18, .ref q28, .ref q33, .ref q40, .ref q44, .ref q49, .ref q53, .ref q59, .ref q60, .int (iI 0), .int (iI 0), .int (iI 0), .int (iI 999)])), (q2, .inr (8, [.ref q3, .int (iI 0)])), (q3, .inl (c61, 80, .inl (fun _ => iI 0))), (q4, .inr (6, [.ref q2, .int (iI 0), .int (iI 0), .int (iI (-1))])), (q5, .inr (1, [.ref q4])), (q6, .inr (4, [.ref q7, .int (iI 0)])), (q7, .inl (c62, 12, .inl (fun _ => iI 0))), (q8, .inr (0, [.ref q9, .ref q10, .ref q11, .ref q12, .ref q13, .ref q14, .ref q15, .ref q16, .ref q17, .int (iI 0), .int (iI 0), .int (iI 0), .int (iI 0)])), (q9, .inl (c63, 6, .inl (fun _ => iI 0))), (q10, .inl (c64, 36, .inl (fun _ => iI 0))), (q11, .inl (c65, 10, .inl (fun _ => iI 0))), (q12, .inl (c66, 10, .inl (fun _ => iI 0))), (q13, .inl (c67, 10, .inl (fun _ => iI 0))), (q14, .inl (c68, 10, .inl (fun _ => iI 0))), (q15, .inl (c69, 8, .inl (fun _ => iI 0))), (q16, .inl (c70, 10, .inl (fun _ => iI 0))), (q17, .inl (c71, 10, .inl (fun _ => iI 0))), (q18, .inr (0, [.ref q19, .ref q20, .ref q21, .ref q22, .ref q23, .ref q24, .ref q25, .ref q26, .ref q27, .int (iI 0), .int (iI 0), .int (iI 0), .int (iI 0)])), (q19, .inl (c72, 6, .inl (fun _ => iI 0))), (q20, .inl (c73, 36, .inl (fun _ => iI 0))), (q21, .inl (c74, 10, .inl (fun _ => iI 0))), (q22, .inl (c75, 10, .inl (fun _ => iI 0))), (q23, .inl (c76, 10, .inl (fun _ => iI 0))), (q24, .inl (c77, 10, .inl (fun _ => iI 0))), (q25, .inl (c78, 8, .inl (fun _ => iI 0))), (q26, .inl (c79, 10, .inl (fun _ => iI 0))), (q27, .inl (c80, 10, .inl (fun _ => iI 0))), (q28, .inr (7, [.ref q29, .ref q31, .ref q32])), (q29, .inr (8, [.ref q30, .int (iI 0)])), (q30, .inl (c81, 80, .inl (fun _ => iI 0))), (q31, .inr (6, [.ref q29, .int (iI 0), .int (iI 0), .int (iI (-1))])), (q32, .inl (c82, 9, .inl (fun _ => iI 0))), (q33, .inr (10, [.ref q34, .ref q35, .ref q36, .ref q37, .ref q38, .ref q39, .int (iI 0), .int (iI 0), .int (iI 0), .int (iI 0), .int (iI 0), .int (iI 0)])), (q34, .inl (c83, 6, .inl (fun _ => iI 0))), (q35, .inl (c84, 6, .inl (fun _ => iI 0))), (q36, .inl (c85, 10, .inl (fun _ => iI 0))), (q37, .inl (c86, 10, .inl (fun _ => iI 0))), (q38, .inl (c87, 60, .inl (fun _ => iI 0))), (q39, .inl (c88, 10, .inl (fun _ => iI 0))), (q40, .inr (5, [.ref q41, .ref q42, .ref q43, .int (iI 0)])), (q41, .inl (c89, 20, .inl (fun _ => iI 0))), (q42, .inl (c90, 20, .inl (fun _ => iI 0))), (q43, .inl (c91, 20, .inl (fun _ => iI 0))), (q44, .inl (c92, 2, .inr (.inr (.inr (.inr (va_up (va_up (fun _ => none) 0 (some q45)) 1 (some q47))))))), (q45, .inr (3, [.ref q46, .int (iI 0), .int (iI 0), .int (iI 0), .int (iI 0), .int (iI 0)])), (q46, .inl (c93, 10, .inl (fun _ => iI 0))), (q47, .inr (3, [.ref q48, .int (iI 0), .int (iI 0), .int (iI 0), .int (iI 0), .int (iI 0)])), (q48, .inl (c94, 10, .inl (fun _ => iI 0))), (q49, .inr (9, [.ref q50, .ref q51, .ref q52, .int (iI 0)])), (q50, .inl (c95, 1024, .inl (fun _ => iI 0))), (q51, .inl (c96, 10, .inl (fun _ => iI 0))), (q52, .inl (c97, 10, .inl (fun _ => iI 0))), (q53, .inr (2, [.ref q54, .ref q55, .ref q56, .ref q57, .ref q58, .int (iI 0), .int (iI 0), .int (iI 0), .int (iI 0), .int (iI 0)])), (q54, .inl (c98, 300, .inl (fun _ => iI 0))), (q55, .inl (c99, 360, .inl (fun _ => iI 0))), (q56, .inl (c100, 300, .inl (fun _ => iI 0))), (q57, .inl (c101, 300, .inl (fun _ => iI 0))), (q58, .inl (c102, 300, .inl (fun _ => iI 0))), (q59, .inl (c103, 10, .inl (fun _ => iI 0))), (q60, .inl (c104, 10, .inl (fun _ => iI 0))), (q105, .inr (12, [.int (iI 0), .ref q106, .ref q107, .int (iI 0), .ref q108, .ref q109, .ref q110, .ref q111, .int (iI 0), .ref q112, .int (iI 0), .int (iI 0), .int (iI 999), .ref q113, .int (iI 0), .ref q114, .int (iI 0), .int (iI 0), .null, .int (iI 0), .int (iI 0), .int (iI 0), .int (iI 0), .ref q115, .ref q116, .int (iI 0), .int (iI (-1)), .int (iI 0), .ref q117, .ref q118, .int (iI 0), .ref q119, .ref q120, .int (iI 0), .ref q121, .ref q122, .ref q123, .ref q124, .int (iI 0), .int (iI 0), .int (iI 0), .ref q125, .ref q126, .int (iI 0), .int (iI 0), .ref q127, .ref q128, .ref q129, .int (iI 0), .int (iI 0), .ref q130, .ref q131, .int (iI 0), .ref q132, .ref q133, .ref q134])), (q106, .inl (c135, 6, .inl (fun _ => iI 0))), (q107, .inl (c136, 36, .inl (fun _ => iI 0))), (q108, .inl (c137, 10, .inl (fun _ => iI 0))), (q109, .inl (c138, 10, .inl (fun _ => iI 0))), (q110, .inl (c139, 10, .inl (fun _ => iI 0))), (q111, .inl (c140, 10, .inl (fun _ => iI 0))), (q112, .inl (c141, 8, .inl (fun _ => iI 0))), (q113, .inl (c142, 80, .inl (fun _ => iI 0))), (q114, .inl (c143, 16, .inl (fun _ => iI 0))), (q115, .inl (c144, 240, .inl (fun _ => iI 0))), (q116, .inl (c145, 40, .inl (fun _ => iI 0))), (q117, .inl (c146, 10, .inl (fun _ => iI 0))), (q118, .inl (c147, 10, .inl (fun _ => iI 0))), (q119, .inl (c148, 6, .inl (fun _ => iI 0))), (q120, .inl (c149, 60, .inl (fun _ => iI 0))), (q121, .inl (c150, 80, .inl (fun _ => iI 0))), (q122, .inl (c151, 10, .inl (fun _ => iI 0))), (q123, .inl (c152, 10, .inl (fun _ => iI 0))), (q124, .inl (c153, 10, .inl (fun _ => iI 0))), (q125, .inl (c154, 10, .inl (fun _ => iI 0))), (q126, .inl (c155, 10, .inl (fun _ => iI 0))), (q127, .inl (c156, 1024, .inl (fun _ => iI 0))), (q128, .inl (c157, 3010, .inl (fun _ => iI 0))), (q129, .inl (c158, 90601, .inl (fun _ => iI 0))), (q130, .inl (c159, 301, .inl (fun _ => iI 0))), (q131, .inl (c160, 301, .inl (fun _ => iI 0))), (q132, .inl (c161, 24, .inl (fun _ => iI 0))), (q133, .inl (c162, 2, .inl (fun _ => iI 0))), (q134, .inl (c163, 2, .inl (fun _ => iI 0))), (q164, .inl (c165, 1, .inr (.inl (fun _ => Int64.ofInt 0))))]) [0, 1, 2, 3, 4, 5, 6, 7, 8, 9, 10, 11, 12, 13, 14, 15, 16, 17, 18, 19, 20, 21, 22, 23, 24, 25, 26, 27, 28, 29, 30, 31, 32, 33, 34, 35, 36, 37, 38, 39, 40, 41, 42, 43, 44, 45, 46, 47, 48, 49, 50, 51, 52, 53, 54, 55, 56, 57, 58, 59, 60, 61, 62, 63, 64, 65, 66, 67, 68, 69, 70, 71, 72, 73, 74, 75, 76, 77, 78, 79, 80, 81, 82, 83, 84, 85, 86, 87, 88, 89, 90] rfl
  have hD1 := hD.sub (ws' := [(q1, .inr (11, [.ref q2, .ref q4, .ref q5, .ref q6, .ref q8, .ref q18, .ref q28, .ref q33, .ref q40, .ref q44, .ref q49, .ref q53, .ref q59, .ref q60, .int (iI 0), .int (iI 0), .int (iI 0), .int (iI 999)])), (q2, .inr (8, [.ref q3, .int (iI 0)])), (q3, .inl (c61, 80, .inl (fun _ => iI 0))), (q4, .inr (6, [.ref q2, .int (iI 0), .int (iI 0), .int (iI (-1))])), (q5, .inr (1, [.ref q4])), (q6, .inr (4, [.ref q7, .int (iI 0)])), (q7, .inl (c62, 12, .inl (fun _ => iI 0))), (q8, .inr (0, [.ref q9, .ref q10, .ref q11, .ref q12, .ref q13, .ref q14, .ref q15, .ref q16, .ref q17, .int (iI 0), .int (iI 0), .int (iI 0), .int (iI 0)])), (q9, .inl (c63, 6, .inl (fun _ => iI 0))), (q10, .inl (c64, 36, .inl (fun _ => iI 0))), (q11, .inl (c65, 10, .inl (fun _ => iI 0))), (q12, .inl (c66, 10, .inl (fun _ => iI 0))), (q13, .inl (c67, 10, .inl (fun _ => iI 0))), (q14, .inl (c68, 10, .inl (fun _ => iI 0))), (q15, .inl (c69, 8, .inl (fun _ => iI 0))), (q16, .inl (c70, 10, .inl (fun _ => iI 0))), (q17, .inl (c71, 10, .inl (fun _ => iI 0))), (q18, .inr (0, [.ref q19, .ref q20, .ref q21, .ref q22, .ref q23, .ref q24, .ref q25, .ref q26, .ref q27, .int (iI 0), .int (iI 0), .int (iI 0), .int (iI 0)])), (q19, .inl (c72, 6, .inl (fun _ => iI 0))), (q20, .inl (c73, 36, .inl (fun _ => iI 0))), (q21, .inl (c74, 10, .inl (fun _ => iI 0))), (q22, .inl (c75, 10, .inl (fun _ => iI 0))), (q23, .inl (c76, 10, .inl (fun _ => iI 0))), (q24, .inl (c77, 10, .inl (fun _ => iI 0))), (q25, .inl (c78, 8, .inl (fun _ => iI 0))), (q26, .inl (c79, 10, .inl (fun _ => iI 0))), (q27, .inl (c80, 10, .inl (fun _ => iI 0))), (q28, .inr (7, [.ref q29, .ref q31, .ref q32])), (q29, .inr (8, [.ref q30, .int (iI 0)])), (q30, .inl (c81, 80, .inl (fun _ => iI 0))), (q31, .inr (6, [.ref q29, .int (iI 0), .int (iI 0), .int (iI (-1))])), (q32, .inl (c82, 9, .inl (fun _ => iI 0))), (q33, .inr (10, [.ref q34, .ref q35, .ref q36, .ref q37, .ref q38, .ref q39, .int (iI 0), .int (iI 0), .int (iI 0), .int (iI 0), .int (iI 0), .int (iI 0)])), (q34, .inl (c83, 6, .inl (fun _ => iI 0))), (q35, .inl (c84, 6, .inl (fun _ => iI 0))), (q36, .inl (c85, 10, .inl (fun _ => iI 0))), (q37, .inl (c86, 10, .inl (fun _ => iI 0))), (q38, .inl (c87, 60, .inl (fun _ => iI 0))), (q39, .inl (c88, 10, .inl (fun _ => iI 0))), (q40, .inr (5, [.ref q41, .ref q42, .ref q43, .int (iI 0)])), (q41, .inl (c89, 20, .inl (fun _ => iI 0))), (q42, .inl (c90, 20, .inl (fun _ => iI 0))), (q43, .inl (c91, 20, .inl (fun _ => iI 0))), (q44, .inl (c92, 2, .inr (.inr (.inr (.inr (va_up (va_up (fun _ => none) 0 (some q45)) 1 (some q47))))))), (q45, .inr (3, [.ref q46, .int (iI 0), .int (iI 0), .int (iI 0), .int (iI 0), .int (iI 0)])), (q46, .inl (c93, 10, .inl (fun _ => iI 0))), (q47, .inr (3, [.ref q48, .int (iI 0), .int (iI 0), .int (iI 0), .int (iI 0), .int (iI 0)])), (q48, .inl (c94, 10, .inl (fun _ => iI 0))), (q49, .inr (9, [.ref q50, .ref q51, .ref q52, .int (iI 0)])), (q50, .inl (c95, 1024, .inl (fun _ => iI 0))), (q51, .inl (c96, 10, .inl (fun _ => iI 0))), (q52, .inl (c97, 10, .inl (fun _ => iI 0))), (q53, .inr (2, [.ref q54, .ref q55, .ref q56, .ref q57, .ref q58, .int (iI 0), .int (iI 0), .int (iI 0), .int (iI 0), .int (iI 0)])), (q54, .inl (c98, 300, .inl (fun _ => iI 0))), (q55, .inl (c99, 360, .inl (fun _ => iI 0))), (q56, .inl (c100, 300, .inl (fun _ => iI 0))), (q57, .inl (c101, 300, .inl (fun _ => iI 0))), (q58, .inl (c102, 300, .inl (fun _ => iI 0))), (q59, .inl (c103, 10, .inl (fun _ => iI 0))), (q60, .inl (c104, 10, .inl (fun _ => iI 0))), (q105, .inr (12, [.int (iI 0), .ref q106, .ref q107, .int (iI 0), .ref q108, .ref q109, .ref q110, .ref q111, .int (iI 0), .ref q112, .int (iI 0), .int (iI 0), .int (iI 999), .ref q113, .int (iI 0), .ref q114, .int (iI 0), .int (iI 0), .null, .int (iI 0), .int (iI 0), .int (iI 0), .int (iI 0), .ref q115, .ref q116, .int (iI 0), .int (iI (-1)), .int (iI 0), .ref q117, .ref q118, .int (iI 0), .ref q119, .ref q120, .int (iI 0), .ref q121, .ref q122, .ref q123, .ref q124, .int (iI 0), .int (iI 0), .int (iI 0), .ref q125, .ref q126, .int (iI 0), .int (iI 0), .ref q127, .ref q128, .ref q129, .int (iI 0), .int (iI 0), .ref q130, .ref q131, .int (iI 0), .ref q132, .ref q133, .ref q134])), (q106, .inl (c135, 6, .inl (fun _ => iI 0))), (q107, .inl (c136, 36, .inl (fun _ => iI 0))), (q108, .inl (c137, 10, .inl (fun _ => iI 0))), (q109, .inl (c138, 10, .inl (fun _ => iI 0))), (q110, .inl (c139, 10, .inl (fun _ => iI 0))), (q111, .inl (c140, 10, .inl (fun _ => iI 0))), (q112, .inl (c141, 8, .inl (fun _ => iI 0))), (q113, .inl (c142, 80, .inl (fun _ => iI 0))), (q114, .inl (c143, 16, .inl (fun _ => iI 0))), (q115, .inl (c144, 240, .inl (fun _ => iI 0))), (q116, .inl (c145, 40, .inl (fun _ => iI 0))), (q117, .inl (c146, 10, .inl (fun _ => iI 0))), (q118, .inl (c147, 10, .inl (fun _ => iI 0))), (q119, .inl (c148, 6, .inl (fun _ => iI 0))), (q120, .inl (c149, 60, .inl (fun _ => iI 0))), (q121, .inl (c150, 80, .inl (fun _ => iI 0))), (q122, .inl (c151, 10, .inl (fun _ => iI 0))), (q123, .inl (c152, 10, .inl (fun _ => iI 0))), (q124, .inl (c153, 10, .inl (fun _ => iI 0))), (q125, .inl (c154, 10, .inl (fun _ => iI 0))), (q126, .inl (c155, 10, .inl (fun _ => iI 0))), (q127, .inl (c156, 1024, .inl (fun _ => iI 0))), (q128, .inl (c157, 3010, .inl (fun _ => iI 0))), (q129, .inl (c158, 90601, .inl (fun _ => iI 0))), (q130, .inl (c159, 301, .inl (fun _ => iI 0))), (q131, .inl (c160, 301, .inl (fun _ => iI 0))), (q132, .inl (c161, 24, .inl (fun _ => iI 0))), (q133, .inl (c162, 2, .inl (fun _ => iI 0))), (q134, .inl (c163, 2, .inl (fun _ => iI 0))), (q164, .inl (c165, 1, .inr (.inl (fun _ => Int64.ofInt 0))))]) [0, 1, 2, 3, 4, 5, 6, 7, 8, 9, 10, 11, 12, 13, 14, 15, 16, 17, 18, 19, 20, 21, 22, 23, 24, 25, 26, 27, 28, 29, 30, 31, 32, 33, 34, 35, 36, 37, 38, 39, 40, 41, 42, 43, 44, 45, 46, 47, 48, 49, 50, 51, 52, 53, 54, 55, 56, 57, 58, 59, 60, 61, 62, 63, 64, 65, 66, 67, 68, 69, 70, 71, 72, 73, 74, 75, 76, 77, 78, 79, 80, 81, 82, 83, 84, 85, 86, 87, 88, 89, 90] (by decide) rfl
  obtain ⟨ad, had⟩ : ∃ ad : Nat → Nat, ad = (fun o : Nat => [q1, q2, q3, q4, q5, q6, q7, q8, q9, q10, q11, q12, q13, q14, q15, q16, q17, q18, q19, q20, q21, q22, q23, q24, q25, q26, q27, q28, q29, q30, q31, q32, q33, q34, q35, q36, q37, q38, q39, q40, q41, q42, q43, q44, q45, q46, q47, q48, q49, q50, q51, q52, q53, q54, q55, q56, q57, q58, q59, q60, q105, q106, q107, q108, q109, q110, q111, q112, q113, q114, q115, q116, q117, q118, q119, q120, q121, q122, q123, q124, q125, q126, q127, q128, q129, q130, q131, q132, q133, q134, q164, ka, kv, b].getD o 0) := ⟨_, rfl⟩
  obtain ⟨cA, hcA⟩ : ∃ cA : Nat → ClassId, cA = (fun o : Nat => [c163, c163, c61, c163, c163, c163, c62, c163, c63, c64, c65, c66, c67, c68, c69, c70, c71, c163, c72, c73, c74, c75, c76, c77, c78, c79, c80, c163, c163, c81, c163, c82, c163, c83, c84, c85, c86, c87, c88, c163, c89, c90, c91, c92, c163, c93, c163, c94, c163, c95, c96, c97, c163, c98, c99, c100, c101, c102, c103, c104, c163, c135, c136, c137, c138, c139, c140, c141, c142, c143, c144, c145, c146, c147, c148, c149, c150, c151, c152, c153, c154, c155, c156, c157, c158, c159, c160, c161, c162, c163, c165].getD o c163) := ⟨_, rfl⟩
  have hP2 := va_P_re (e' := .inl (c92, 2, .inr (.inr (.inr (.inr (fun i => some (ad (pFr 43 i)))))))) hP1 43 rfl (fun h => ?_)
  have hD2 := hD1.set (p := 43) (e := .inl (c92, 2, .inr (.inr (.inr (.inr (fun i => some (ad (pFr 43 i)))))))) rfl
  have hPW : va_P G pcl (pW ad cA M0) H := by
    have e1 : pW ad cA M0 = ([(q1, .inr (11, [.ref q2, .ref q4, .ref q5, .ref q6, .ref q8, .ref q18, .ref q28, .ref q33, .ref q40, .ref q44, .ref q49, .ref q53, .ref q59, .ref q60, .int (iI 0), .int (iI 0), .int (iI 0), .int (iI 999)])), (q2, .inr (8, [.ref q3, .int (iI 0)])), (q3, .inl (c61, 80, .inl (fun _ => iI 0))), (q4, .inr (6, [.ref q2, .int (iI 0), .int (iI 0), .int (iI (-1))])), (q5, .inr (1, [.ref q4])), (q6, .inr (4, [.ref q7, .int (iI 0)])), (q7, .inl (c62, 12, .inl (fun _ => iI 0))), (q8, .inr (0, [.ref q9, .ref q10, .ref q11, .ref q12, .ref q13, .ref q14, .ref q15, .ref q16, .ref q17, .int (iI 0), .int (iI 0), .int (iI 0), .int (iI 0)])), (q9, .inl (c63, 6, .inl (fun _ => iI 0))), (q10, .inl (c64, 36, .inl (fun _ => iI 0))), (q11, .inl (c65, 10, .inl (fun _ => iI 0))), (q12, .inl (c66, 10, .inl (fun _ => iI 0))), (q13, .inl (c67, 10, .inl (fun _ => iI 0))), (q14, .inl (c68, 10, .inl (fun _ => iI 0))), (q15, .inl (c69, 8, .inl (fun _ => iI 0))), (q16, .inl (c70, 10, .inl (fun _ => iI 0))), (q17, .inl (c71, 10, .inl (fun _ => iI 0))), (q18, .inr (0, [.ref q19, .ref q20, .ref q21, .ref q22, .ref q23, .ref q24, .ref q25, .ref q26, .ref q27, .int (iI 0), .int (iI 0), .int (iI 0), .int (iI 0)])), (q19, .inl (c72, 6, .inl (fun _ => iI 0))), (q20, .inl (c73, 36, .inl (fun _ => iI 0))), (q21, .inl (c74, 10, .inl (fun _ => iI 0))), (q22, .inl (c75, 10, .inl (fun _ => iI 0))), (q23, .inl (c76, 10, .inl (fun _ => iI 0))), (q24, .inl (c77, 10, .inl (fun _ => iI 0))), (q25, .inl (c78, 8, .inl (fun _ => iI 0))), (q26, .inl (c79, 10, .inl (fun _ => iI 0))), (q27, .inl (c80, 10, .inl (fun _ => iI 0))), (q28, .inr (7, [.ref q29, .ref q31, .ref q32])), (q29, .inr (8, [.ref q30, .int (iI 0)])), (q30, .inl (c81, 80, .inl (fun _ => iI 0))), (q31, .inr (6, [.ref q29, .int (iI 0), .int (iI 0), .int (iI (-1))])), (q32, .inl (c82, 9, .inl (fun _ => iI 0))), (q33, .inr (10, [.ref q34, .ref q35, .ref q36, .ref q37, .ref q38, .ref q39, .int (iI 0), .int (iI 0), .int (iI 0), .int (iI 0), .int (iI 0), .int (iI 0)])), (q34, .inl (c83, 6, .inl (fun _ => iI 0))), (q35, .inl (c84, 6, .inl (fun _ => iI 0))), (q36, .inl (c85, 10, .inl (fun _ => iI 0))), (q37, .inl (c86, 10, .inl (fun _ => iI 0))), (q38, .inl (c87, 60, .inl (fun _ => iI 0))), (q39, .inl (c88, 10, .inl (fun _ => iI 0))), (q40, .inr (5, [.ref q41, .ref q42, .ref q43, .int (iI 0)])), (q41, .inl (c89, 20, .inl (fun _ => iI 0))), (q42, .inl (c90, 20, .inl (fun _ => iI 0))), (q43, .inl (c91, 20, .inl (fun _ => iI 0))), (q44, .inl (c92, 2, .inr (.inr (.inr (.inr (fun i => some (ad (pFr 43 i)))))))), (q45, .inr (3, [.ref q46, .int (iI 0), .int (iI 0), .int (iI 0), .int (iI 0), .int (iI 0)])), (q46, .inl (c93, 10, .inl (fun _ => iI 0))), (q47, .inr (3, [.ref q48, .int (iI 0), .int (iI 0), .int (iI 0), .int (iI 0), .int (iI 0)])), (q48, .inl (c94, 10, .inl (fun _ => iI 0))), (q49, .inr (9, [.ref q50, .ref q51, .ref q52, .int (iI 0)])), (q50, .inl (c95, 1024, .inl (fun _ => iI 0))), (q51, .inl (c96, 10, .inl (fun _ => iI 0))), (q52, .inl (c97, 10, .inl (fun _ => iI 0))), (q53, .inr (2, [.ref q54, .ref q55, .ref q56, .ref q57, .ref q58, .int (iI 0), .int (iI 0), .int (iI 0), .int (iI 0), .int (iI 0)])), (q54, .inl (c98, 300, .inl (fun _ => iI 0))), (q55, .inl (c99, 360, .inl (fun _ => iI 0))), (q56, .inl (c100, 300, .inl (fun _ => iI 0))), (q57, .inl (c101, 300, .inl (fun _ => iI 0))), (q58, .inl (c102, 300, .inl (fun _ => iI 0))), (q59, .inl (c103, 10, .inl (fun _ => iI 0))), (q60, .inl (c104, 10, .inl (fun _ => iI 0))), (q105, .inr (12, [.int (iI 0), .ref q106, .ref q107, .int (iI 0), .ref q108, .ref q109, .ref q110, .ref q111, .int (iI 0), .ref q112, .int (iI 0), .int (iI 0), .int (iI 999), .ref q113, .int (iI 0), .ref q114, .int (iI 0), .int (iI 0), .null, .int (iI 0), .int (iI 0), .int (iI 0), .int (iI 0), .ref q115, .ref q116, .int (iI 0), .int (iI (-1)), .int (iI 0), .ref q117, .ref q118, .int (iI 0), .ref q119, .ref q120, .int (iI 0), .ref q121, .ref q122, .ref q123, .ref q124, .int (iI 0), .int (iI 0), .int (iI 0), .ref q125, .ref q126, .int (iI 0), .int (iI 0), .ref q127, .ref q128, .ref q129, .int (iI 0), .int (iI 0), .ref q130, .ref q131, .int (iI 0), .ref q132, .ref q133, .ref q134])), (q106, .inl (c135, 6, .inl (fun _ => iI 0))), (q107, .inl (c136, 36, .inl (fun _ => iI 0))), (q108, .inl (c137, 10, .inl (fun _ => iI 0))), (q109, .inl (c138, 10, .inl (fun _ => iI 0))), (q110, .inl (c139, 10, .inl (fun _ => iI 0))), (q111, .inl (c140, 10, .inl (fun _ => iI 0))), (q112, .inl (c141, 8, .inl (fun _ => iI 0))), (q113, .inl (c142, 80, .inl (fun _ => iI 0))), (q114, .inl (c143, 16, .inl (fun _ => iI 0))), (q115, .inl (c144, 240, .inl (fun _ => iI 0))), (q116, .inl (c145, 40, .inl (fun _ => iI 0))), (q117, .inl (c146, 10, .inl (fun _ => iI 0))), (q118, .inl (c147, 10, .inl (fun _ => iI 0))), (q119, .inl (c148, 6, .inl (fun _ => iI 0))), (q120, .inl (c149, 60, .inl (fun _ => iI 0))), (q121, .inl (c150, 80, .inl (fun _ => iI 0))), (q122, .inl (c151, 10, .inl (fun _ => iI 0))), (q123, .inl (c152, 10, .inl (fun _ => iI 0))), (q124, .inl (c153, 10, .inl (fun _ => iI 0))), (q125, .inl (c154, 10, .inl (fun _ => iI 0))), (q126, .inl (c155, 10, .inl (fun _ => iI 0))), (q127, .inl (c156, 1024, .inl (fun _ => iI 0))), (q128, .inl (c157, 3010, .inl (fun _ => iI 0))), (q129, .inl (c158, 90601, .inl (fun _ => iI 0))), (q130, .inl (c159, 301, .inl (fun _ => iI 0))), (q131, .inl (c160, 301, .inl (fun _ => iI 0))), (q132, .inl (c161, 24, .inl (fun _ => iI 0))), (q133, .inl (c162, 2, .inl (fun _ => iI 0))), (q134, .inl (c163, 2, .inl (fun _ => iI 0))), (q164, .inl (c165, 1, .inr (.inl (fun _ => Int64.ofInt 0))))] : va_W) := by subst had hcA; rfl
    rw [e1]; exact hP2
  have hDW : va_D (fun q : Nat => s.heap.size ≤ q) (pW ad cA M0) := by
    have e1 : pW ad cA M0 = ([(q1, .inr (11, [.ref q2, .ref q4, .ref q5, .ref q6, .ref q8, .ref q18, .ref q28, .ref q33, .ref q40, .ref q44, .ref q49, .ref q53, .ref q59, .ref q60, .int (iI 0), .int (iI 0), .int (iI 0), .int (iI 999)])), (q2, .inr (8, [.ref q3, .int (iI 0)])), (q3, .inl (c61, 80, .inl (fun _ => iI 0))), (q4, .inr (6, [.ref q2, .int (iI 0), .int (iI 0), .int (iI (-1))])), (q5, .inr (1, [.ref q4])), (q6, .inr (4, [.ref q7, .int (iI 0)])), (q7, .inl (c62, 12, .inl (fun _ => iI 0))), (q8, .inr (0, [.ref q9, .ref q10, .ref q11, .ref q12, .ref q13, .ref q14, .ref q15, .ref q16, .ref q17, .int (iI 0), .int (iI 0), .int (iI 0), .int (iI 0)])), (q9, .inl (c63, 6, .inl (fun _ => iI 0))), (q10, .inl (c64, 36, .inl (fun _ => iI 0))), (q11, .inl (c65, 10, .inl (fun _ => iI 0))), (q12, .inl (c66, 10, .inl (fun _ => iI 0))), (q13, .inl (c67, 10, .inl (fun _ => iI 0))), (q14, .inl (c68, 10, .inl (fun _ => iI 0))), (q15, .inl (c69, 8, .inl (fun _ => iI 0))), (q16, .inl (c70, 10, .inl (fun _ => iI 0))), (q17, .inl (c71, 10, .inl (fun _ => iI 0))), (q18, .inr (0, [.ref q19, .ref q20, .ref q21, .ref q22, .ref q23, .ref q24, .ref q25, .ref q26, .ref q27, .int (iI 0), .int (iI 0), .int (iI 0), .int (iI 0)])), (q19, .inl (c72, 6, .inl (fun _ => iI 0))), (q20, .inl (c73, 36, .inl (fun _ => iI 0))), (q21, .inl (c74, 10, .inl (fun _ => iI 0))), (q22, .inl (c75, 10, .inl (fun _ => iI 0))), (q23, .inl (c76, 10, .inl (fun _ => iI 0))), (q24, .inl (c77, 10, .inl (fun _ => iI 0))), (q25, .inl (c78, 8, .inl (fun _ => iI 0))), (q26, .inl (c79, 10, .inl (fun _ => iI 0))), (q27, .inl (c80, 10, .inl (fun _ => iI 0))), (q28, .inr (7, [.ref q29, .ref q31, .ref q32])), (q29, .inr (8, [.ref q30, .int (iI 0)])), (q30, .inl (c81, 80, .inl (fun _ => iI 0))), (q31, .inr (6, [.ref q29, .int (iI 0), .int (iI 0), .int (iI (-1))])), (q32, .inl (c82, 9, .inl (fun _ => iI 0))), (q33, .inr (10, [.ref q34, .ref q35, .ref q36, .ref q37, .ref q38, .ref q39, .int (iI 0), .int (iI 0), .int (iI 0), .int (iI 0), .int (iI 0), .int (iI 0)])), (q34, .inl (c83, 6, .inl (fun _ => iI 0))), (q35, .inl (c84, 6, .inl (fun _ => iI 0))), (q36, .inl (c85, 10, .inl (fun _ => iI 0))), (q37, .inl (c86, 10, .inl (fun _ => iI 0))), (q38, .inl (c87, 60, .inl (fun _ => iI 0))), (q39, .inl (c88, 10, .inl (fun _ => iI 0))), (q40, .inr (5, [.ref q41, .ref q42, .ref q43, .int (iI 0)])), (q41, .inl (c89, 20, .inl (fun _ => iI 0))), (q42, .inl (c90, 20, .inl (fun _ => iI 0))), (q43, .inl (c91, 20, .inl (fun _ => iI 0))), (q44, .inl (c92, 2, .inr (.inr (.inr (.inr (fun i => some (ad (pFr 43 i)))))))), (q45, .inr (3, [.ref q46, .int (iI 0), .int (iI 0), .int (iI 0), .int (iI 0), .int (iI 0)])), (q46, .inl (c93, 10, .inl (fun _ => iI 0))), (q47, .inr (3, [.ref q48, .int (iI 0), .int (iI 0), .int (iI 0), .int (iI 0), .int (iI 0)])), (q48, .inl (c94, 10, .inl (fun _ => iI 0))), (q49, .inr (9, [.ref q50, .ref q51, .ref q52, .int (iI 0)])), (q50, .inl (c95, 1024, .inl (fun _ => iI 0))), (q51, .inl (c96, 10, .inl (fun _ => iI 0))), (q52, .inl (c97, 10, .inl (fun _ => iI 0))), (q53, .inr (2, [.ref q54, .ref q55, .ref q56, .ref q57, .ref q58, .int (iI 0), .int (iI 0), .int (iI 0), .int (iI 0), .int (iI 0)])), (q54, .inl (c98, 300, .inl (fun _ => iI 0))), (q55, .inl (c99, 360, .inl (fun _ => iI 0))), (q56, .inl (c100, 300, .inl (fun _ => iI 0))), (q57, .inl (c101, 300, .inl (fun _ => iI 0))), (q58, .inl (c102, 300, .inl (fun _ => iI 0))), (q59, .inl (c103, 10, .inl (fun _ => iI 0))), (q60, .inl (c104, 10, .inl (fun _ => iI 0))), (q105, .inr (12, [.int (iI 0), .ref q106, .ref q107, .int (iI 0), .ref q108, .ref q109, .ref q110, .ref q111, .int (iI 0), .ref q112, .int (iI 0), .int (iI 0), .int (iI 999), .ref q113, .int (iI 0), .ref q114, .int (iI 0), .int (iI 0), .null, .int (iI 0), .int (iI 0), .int (iI 0), .int (iI 0), .ref q115, .ref q116, .int (iI 0), .int (iI (-1)), .int (iI 0), .ref q117, .ref q118, .int (iI 0), .ref q119, .ref q120, .int (iI 0), .ref q121, .ref q122, .ref q123, .ref q124, .int (iI 0), .int (iI 0), .int (iI 0), .ref q125, .ref q126, .int (iI 0), .int (iI 0), .ref q127, .ref q128, .ref q129, .int (iI 0), .int (iI 0), .ref q130, .ref q131, .int (iI 0), .ref q132, .ref q133, .ref q134])), (q106, .inl (c135, 6, .inl (fun _ => iI 0))), (q107, .inl (c136, 36, .inl (fun _ => iI 0))), (q108, .inl (c137, 10, .inl (fun _ => iI 0))), (q109, .inl (c138, 10, .inl (fun _ => iI 0))), (q110, .inl (c139, 10, .inl (fun _ => iI 0))), (q111, .inl (c140, 10, .inl (fun _ => iI 0))), (q112, .inl (c141, 8, .inl (fun _ => iI 0))), (q113, .inl (c142, 80, .inl (fun _ => iI 0))), (q114, .inl (c143, 16, .inl (fun _ => iI 0))), (q115, .inl (c144, 240, .inl (fun _ => iI 0))), (q116, .inl (c145, 40, .inl (fun _ => iI 0))), (q117, .inl (c146, 10, .inl (fun _ => iI 0))), (q118, .inl (c147, 10, .inl (fun _ => iI 0))), (q119, .inl (c148, 6, .inl (fun _ => iI 0))), (q120, .inl (c149, 60, .inl (fun _ => iI 0))), (q121, .inl (c150, 80, .inl (fun _ => iI 0))), (q122, .inl (c151, 10, .inl (fun _ => iI 0))), (q123, .inl (c152, 10, .inl (fun _ => iI 0))), (q124, .inl (c153, 10, .inl (fun _ => iI 0))), (q125, .inl (c154, 10, .inl (fun _ => iI 0))), (q126, .inl (c155, 10, .inl (fun _ => iI 0))), (q127, .inl (c156, 1024, .inl (fun _ => iI 0))), (q128, .inl (c157, 3010, .inl (fun _ => iI 0))), (q129, .inl (c158, 90601, .inl (fun _ => iI 0))), (q130, .inl (c159, 301, .inl (fun _ => iI 0))), (q131, .inl (c160, 301, .inl (fun _ => iI 0))), (q132, .inl (c161, 24, .inl (fun _ => iI 0))), (q133, .inl (c162, 2, .inl (fun _ => iI 0))), (q134, .inl (c163, 2, .inl (fun _ => iI 0))), (q164, .inl (c165, 1, .inr (.inl (fun _ => Int64.ofInt 0))))] : va_W) := by subst had hcA; rfl
    rw [e1]; exact hD2
  have hKW : va_K G pcl (ptys cA) s := by
    have e1 : ptys cA = [(c61, .int), (c62, .int), (c63, .int), (c64, .int), (c65, .int), (c66, .int), (c67, .int), (c68, .int), (c69, .int), (c70, .int), (c71, .int), (c72, .int), (c73, .int), (c74, .int), (c75, .int), (c76, .int), (c77, .int), (c78, .int), (c79, .int), (c80, .int), (c81, .int), (c82, .int), (c83, .int), (c84, .int), (c85, .int), (c86, .int), (c87, .int), (c88, .int), (c89, .int), (c90, .int), (c91, .int), (c92, .object "SetsStayTogether$Kept"), (c93, .int), (c94, .int), (c95, .boolean), (c96, .int), (c97, .int), (c98, .int), (c99, .int), (c100, .int), (c101, .int), (c102, .int), (c103, .int), (c104, .int), (c135, .int), (c136, .int), (c137, .int), (c138, .int), (c139, .int), (c140, .int), (c141, .int), (c142, .byte), (c143, .int), (c144, .int), (c145, .byte), (c146, .int), (c147, .int), (c148, .int), (c149, .int), (c150, .int), (c151, .int), (c152, .int), (c153, .int), (c154, .int), (c155, .int), (c156, .boolean), (c157, .int), (c158, .int), (c159, .int), (c160, .int), (c161, .int), (c162, .boolean), (c163, .int), (c165, .long)] := by subst hcA; rfl
    rw [e1]; exact hK.sub [0, 1, 2, 3, 4, 5, 6, 7, 8, 9, 10, 11, 12, 13, 14, 15, 16, 17, 18, 19, 20, 21, 22, 23, 24, 25, 26, 27, 28, 29, 30, 31, 32, 33, 34, 35, 36, 37, 38, 39, 40, 41, 42, 43, 44, 45, 46, 47, 48, 49, 50, 51, 52, 53, 54, 55, 56, 57, 58, 59, 60, 61, 62, 63, 64, 65, 66, 67, 68, 69, 70, 71, 72, 73] rfl
  refine lv_iconst (v := iI 0) hx hb (show decode code 20 = .ok (.iconst 0, 1) by decide +kernel) rfl ?_
  refine lv_istore (i := 4) (lv' := [(4, .int (iI 0)), (3, .ref q164), (2, .ref q105), (1, .ref q1), (0, .ref b)]) hx hb (show decode code 21 = .ok (.istore 4, 2) by decide +kernel) hl (by decide) rfl (fun ls hl => ?_)
  have e93 : ad 93 = b := by subst had; rfl
  have hC : lawCtx p l s m meth c G ad cA L xs a1 a2 a3 := by
    refine ⟨hx, hb, hml, hown, by rw [e93]; exact hp, hnw, hKW, ⟨?_, hRO2, ?_⟩, hr, hlocks, ?_, hTh, ⟨by rw [e93]; exact hX, by rw [e93]; exact hbl, by rw [e93]; exact hbA, by omega⟩⟩
    · have e91 : ad 91 = ka := by subst had; rfl
      have e92 : ad 92 = kv := by subst had; rfl
      rw [e91, e92]; exact hRO1
    · have e91 : ad 91 = ka := by subst had; rfl
      rw [e91]; exact hRO3
    · exact notrace_of hflags
  refine W.widen (k := 100 + 0) (n := 200000 + 6 * 0) (Nat.le_of_ble_eq_true rfl) (Nat.le_of_ble_eq_true rfl) ?_
  have hLs : pLs ad 7 [.inr 95, .inr 2, .inr 62, .inr 92, .inl (Int.ofNat (5 * 0)), .inr 0, .inr 0] ls := by
    refine ⟨rfl, hl.1, hl.2.1, fun i v hv hne => ?_⟩
    match i, hv with
    | 0, hv => cases hv; show ls[0]? = some (.val (.ref (ad 93))); rw [show ad 93 = b by subst had; rfl]; exact lv_at hl 4 rfl
    | 1, hv => cases hv; show ls[1]? = some (.val (.ref (ad 0))); rw [show ad 0 = q1 by subst had; rfl]; exact lv_at hl 3 rfl
    | 2, hv => cases hv; show ls[2]? = some (.val (.ref (ad 60))); rw [show ad 60 = q105 by subst had; rfl]; exact lv_at hl 2 rfl
    | 3, hv => cases hv; show ls[3]? = some (.val (.ref (ad 90))); rw [show ad 90 = q164 by subst had; rfl]; exact lv_at hl 1 rfl
    | 4, hv => cases hv; exact lv_at hl 0 rfl
    | 5, hv => cases hv; exact absurd rfl hne
    | 6, hv => cases hv; exact absurd rfl hne
    | i + 7, hv => simp at hv
  have hfin := law_loop (e := e) (below := below) hC (Nat.le_refl 1000) hL hstep L 0 M0 (Nat.zero_le _) (by omega) hI H locs ls (.inr 0) (.inr 0) ⟨hPW, hDW, hS⟩ hLs
  rw [e93] at hfin
  exact hfin
  -- the shelf, place by place
  show H[_]? = some (vp_cell _ _)
  refine (show H[_]? = some (vp_cell _ _) from h).trans ?_
  rw [vp_cell_q, vp_cell_q]
  refine congrArg some (arrV_ext fun j hj => ?_)
  subst had
  match j, hj with
  | 0, _ => rfl
  | 1, _ => rfl
  | j + 2, hj => exact absurd hj (by omega)
end
section
/-! one turn of the law, out of what its calls do (by program) -/
def okC (cmp : Bool) (D kx km : Nat) (ax am : List pV) (Inv : pM → Prop) (M : pM) : Prop := ∃ v w M1 M2, xF D kx ax M = rI v M1 ∧ xF D km am M1 = rI w M2 ∧ (cmp = true → v = w) ∧ Inv M2
def okT0 (D k pl km : Nat) (ax am : List pV) (Inv : pM → Prop) (M : pM) : Prop := ∃ v w M1 M2, yL D k pl ax M = rI v M1 ∧ xF D km am M1 = rI w M2 ∧ Inv M2
def cmpc (c : Nat) : Bool := Nat.beq c 44
def callOK (D : Nat) (Inv : pM → Prop) (M : pM) (a1 a2 a3 a4 : Int) (c : Nat) : Prop := match c with
  | 0 => okC (cmpc 0) D 0 175 [.inr 2, .inl a1] [.inr 62, .inl a1] Inv M
  | 1 => okC (cmpc 1) D 1 176 [.inr 2, .inl a1] [.inr 62, .inl a1] Inv M
  | 2 => okC (cmpc 2) D 2 184 [.inr 2] [.inr 62] Inv M
  | 3 => okC (cmpc 3) D 3 193 [.inr 2] [.inr 62] Inv M
  | 4 => okT0 D 4 10 199 [.inr 2, .inl a1, .inl a2] [.inr 62, .inl a1, .inl a2] Inv M
  | 5 => okT0 D 5 10 201 [.inr 2, .inl a1, .inl a2] [.inr 62, .inl a1, .inl a2] Inv M
  | 6 => okC (cmpc 6) D 6 202 [.inr 2, .inl a1] [.inr 62, .inl a1] Inv M
  | 7 => okC (cmpc 7) D 7 203 [.inr 2, .inl a1, .inl a2] [.inr 62, .inl a1, .inl a2] Inv M
  | 8 => okC (cmpc 8) D 8 204 [.inr 2, .inl a1, .inl a2, .inl a3] [.inr 62, .inl a1, .inl a2, .inl a3] Inv M
  | 9 => okC (cmpc 9) D 9 205 [.inr 2, .inl a1] [.inr 62, .inl a1] Inv M
  | 10 => okC (cmpc 10) D 10 206 [.inr 2, .inl a1, .inl a2, .inl a3, .inl a4] [.inr 62, .inl a1, .inl a2, .inl a3, .inl a4] Inv M
  | 11 => okC (cmpc 11) D 11 216 [.inr 2, .inl a1, .inl a2] [.inr 62, .inl a1, .inl a2] Inv M
  | 12 => okC (cmpc 12) D 12 218 [.inr 2] [.inr 62] Inv M
  | 13 => okC (cmpc 13) D 13 219 [.inr 2] [.inr 62] Inv M
  | 14 => okC (cmpc 14) D 14 220 [.inr 2] [.inr 62] Inv M
  | 15 => okC (cmpc 15) D 15 221 [.inr 2, .inl a1, .inl a2] [.inr 62, .inl a1, .inl a2] Inv M
  | 16 => okC (cmpc 16) D 16 222 [.inr 2] [.inr 62] Inv M
  | 17 => okC (cmpc 17) D 17 224 [.inr 2] [.inr 62] Inv M
  | 18 => okC (cmpc 18) D 18 225 [.inr 2, .inl a1] [.inr 62, .inl a1] Inv M
  | 19 => okC (cmpc 19) D 19 226 [.inr 2, .inl a1] [.inr 62, .inl a1] Inv M
  | 20 => okC (cmpc 20) D 20 227 [.inr 2] [.inr 62] Inv M
  | 21 => okC (cmpc 21) D 21 234 [.inr 2] [.inr 62] Inv M
  | 22 => okC (cmpc 22) D 22 235 [.inr 2] [.inr 62] Inv M
  | 23 => okC (cmpc 23) D 23 236 [.inr 2] [.inr 62] Inv M
  | 24 => okC (cmpc 24) D 24 238 [.inr 2] [.inr 62] Inv M
  | 25 => okC (cmpc 25) D 25 239 [.inr 2, .inl a1, .inl a2] [.inr 62, .inl a1, .inl a2] Inv M
  | 26 => okC (cmpc 26) D 26 240 [.inr 2] [.inr 62] Inv M
  | 27 => okC (cmpc 27) D 27 241 [.inr 2, .inl a1, .inl a2] [.inr 62, .inl a1, .inl a2] Inv M
  | 28 => okC (cmpc 28) D 28 242 [.inr 2, .inl a1] [.inr 62, .inl a1] Inv M
  | 29 => okC (cmpc 29) D 29 243 [.inr 2, .inl a1, .inl a2] [.inr 62, .inl a1, .inl a2] Inv M
  | 30 => okC (cmpc 30) D 30 244 [.inr 2, .inl a1] [.inr 62, .inl a1] Inv M
  | 31 => okC (cmpc 31) D 31 245 [.inr 2, .inl a1, .inl a2] [.inr 62, .inl a1, .inl a2] Inv M
  | 32 => okC (cmpc 32) D 32 246 [.inr 2] [.inr 62] Inv M
  | 33 => okC (cmpc 33) D 33 248 [.inr 2] [.inr 62] Inv M
  | 34 => okC (cmpc 34) D 34 250 [.inr 2, .inl a1, .inl a2] [.inr 62, .inl a1, .inl a2] Inv M
  | 35 => okC (cmpc 35) D 35 251 [.inr 2, .inl a1, .inl a2] [.inr 62, .inl a1, .inl a2] Inv M
  | 36 => okC (cmpc 36) D 36 252 [.inr 2] [.inr 62] Inv M
  | 37 => okC (cmpc 37) D 37 254 [.inr 2, .inl a1] [.inr 62, .inl a1] Inv M
  | 38 => okC (cmpc 38) D 38 255 [.inr 2] [.inr 62] Inv M
  | 39 => okC (cmpc 39) D 39 257 [.inr 2] [.inr 62] Inv M
  | 40 => okC (cmpc 40) D 40 259 [.inr 2] [.inr 62] Inv M
  | 41 => okC (cmpc 41) D 41 263 [.inr 2] [.inr 62] Inv M
  | 42 => okC (cmpc 42) D 42 264 [.inr 2] [.inr 62] Inv M
  | 43 => okC (cmpc 43) D 43 266 [.inr 2, .inl a1] [.inr 62, .inl a1] Inv M
  | 44 => okC (cmpc 44) D 44 267 [.inr 2, .inl a1] [.inr 62, .inl a1] Inv M
  | 45 => okC (cmpc 45) D 45 268 [.inr 2, .inl a1] [.inr 62, .inl a1] Inv M
  | 46 => okT0 D 46 7 269 [.inr 2, .inl a1] [.inr 62, .inl a1] Inv M
  | _ => Inv M
theorem lawX_ok {Inv : Nat → pM → Prop} {j : Nat} {M : pM} (h : Inv (j + 1) M) (u5 u6 : pV) : lawX Inv j 13 [.inr 95, .inr 2, .inr 62, .inr 92, .inl (Int.ofNat (5 * j) + 5), u5, u6] [] M = some (some (.inl 1), M) := by
  unfold lawX
  exact if_pos ⟨rfl, rfl, h, _, _, rfl⟩
theorem lawX1_ok {D L : Nat} {xs : Nat → Int32} {Inv : Nat → pM → Prop} {j : Nat} {M : pM} (h : Inv (j + 1) M) (u5 u6 : pV) : lawX1 D L xs Inv j 13 [.inr 95, .inr 2, .inr 62, .inr 92, .inl (Int.ofNat (5 * j) + 5), u5, u6] [] M = some (some (.inl 1), M) := lawX_ok h u5 u6
set_option maxHeartbeats 1000000 in
theorem turn_0 {D L : Nat} {xs : Nat → Int32} {Inv : Nat → pM → Prop} {j : Nat} {M : pM} (u5 u6 : pV) (hj : 5 * j + 5 ≤ L) (h : callOK D (Inv (j + 1)) M ((xs (Int.ofNat (5 * j) + 1).toNat).toInt) ((xs (Int.ofNat (5 * j) + 2).toNat).toInt) ((xs (Int.ofNat (5 * j) + 3).toNat).toInt) ((xs (Int.ofNat (5 * j) + 4).toNat).toInt) 0) : ∃ M', lawC D L xs Inv j 25 [.inr 95, .inr 2, .inr 62, .inr 92, .inl (Int.ofNat (5 * j)), u5, u6] [] M = some (some (.inl 1), M') := by
  have h1 : 0 ≤ Int.ofNat (5 * j) + 1 ∧ Int.ofNat (5 * j) + 1 < Int.ofNat L := by simp only [Int.ofNat_eq_natCast]; omega
  obtain ⟨v, y, M1, M2, e1, e2, e3, e4⟩ := h
  unfold lawC
  rw [LT_0]
  simp only [if_pos h1, e1, e2, pbI_rI]
  exact ⟨_, lawX1_ok e4 _ _⟩
set_option maxHeartbeats 1000000 in
theorem turn_1 {D L : Nat} {xs : Nat → Int32} {Inv : Nat → pM → Prop} {j : Nat} {M : pM} (u5 u6 : pV) (hj : 5 * j + 5 ≤ L) (h : callOK D (Inv (j + 1)) M ((xs (Int.ofNat (5 * j) + 1).toNat).toInt) ((xs (Int.ofNat (5 * j) + 2).toNat).toInt) ((xs (Int.ofNat (5 * j) + 3).toNat).toInt) ((xs (Int.ofNat (5 * j) + 4).toNat).toInt) 1) : ∃ M', lawC D L xs Inv j 42 [.inr 95, .inr 2, .inr 62, .inr 92, .inl (Int.ofNat (5 * j)), u5, u6] [] M = some (some (.inl 1), M') := by
  have h1 : 0 ≤ Int.ofNat (5 * j) + 1 ∧ Int.ofNat (5 * j) + 1 < Int.ofNat L := by simp only [Int.ofNat_eq_natCast]; omega
  obtain ⟨v, y, M1, M2, e1, e2, e3, e4⟩ := h
  unfold lawC
  rw [LT_1]
  simp only [if_pos h1, e1, e2, pbI_rI]
  exact ⟨_, lawX1_ok e4 _ _⟩
set_option maxHeartbeats 1000000 in
theorem turn_2 {D L : Nat} {xs : Nat → Int32} {Inv : Nat → pM → Prop} {j : Nat} {M : pM} (u5 u6 : pV) (hj : 5 * j + 5 ≤ L) (h : callOK D (Inv (j + 1)) M ((xs (Int.ofNat (5 * j) + 1).toNat).toInt) ((xs (Int.ofNat (5 * j) + 2).toNat).toInt) ((xs (Int.ofNat (5 * j) + 3).toNat).toInt) ((xs (Int.ofNat (5 * j) + 4).toNat).toInt) 2) : ∃ M', lawC D L xs Inv j 59 [.inr 95, .inr 2, .inr 62, .inr 92, .inl (Int.ofNat (5 * j)), u5, u6] [] M = some (some (.inl 1), M') := by
  obtain ⟨v, y, M1, M2, e1, e2, e3, e4⟩ := h
  unfold lawC
  rw [LT_2]
  simp only [e1, e2, pbI_rI]
  exact ⟨_, lawX1_ok e4 _ _⟩
set_option maxHeartbeats 1000000 in
theorem turn_3 {D L : Nat} {xs : Nat → Int32} {Inv : Nat → pM → Prop} {j : Nat} {M : pM} (u5 u6 : pV) (hj : 5 * j + 5 ≤ L) (h : callOK D (Inv (j + 1)) M ((xs (Int.ofNat (5 * j) + 1).toNat).toInt) ((xs (Int.ofNat (5 * j) + 2).toNat).toInt) ((xs (Int.ofNat (5 * j) + 3).toNat).toInt) ((xs (Int.ofNat (5 * j) + 4).toNat).toInt) 3) : ∃ M', lawC D L xs Inv j 66 [.inr 95, .inr 2, .inr 62, .inr 92, .inl (Int.ofNat (5 * j)), u5, u6] [] M = some (some (.inl 1), M') := by
  obtain ⟨v, y, M1, M2, e1, e2, e3, e4⟩ := h
  unfold lawC
  rw [LT_3]
  simp only [e1, e2, pbI_rI]
  exact ⟨_, lawX1_ok e4 _ _⟩
set_option maxHeartbeats 1000000 in
theorem turn_4 {D L : Nat} {xs : Nat → Int32} {Inv : Nat → pM → Prop} {j : Nat} {M : pM} (u5 u6 : pV) (hj : 5 * j + 5 ≤ L) (h : callOK D (Inv (j + 1)) M ((xs (Int.ofNat (5 * j) + 1).toNat).toInt) ((xs (Int.ofNat (5 * j) + 2).toNat).toInt) ((xs (Int.ofNat (5 * j) + 3).toNat).toInt) ((xs (Int.ofNat (5 * j) + 4).toNat).toInt) 4) : ∃ M', lawC D L xs Inv j 73 [.inr 95, .inr 2, .inr 62, .inr 92, .inl (Int.ofNat (5 * j)), u5, u6] [] M = some (some (.inl 1), M') := by
  have h1 : 0 ≤ Int.ofNat (5 * j) + 1 ∧ Int.ofNat (5 * j) + 1 < Int.ofNat L := by simp only [Int.ofNat_eq_natCast]; omega
  have h2 : 0 ≤ Int.ofNat (5 * j) + 2 ∧ Int.ofNat (5 * j) + 2 < Int.ofNat L := by simp only [Int.ofNat_eq_natCast]; omega
  obtain ⟨v, y, M1, M2, e1, e2, e6⟩ := h
  unfold lawC
  rw [LT_4]
  simp only [if_pos h1, if_pos h2, Nat.beq]
  show ∃ M', (pbI (yL D 4 10 [.inr 2, .inl ((xs (Int.ofNat (5 * j) + 1).toNat).toInt), .inl ((xs (Int.ofNat (5 * j) + 2).toNat).toInt)] M) fun v M1 => lawR D L xs Inv j 86 [.inr 95, .inr 2, .inr 62, .inr 92, .inl (Int.ofNat (5 * j)), u5, u6] [.inl v] M1) = some (some (.inl 1), M')
  rw [e1]
  simp only [pbI_rI]
  unfold lawR
  rw [LT_after_85]
  simp only [if_pos h1, if_pos h2, Nat.beq]
  rw [e2]
  simp only [pbI_rI]
  exact ⟨_, lawX_ok e6 _ _⟩
set_option maxHeartbeats 1000000 in
theorem turn_5 {D L : Nat} {xs : Nat → Int32} {Inv : Nat → pM → Prop} {j : Nat} {M : pM} (u5 u6 : pV) (hj : 5 * j + 5 ≤ L) (h : callOK D (Inv (j + 1)) M ((xs (Int.ofNat (5 * j) + 1).toNat).toInt) ((xs (Int.ofNat (5 * j) + 2).toNat).toInt) ((xs (Int.ofNat (5 * j) + 3).toNat).toInt) ((xs (Int.ofNat (5 * j) + 4).toNat).toInt) 5) : ∃ M', lawC D L xs Inv j 101 [.inr 95, .inr 2, .inr 62, .inr 92, .inl (Int.ofNat (5 * j)), u5, u6] [] M = some (some (.inl 1), M') := by
  have h1 : 0 ≤ Int.ofNat (5 * j) + 1 ∧ Int.ofNat (5 * j) + 1 < Int.ofNat L := by simp only [Int.ofNat_eq_natCast]; omega
  have h2 : 0 ≤ Int.ofNat (5 * j) + 2 ∧ Int.ofNat (5 * j) + 2 < Int.ofNat L := by simp only [Int.ofNat_eq_natCast]; omega
  obtain ⟨v, y, M1, M2, e1, e2, e6⟩ := h
  unfold lawC
  rw [LT_5]
  simp only [if_pos h1, if_pos h2, Nat.beq]
  show ∃ M', (pbI (yL D 5 10 [.inr 2, .inl ((xs (Int.ofNat (5 * j) + 1).toNat).toInt), .inl ((xs (Int.ofNat (5 * j) + 2).toNat).toInt)] M) fun v M1 => lawR D L xs Inv j 114 [.inr 95, .inr 2, .inr 62, .inr 92, .inl (Int.ofNat (5 * j)), u5, u6] [.inl v] M1) = some (some (.inl 1), M')
  rw [e1]
  simp only [pbI_rI]
  unfold lawR
  rw [LT_after_113]
  simp only [if_pos h1, if_pos h2, Nat.beq]
  rw [e2]
  simp only [pbI_rI]
  exact ⟨_, lawX_ok e6 _ _⟩
set_option maxHeartbeats 1000000 in
theorem turn_6 {D L : Nat} {xs : Nat → Int32} {Inv : Nat → pM → Prop} {j : Nat} {M : pM} (u5 u6 : pV) (hj : 5 * j + 5 ≤ L) (h : callOK D (Inv (j + 1)) M ((xs (Int.ofNat (5 * j) + 1).toNat).toInt) ((xs (Int.ofNat (5 * j) + 2).toNat).toInt) ((xs (Int.ofNat (5 * j) + 3).toNat).toInt) ((xs (Int.ofNat (5 * j) + 4).toNat).toInt) 6) : ∃ M', lawC D L xs Inv j 129 [.inr 95, .inr 2, .inr 62, .inr 92, .inl (Int.ofNat (5 * j)), u5, u6] [] M = some (some (.inl 1), M') := by
  have h1 : 0 ≤ Int.ofNat (5 * j) + 1 ∧ Int.ofNat (5 * j) + 1 < Int.ofNat L := by simp only [Int.ofNat_eq_natCast]; omega
  obtain ⟨v, y, M1, M2, e1, e2, e3, e4⟩ := h
  unfold lawC
  rw [LT_6]
  simp only [if_pos h1, e1, e2, pbI_rI]
  exact ⟨_, lawX1_ok e4 _ _⟩
set_option maxHeartbeats 1000000 in
theorem turn_7 {D L : Nat} {xs : Nat → Int32} {Inv : Nat → pM → Prop} {j : Nat} {M : pM} (u5 u6 : pV) (hj : 5 * j + 5 ≤ L) (h : callOK D (Inv (j + 1)) M ((xs (Int.ofNat (5 * j) + 1).toNat).toInt) ((xs (Int.ofNat (5 * j) + 2).toNat).toInt) ((xs (Int.ofNat (5 * j) + 3).toNat).toInt) ((xs (Int.ofNat (5 * j) + 4).toNat).toInt) 7) : ∃ M', lawC D L xs Inv j 146 [.inr 95, .inr 2, .inr 62, .inr 92, .inl (Int.ofNat (5 * j)), u5, u6] [] M = some (some (.inl 1), M') := by
  have h1 : 0 ≤ Int.ofNat (5 * j) + 1 ∧ Int.ofNat (5 * j) + 1 < Int.ofNat L := by simp only [Int.ofNat_eq_natCast]; omega
  have h2 : 0 ≤ Int.ofNat (5 * j) + 2 ∧ Int.ofNat (5 * j) + 2 < Int.ofNat L := by simp only [Int.ofNat_eq_natCast]; omega
  obtain ⟨v, y, M1, M2, e1, e2, e3, e4⟩ := h
  unfold lawC
  rw [LT_7]
  simp only [if_pos h1, if_pos h2, e1, e2, pbI_rI]
  exact ⟨_, lawX1_ok e4 _ _⟩
set_option maxHeartbeats 1000000 in
theorem turn_8 {D L : Nat} {xs : Nat → Int32} {Inv : Nat → pM → Prop} {j : Nat} {M : pM} (u5 u6 : pV) (hj : 5 * j + 5 ≤ L) (h : callOK D (Inv (j + 1)) M ((xs (Int.ofNat (5 * j) + 1).toNat).toInt) ((xs (Int.ofNat (5 * j) + 2).toNat).toInt) ((xs (Int.ofNat (5 * j) + 3).toNat).toInt) ((xs (Int.ofNat (5 * j) + 4).toNat).toInt) 8) : ∃ M', lawC D L xs Inv j 173 [.inr 95, .inr 2, .inr 62, .inr 92, .inl (Int.ofNat (5 * j)), u5, u6] [] M = some (some (.inl 1), M') := by
  have h1 : 0 ≤ Int.ofNat (5 * j) + 1 ∧ Int.ofNat (5 * j) + 1 < Int.ofNat L := by simp only [Int.ofNat_eq_natCast]; omega
  have h2 : 0 ≤ Int.ofNat (5 * j) + 2 ∧ Int.ofNat (5 * j) + 2 < Int.ofNat L := by simp only [Int.ofNat_eq_natCast]; omega
  have h3 : 0 ≤ Int.ofNat (5 * j) + 3 ∧ Int.ofNat (5 * j) + 3 < Int.ofNat L := by simp only [Int.ofNat_eq_natCast]; omega
  obtain ⟨v, y, M1, M2, e1, e2, e3, e4⟩ := h
  unfold lawC
  rw [LT_8]
  simp only [if_pos h1, if_pos h2, if_pos h3, e1, e2, pbI_rI]
  exact ⟨_, lawX1_ok e4 _ _⟩
set_option maxHeartbeats 1000000 in
theorem turn_9 {D L : Nat} {xs : Nat → Int32} {Inv : Nat → pM → Prop} {j : Nat} {M : pM} (u5 u6 : pV) (hj : 5 * j + 5 ≤ L) (h : callOK D (Inv (j + 1)) M ((xs (Int.ofNat (5 * j) + 1).toNat).toInt) ((xs (Int.ofNat (5 * j) + 2).toNat).toInt) ((xs (Int.ofNat (5 * j) + 3).toNat).toInt) ((xs (Int.ofNat (5 * j) + 4).toNat).toInt) 9) : ∃ M', lawC D L xs Inv j 210 [.inr 95, .inr 2, .inr 62, .inr 92, .inl (Int.ofNat (5 * j)), u5, u6] [] M = some (some (.inl 1), M') := by
  have h1 : 0 ≤ Int.ofNat (5 * j) + 1 ∧ Int.ofNat (5 * j) + 1 < Int.ofNat L := by simp only [Int.ofNat_eq_natCast]; omega
  obtain ⟨v, y, M1, M2, e1, e2, e3, e4⟩ := h
  unfold lawC
  rw [LT_9]
  simp only [if_pos h1, e1, e2, pbI_rI]
  exact ⟨_, lawX1_ok e4 _ _⟩
set_option maxHeartbeats 1000000 in
theorem turn_10 {D L : Nat} {xs : Nat → Int32} {Inv : Nat → pM → Prop} {j : Nat} {M : pM} (u5 u6 : pV) (hj : 5 * j + 5 ≤ L) (h : callOK D (Inv (j + 1)) M ((xs (Int.ofNat (5 * j) + 1).toNat).toInt) ((xs (Int.ofNat (5 * j) + 2).toNat).toInt) ((xs (Int.ofNat (5 * j) + 3).toNat).toInt) ((xs (Int.ofNat (5 * j) + 4).toNat).toInt) 10) : ∃ M', lawC D L xs Inv j 227 [.inr 95, .inr 2, .inr 62, .inr 92, .inl (Int.ofNat (5 * j)), u5, u6] [] M = some (some (.inl 1), M') := by
  have h1 : 0 ≤ Int.ofNat (5 * j) + 1 ∧ Int.ofNat (5 * j) + 1 < Int.ofNat L := by simp only [Int.ofNat_eq_natCast]; omega
  have h2 : 0 ≤ Int.ofNat (5 * j) + 2 ∧ Int.ofNat (5 * j) + 2 < Int.ofNat L := by simp only [Int.ofNat_eq_natCast]; omega
  have h3 : 0 ≤ Int.ofNat (5 * j) + 3 ∧ Int.ofNat (5 * j) + 3 < Int.ofNat L := by simp only [Int.ofNat_eq_natCast]; omega
  have h4 : 0 ≤ Int.ofNat (5 * j) + 4 ∧ Int.ofNat (5 * j) + 4 < Int.ofNat L := by simp only [Int.ofNat_eq_natCast]; omega
  obtain ⟨v, y, M1, M2, e1, e2, e3, e4⟩ := h
  unfold lawC
  rw [LT_10]
  simp only [if_pos h1, if_pos h2, if_pos h3, if_pos h4, e1, e2, pbI_rI]
  exact ⟨_, lawX1_ok e4 _ _⟩
set_option maxHeartbeats 1000000 in
theorem turn_11 {D L : Nat} {xs : Nat → Int32} {Inv : Nat → pM → Prop} {j : Nat} {M : pM} (u5 u6 : pV) (hj : 5 * j + 5 ≤ L) (h : callOK D (Inv (j + 1)) M ((xs (Int.ofNat (5 * j) + 1).toNat).toInt) ((xs (Int.ofNat (5 * j) + 2).toNat).toInt) ((xs (Int.ofNat (5 * j) + 3).toNat).toInt) ((xs (Int.ofNat (5 * j) + 4).toNat).toInt) 11) : ∃ M', lawC D L xs Inv j 274 [.inr 95, .inr 2, .inr 62, .inr 92, .inl (Int.ofNat (5 * j)), u5, u6] [] M = some (some (.inl 1), M') := by
  have h1 : 0 ≤ Int.ofNat (5 * j) + 1 ∧ Int.ofNat (5 * j) + 1 < Int.ofNat L := by simp only [Int.ofNat_eq_natCast]; omega
  have h2 : 0 ≤ Int.ofNat (5 * j) + 2 ∧ Int.ofNat (5 * j) + 2 < Int.ofNat L := by simp only [Int.ofNat_eq_natCast]; omega
  obtain ⟨v, y, M1, M2, e1, e2, e3, e4⟩ := h
  unfold lawC
  rw [LT_11]
  simp only [if_pos h1, if_pos h2, e1, e2, pbI_rI]
  exact ⟨_, lawX1_ok e4 _ _⟩
set_option maxHeartbeats 1000000 in
theorem turn_12 {D L : Nat} {xs : Nat → Int32} {Inv : Nat → pM → Prop} {j : Nat} {M : pM} (u5 u6 : pV) (hj : 5 * j + 5 ≤ L) (h : callOK D (Inv (j + 1)) M ((xs (Int.ofNat (5 * j) + 1).toNat).toInt) ((xs (Int.ofNat (5 * j) + 2).toNat).toInt) ((xs (Int.ofNat (5 * j) + 3).toNat).toInt) ((xs (Int.ofNat (5 * j) + 4).toNat).toInt) 12) : ∃ M', lawC D L xs Inv j 301 [.inr 95, .inr 2, .inr 62, .inr 92, .inl (Int.ofNat (5 * j)), u5, u6] [] M = some (some (.inl 1), M') := by
  obtain ⟨v, y, M1, M2, e1, e2, e3, e4⟩ := h
  unfold lawC
  rw [LT_12]
  simp only [e1, e2, pbI_rI]
  exact ⟨_, lawX1_ok e4 _ _⟩
set_option maxHeartbeats 1000000 in
theorem turn_13 {D L : Nat} {xs : Nat → Int32} {Inv : Nat → pM → Prop} {j : Nat} {M : pM} (u5 u6 : pV) (hj : 5 * j + 5 ≤ L) (h : callOK D (Inv (j + 1)) M ((xs (Int.ofNat (5 * j) + 1).toNat).toInt) ((xs (Int.ofNat (5 * j) + 2).toNat).toInt) ((xs (Int.ofNat (5 * j) + 3).toNat).toInt) ((xs (Int.ofNat (5 * j) + 4).toNat).toInt) 13) : ∃ M', lawC D L xs Inv j 308 [.inr 95, .inr 2, .inr 62, .inr 92, .inl (Int.ofNat (5 * j)), u5, u6] [] M = some (some (.inl 1), M') := by
  obtain ⟨v, y, M1, M2, e1, e2, e3, e4⟩ := h
  unfold lawC
  rw [LT_13]
  simp only [e1, e2, pbI_rI]
  exact ⟨_, lawX1_ok e4 _ _⟩
set_option maxHeartbeats 1000000 in
theorem turn_14 {D L : Nat} {xs : Nat → Int32} {Inv : Nat → pM → Prop} {j : Nat} {M : pM} (u5 u6 : pV) (hj : 5 * j + 5 ≤ L) (h : callOK D (Inv (j + 1)) M ((xs (Int.ofNat (5 * j) + 1).toNat).toInt) ((xs (Int.ofNat (5 * j) + 2).toNat).toInt) ((xs (Int.ofNat (5 * j) + 3).toNat).toInt) ((xs (Int.ofNat (5 * j) + 4).toNat).toInt) 14) : ∃ M', lawC D L xs Inv j 315 [.inr 95, .inr 2, .inr 62, .inr 92, .inl (Int.ofNat (5 * j)), u5, u6] [] M = some (some (.inl 1), M') := by
  obtain ⟨v, y, M1, M2, e1, e2, e3, e4⟩ := h
  unfold lawC
  rw [LT_14]
  simp only [e1, e2, pbI_rI]
  exact ⟨_, lawX1_ok e4 _ _⟩
set_option maxHeartbeats 1000000 in
theorem turn_15 {D L : Nat} {xs : Nat → Int32} {Inv : Nat → pM → Prop} {j : Nat} {M : pM} (u5 u6 : pV) (hj : 5 * j + 5 ≤ L) (h : callOK D (Inv (j + 1)) M ((xs (Int.ofNat (5 * j) + 1).toNat).toInt) ((xs (Int.ofNat (5 * j) + 2).toNat).toInt) ((xs (Int.ofNat (5 * j) + 3).toNat).toInt) ((xs (Int.ofNat (5 * j) + 4).toNat).toInt) 15) : ∃ M', lawC D L xs Inv j 322 [.inr 95, .inr 2, .inr 62, .inr 92, .inl (Int.ofNat (5 * j)), u5, u6] [] M = some (some (.inl 1), M') := by
  have h1 : 0 ≤ Int.ofNat (5 * j) + 1 ∧ Int.ofNat (5 * j) + 1 < Int.ofNat L := by simp only [Int.ofNat_eq_natCast]; omega
  have h2 : 0 ≤ Int.ofNat (5 * j) + 2 ∧ Int.ofNat (5 * j) + 2 < Int.ofNat L := by simp only [Int.ofNat_eq_natCast]; omega
  obtain ⟨v, y, M1, M2, e1, e2, e3, e4⟩ := h
  unfold lawC
  rw [LT_15]
  simp only [if_pos h1, if_pos h2, e1, e2, pbI_rI]
  exact ⟨_, lawX1_ok e4 _ _⟩
set_option maxHeartbeats 1000000 in
theorem turn_16 {D L : Nat} {xs : Nat → Int32} {Inv : Nat → pM → Prop} {j : Nat} {M : pM} (u5 u6 : pV) (hj : 5 * j + 5 ≤ L) (h : callOK D (Inv (j + 1)) M ((xs (Int.ofNat (5 * j) + 1).toNat).toInt) ((xs (Int.ofNat (5 * j) + 2).toNat).toInt) ((xs (Int.ofNat (5 * j) + 3).toNat).toInt) ((xs (Int.ofNat (5 * j) + 4).toNat).toInt) 16) : ∃ M', lawC D L xs Inv j 349 [.inr 95, .inr 2, .inr 62, .inr 92, .inl (Int.ofNat (5 * j)), u5, u6] [] M = some (some (.inl 1), M') := by
  obtain ⟨v, y, M1, M2, e1, e2, e3, e4⟩ := h
  unfold lawC
  rw [LT_16]
  simp only [e1, e2, pbI_rI]
  exact ⟨_, lawX1_ok e4 _ _⟩
set_option maxHeartbeats 1000000 in
theorem turn_17 {D L : Nat} {xs : Nat → Int32} {Inv : Nat → pM → Prop} {j : Nat} {M : pM} (u5 u6 : pV) (hj : 5 * j + 5 ≤ L) (h : callOK D (Inv (j + 1)) M ((xs (Int.ofNat (5 * j) + 1).toNat).toInt) ((xs (Int.ofNat (5 * j) + 2).toNat).toInt) ((xs (Int.ofNat (5 * j) + 3).toNat).toInt) ((xs (Int.ofNat (5 * j) + 4).toNat).toInt) 17) : ∃ M', lawC D L xs Inv j 356 [.inr 95, .inr 2, .inr 62, .inr 92, .inl (Int.ofNat (5 * j)), u5, u6] [] M = some (some (.inl 1), M') := by
  obtain ⟨v, y, M1, M2, e1, e2, e3, e4⟩ := h
  unfold lawC
  rw [LT_17]
  simp only [e1, e2, pbI_rI]
  exact ⟨_, lawX1_ok e4 _ _⟩
set_option maxHeartbeats 1000000 in
theorem turn_18 {D L : Nat} {xs : Nat → Int32} {Inv : Nat → pM → Prop} {j : Nat} {M : pM} (u5 u6 : pV) (hj : 5 * j + 5 ≤ L) (h : callOK D (Inv (j + 1)) M ((xs (Int.ofNat (5 * j) + 1).toNat).toInt) ((xs (Int.ofNat (5 * j) + 2).toNat).toInt) ((xs (Int.ofNat (5 * j) + 3).toNat).toInt) ((xs (Int.ofNat (5 * j) + 4).toNat).toInt) 18) : ∃ M', lawC D L xs Inv j 363 [.inr 95, .inr 2, .inr 62, .inr 92, .inl (Int.ofNat (5 * j)), u5, u6] [] M = some (some (.inl 1), M') := by
  have h1 : 0 ≤ Int.ofNat (5 * j) + 1 ∧ Int.ofNat (5 * j) + 1 < Int.ofNat L := by simp only [Int.ofNat_eq_natCast]; omega
  obtain ⟨v, y, M1, M2, e1, e2, e3, e4⟩ := h
  unfold lawC
  rw [LT_18]
  simp only [if_pos h1, e1, e2, pbI_rI]
  exact ⟨_, lawX1_ok e4 _ _⟩
set_option maxHeartbeats 1000000 in
theorem turn_19 {D L : Nat} {xs : Nat → Int32} {Inv : Nat → pM → Prop} {j : Nat} {M : pM} (u5 u6 : pV) (hj : 5 * j + 5 ≤ L) (h : callOK D (Inv (j + 1)) M ((xs (Int.ofNat (5 * j) + 1).toNat).toInt) ((xs (Int.ofNat (5 * j) + 2).toNat).toInt) ((xs (Int.ofNat (5 * j) + 3).toNat).toInt) ((xs (Int.ofNat (5 * j) + 4).toNat).toInt) 19) : ∃ M', lawC D L xs Inv j 380 [.inr 95, .inr 2, .inr 62, .inr 92, .inl (Int.ofNat (5 * j)), u5, u6] [] M = some (some (.inl 1), M') := by
  have h1 : 0 ≤ Int.ofNat (5 * j) + 1 ∧ Int.ofNat (5 * j) + 1 < Int.ofNat L := by simp only [Int.ofNat_eq_natCast]; omega
  obtain ⟨v, y, M1, M2, e1, e2, e3, e4⟩ := h
  unfold lawC
  rw [LT_19]
  simp only [if_pos h1, e1, e2, pbI_rI]
  exact ⟨_, lawX1_ok e4 _ _⟩
set_option maxHeartbeats 1000000 in
theorem turn_20 {D L : Nat} {xs : Nat → Int32} {Inv : Nat → pM → Prop} {j : Nat} {M : pM} (u5 u6 : pV) (hj : 5 * j + 5 ≤ L) (h : callOK D (Inv (j + 1)) M ((xs (Int.ofNat (5 * j) + 1).toNat).toInt) ((xs (Int.ofNat (5 * j) + 2).toNat).toInt) ((xs (Int.ofNat (5 * j) + 3).toNat).toInt) ((xs (Int.ofNat (5 * j) + 4).toNat).toInt) 20) : ∃ M', lawC D L xs Inv j 397 [.inr 95, .inr 2, .inr 62, .inr 92, .inl (Int.ofNat (5 * j)), u5, u6] [] M = some (some (.inl 1), M') := by
  obtain ⟨v, y, M1, M2, e1, e2, e3, e4⟩ := h
  unfold lawC
  rw [LT_20]
  simp only [e1, e2, pbI_rI]
  exact ⟨_, lawX1_ok e4 _ _⟩
set_option maxHeartbeats 1000000 in
theorem turn_21 {D L : Nat} {xs : Nat → Int32} {Inv : Nat → pM → Prop} {j : Nat} {M : pM} (u5 u6 : pV) (hj : 5 * j + 5 ≤ L) (h : callOK D (Inv (j + 1)) M ((xs (Int.ofNat (5 * j) + 1).toNat).toInt) ((xs (Int.ofNat (5 * j) + 2).toNat).toInt) ((xs (Int.ofNat (5 * j) + 3).toNat).toInt) ((xs (Int.ofNat (5 * j) + 4).toNat).toInt) 21) : ∃ M', lawC D L xs Inv j 404 [.inr 95, .inr 2, .inr 62, .inr 92, .inl (Int.ofNat (5 * j)), u5, u6] [] M = some (some (.inl 1), M') := by
  obtain ⟨v, y, M1, M2, e1, e2, e3, e4⟩ := h
  unfold lawC
  rw [LT_21]
  simp only [e1, e2, pbI_rI]
  exact ⟨_, lawX1_ok e4 _ _⟩
set_option maxHeartbeats 1000000 in
theorem turn_22 {D L : Nat} {xs : Nat → Int32} {Inv : Nat → pM → Prop} {j : Nat} {M : pM} (u5 u6 : pV) (hj : 5 * j + 5 ≤ L) (h : callOK D (Inv (j + 1)) M ((xs (Int.ofNat (5 * j) + 1).toNat).toInt) ((xs (Int.ofNat (5 * j) + 2).toNat).toInt) ((xs (Int.ofNat (5 * j) + 3).toNat).toInt) ((xs (Int.ofNat (5 * j) + 4).toNat).toInt) 22) : ∃ M', lawC D L xs Inv j 411 [.inr 95, .inr 2, .inr 62, .inr 92, .inl (Int.ofNat (5 * j)), u5, u6] [] M = some (some (.inl 1), M') := by
  obtain ⟨v, y, M1, M2, e1, e2, e3, e4⟩ := h
  unfold lawC
  rw [LT_22]
  simp only [e1, e2, pbI_rI]
  exact ⟨_, lawX1_ok e4 _ _⟩
set_option maxHeartbeats 1000000 in
theorem turn_23 {D L : Nat} {xs : Nat → Int32} {Inv : Nat → pM → Prop} {j : Nat} {M : pM} (u5 u6 : pV) (hj : 5 * j + 5 ≤ L) (h : callOK D (Inv (j + 1)) M ((xs (Int.ofNat (5 * j) + 1).toNat).toInt) ((xs (Int.ofNat (5 * j) + 2).toNat).toInt) ((xs (Int.ofNat (5 * j) + 3).toNat).toInt) ((xs (Int.ofNat (5 * j) + 4).toNat).toInt) 23) : ∃ M', lawC D L xs Inv j 418 [.inr 95, .inr 2, .inr 62, .inr 92, .inl (Int.ofNat (5 * j)), u5, u6] [] M = some (some (.inl 1), M') := by
  obtain ⟨v, y, M1, M2, e1, e2, e3, e4⟩ := h
  unfold lawC
  rw [LT_23]
  simp only [e1, e2, pbI_rI]
  exact ⟨_, lawX1_ok e4 _ _⟩
set_option maxHeartbeats 1000000 in
theorem turn_24 {D L : Nat} {xs : Nat → Int32} {Inv : Nat → pM → Prop} {j : Nat} {M : pM} (u5 u6 : pV) (hj : 5 * j + 5 ≤ L) (h : callOK D (Inv (j + 1)) M ((xs (Int.ofNat (5 * j) + 1).toNat).toInt) ((xs (Int.ofNat (5 * j) + 2).toNat).toInt) ((xs (Int.ofNat (5 * j) + 3).toNat).toInt) ((xs (Int.ofNat (5 * j) + 4).toNat).toInt) 24) : ∃ M', lawC D L xs Inv j 425 [.inr 95, .inr 2, .inr 62, .inr 92, .inl (Int.ofNat (5 * j)), u5, u6] [] M = some (some (.inl 1), M') := by
  obtain ⟨v, y, M1, M2, e1, e2, e3, e4⟩ := h
  unfold lawC
  rw [LT_24]
  simp only [e1, e2, pbI_rI]
  exact ⟨_, lawX1_ok e4 _ _⟩
set_option maxHeartbeats 1000000 in
theorem turn_25 {D L : Nat} {xs : Nat → Int32} {Inv : Nat → pM → Prop} {j : Nat} {M : pM} (u5 u6 : pV) (hj : 5 * j + 5 ≤ L) (h : callOK D (Inv (j + 1)) M ((xs (Int.ofNat (5 * j) + 1).toNat).toInt) ((xs (Int.ofNat (5 * j) + 2).toNat).toInt) ((xs (Int.ofNat (5 * j) + 3).toNat).toInt) ((xs (Int.ofNat (5 * j) + 4).toNat).toInt) 25) : ∃ M', lawC D L xs Inv j 432 [.inr 95, .inr 2, .inr 62, .inr 92, .inl (Int.ofNat (5 * j)), u5, u6] [] M = some (some (.inl 1), M') := by
  have h1 : 0 ≤ Int.ofNat (5 * j) + 1 ∧ Int.ofNat (5 * j) + 1 < Int.ofNat L := by simp only [Int.ofNat_eq_natCast]; omega
  have h2 : 0 ≤ Int.ofNat (5 * j) + 2 ∧ Int.ofNat (5 * j) + 2 < Int.ofNat L := by simp only [Int.ofNat_eq_natCast]; omega
  obtain ⟨v, y, M1, M2, e1, e2, e3, e4⟩ := h
  unfold lawC
  rw [LT_25]
  simp only [if_pos h1, if_pos h2, e1, e2, pbI_rI]
  exact ⟨_, lawX1_ok e4 _ _⟩
set_option maxHeartbeats 1000000 in
theorem turn_26 {D L : Nat} {xs : Nat → Int32} {Inv : Nat → pM → Prop} {j : Nat} {M : pM} (u5 u6 : pV) (hj : 5 * j + 5 ≤ L) (h : callOK D (Inv (j + 1)) M ((xs (Int.ofNat (5 * j) + 1).toNat).toInt) ((xs (Int.ofNat (5 * j) + 2).toNat).toInt) ((xs (Int.ofNat (5 * j) + 3).toNat).toInt) ((xs (Int.ofNat (5 * j) + 4).toNat).toInt) 26) : ∃ M', lawC D L xs Inv j 459 [.inr 95, .inr 2, .inr 62, .inr 92, .inl (Int.ofNat (5 * j)), u5, u6] [] M = some (some (.inl 1), M') := by
  obtain ⟨v, y, M1, M2, e1, e2, e3, e4⟩ := h
  unfold lawC
  rw [LT_26]
  simp only [e1, e2, pbI_rI]
  exact ⟨_, lawX1_ok e4 _ _⟩
set_option maxHeartbeats 1000000 in
theorem turn_27 {D L : Nat} {xs : Nat → Int32} {Inv : Nat → pM → Prop} {j : Nat} {M : pM} (u5 u6 : pV) (hj : 5 * j + 5 ≤ L) (h : callOK D (Inv (j + 1)) M ((xs (Int.ofNat (5 * j) + 1).toNat).toInt) ((xs (Int.ofNat (5 * j) + 2).toNat).toInt) ((xs (Int.ofNat (5 * j) + 3).toNat).toInt) ((xs (Int.ofNat (5 * j) + 4).toNat).toInt) 27) : ∃ M', lawC D L xs Inv j 466 [.inr 95, .inr 2, .inr 62, .inr 92, .inl (Int.ofNat (5 * j)), u5, u6] [] M = some (some (.inl 1), M') := by
  have h1 : 0 ≤ Int.ofNat (5 * j) + 1 ∧ Int.ofNat (5 * j) + 1 < Int.ofNat L := by simp only [Int.ofNat_eq_natCast]; omega
  have h2 : 0 ≤ Int.ofNat (5 * j) + 2 ∧ Int.ofNat (5 * j) + 2 < Int.ofNat L := by simp only [Int.ofNat_eq_natCast]; omega
  obtain ⟨v, y, M1, M2, e1, e2, e3, e4⟩ := h
  unfold lawC
  rw [LT_27]
  simp only [if_pos h1, if_pos h2, e1, e2, pbI_rI]
  exact ⟨_, lawX1_ok e4 _ _⟩
set_option maxHeartbeats 1000000 in
theorem turn_28 {D L : Nat} {xs : Nat → Int32} {Inv : Nat → pM → Prop} {j : Nat} {M : pM} (u5 u6 : pV) (hj : 5 * j + 5 ≤ L) (h : callOK D (Inv (j + 1)) M ((xs (Int.ofNat (5 * j) + 1).toNat).toInt) ((xs (Int.ofNat (5 * j) + 2).toNat).toInt) ((xs (Int.ofNat (5 * j) + 3).toNat).toInt) ((xs (Int.ofNat (5 * j) + 4).toNat).toInt) 28) : ∃ M', lawC D L xs Inv j 493 [.inr 95, .inr 2, .inr 62, .inr 92, .inl (Int.ofNat (5 * j)), u5, u6] [] M = some (some (.inl 1), M') := by
  have h1 : 0 ≤ Int.ofNat (5 * j) + 1 ∧ Int.ofNat (5 * j) + 1 < Int.ofNat L := by simp only [Int.ofNat_eq_natCast]; omega
  obtain ⟨v, y, M1, M2, e1, e2, e3, e4⟩ := h
  unfold lawC
  rw [LT_28]
  simp only [if_pos h1, e1, e2, pbI_rI]
  exact ⟨_, lawX1_ok e4 _ _⟩
set_option maxHeartbeats 1000000 in
theorem turn_29 {D L : Nat} {xs : Nat → Int32} {Inv : Nat → pM → Prop} {j : Nat} {M : pM} (u5 u6 : pV) (hj : 5 * j + 5 ≤ L) (h : callOK D (Inv (j + 1)) M ((xs (Int.ofNat (5 * j) + 1).toNat).toInt) ((xs (Int.ofNat (5 * j) + 2).toNat).toInt) ((xs (Int.ofNat (5 * j) + 3).toNat).toInt) ((xs (Int.ofNat (5 * j) + 4).toNat).toInt) 29) : ∃ M', lawC D L xs Inv j 510 [.inr 95, .inr 2, .inr 62, .inr 92, .inl (Int.ofNat (5 * j)), u5, u6] [] M = some (some (.inl 1), M') := by
  have h1 : 0 ≤ Int.ofNat (5 * j) + 1 ∧ Int.ofNat (5 * j) + 1 < Int.ofNat L := by simp only [Int.ofNat_eq_natCast]; omega
  have h2 : 0 ≤ Int.ofNat (5 * j) + 2 ∧ Int.ofNat (5 * j) + 2 < Int.ofNat L := by simp only [Int.ofNat_eq_natCast]; omega
  obtain ⟨v, y, M1, M2, e1, e2, e3, e4⟩ := h
  unfold lawC
  rw [LT_29]
  simp only [if_pos h1, if_pos h2, e1, e2, pbI_rI]
  exact ⟨_, lawX1_ok e4 _ _⟩
set_option maxHeartbeats 1000000 in
theorem turn_30 {D L : Nat} {xs : Nat → Int32} {Inv : Nat → pM → Prop} {j : Nat} {M : pM} (u5 u6 : pV) (hj : 5 * j + 5 ≤ L) (h : callOK D (Inv (j + 1)) M ((xs (Int.ofNat (5 * j) + 1).toNat).toInt) ((xs (Int.ofNat (5 * j) + 2).toNat).toInt) ((xs (Int.ofNat (5 * j) + 3).toNat).toInt) ((xs (Int.ofNat (5 * j) + 4).toNat).toInt) 30) : ∃ M', lawC D L xs Inv j 537 [.inr 95, .inr 2, .inr 62, .inr 92, .inl (Int.ofNat (5 * j)), u5, u6] [] M = some (some (.inl 1), M') := by
  have h1 : 0 ≤ Int.ofNat (5 * j) + 1 ∧ Int.ofNat (5 * j) + 1 < Int.ofNat L := by simp only [Int.ofNat_eq_natCast]; omega
  obtain ⟨v, y, M1, M2, e1, e2, e3, e4⟩ := h
  unfold lawC
  rw [LT_30]
  simp only [if_pos h1, e1, e2, pbI_rI]
  exact ⟨_, lawX1_ok e4 _ _⟩
set_option maxHeartbeats 1000000 in
theorem turn_31 {D L : Nat} {xs : Nat → Int32} {Inv : Nat → pM → Prop} {j : Nat} {M : pM} (u5 u6 : pV) (hj : 5 * j + 5 ≤ L) (h : callOK D (Inv (j + 1)) M ((xs (Int.ofNat (5 * j) + 1).toNat).toInt) ((xs (Int.ofNat (5 * j) + 2).toNat).toInt) ((xs (Int.ofNat (5 * j) + 3).toNat).toInt) ((xs (Int.ofNat (5 * j) + 4).toNat).toInt) 31) : ∃ M', lawC D L xs Inv j 554 [.inr 95, .inr 2, .inr 62, .inr 92, .inl (Int.ofNat (5 * j)), u5, u6] [] M = some (some (.inl 1), M') := by
  have h1 : 0 ≤ Int.ofNat (5 * j) + 1 ∧ Int.ofNat (5 * j) + 1 < Int.ofNat L := by simp only [Int.ofNat_eq_natCast]; omega
  have h2 : 0 ≤ Int.ofNat (5 * j) + 2 ∧ Int.ofNat (5 * j) + 2 < Int.ofNat L := by simp only [Int.ofNat_eq_natCast]; omega
  obtain ⟨v, y, M1, M2, e1, e2, e3, e4⟩ := h
  unfold lawC
  rw [LT_31]
  simp only [if_pos h1, if_pos h2, e1, e2, pbI_rI]
  exact ⟨_, lawX1_ok e4 _ _⟩
set_option maxHeartbeats 1000000 in
theorem turn_32 {D L : Nat} {xs : Nat → Int32} {Inv : Nat → pM → Prop} {j : Nat} {M : pM} (u5 u6 : pV) (hj : 5 * j + 5 ≤ L) (h : callOK D (Inv (j + 1)) M ((xs (Int.ofNat (5 * j) + 1).toNat).toInt) ((xs (Int.ofNat (5 * j) + 2).toNat).toInt) ((xs (Int.ofNat (5 * j) + 3).toNat).toInt) ((xs (Int.ofNat (5 * j) + 4).toNat).toInt) 32) : ∃ M', lawC D L xs Inv j 581 [.inr 95, .inr 2, .inr 62, .inr 92, .inl (Int.ofNat (5 * j)), u5, u6] [] M = some (some (.inl 1), M') := by
  obtain ⟨v, y, M1, M2, e1, e2, e3, e4⟩ := h
  unfold lawC
  rw [LT_32]
  simp only [e1, e2, pbI_rI]
  exact ⟨_, lawX1_ok e4 _ _⟩
set_option maxHeartbeats 1000000 in
theorem turn_33 {D L : Nat} {xs : Nat → Int32} {Inv : Nat → pM → Prop} {j : Nat} {M : pM} (u5 u6 : pV) (hj : 5 * j + 5 ≤ L) (h : callOK D (Inv (j + 1)) M ((xs (Int.ofNat (5 * j) + 1).toNat).toInt) ((xs (Int.ofNat (5 * j) + 2).toNat).toInt) ((xs (Int.ofNat (5 * j) + 3).toNat).toInt) ((xs (Int.ofNat (5 * j) + 4).toNat).toInt) 33) : ∃ M', lawC D L xs Inv j 588 [.inr 95, .inr 2, .inr 62, .inr 92, .inl (Int.ofNat (5 * j)), u5, u6] [] M = some (some (.inl 1), M') := by
  obtain ⟨v, y, M1, M2, e1, e2, e3, e4⟩ := h
  unfold lawC
  rw [LT_33]
  simp only [e1, e2, pbI_rI]
  exact ⟨_, lawX1_ok e4 _ _⟩
set_option maxHeartbeats 1000000 in
theorem turn_34 {D L : Nat} {xs : Nat → Int32} {Inv : Nat → pM → Prop} {j : Nat} {M : pM} (u5 u6 : pV) (hj : 5 * j + 5 ≤ L) (h : callOK D (Inv (j + 1)) M ((xs (Int.ofNat (5 * j) + 1).toNat).toInt) ((xs (Int.ofNat (5 * j) + 2).toNat).toInt) ((xs (Int.ofNat (5 * j) + 3).toNat).toInt) ((xs (Int.ofNat (5 * j) + 4).toNat).toInt) 34) : ∃ M', lawC D L xs Inv j 595 [.inr 95, .inr 2, .inr 62, .inr 92, .inl (Int.ofNat (5 * j)), u5, u6] [] M = some (some (.inl 1), M') := by
  have h1 : 0 ≤ Int.ofNat (5 * j) + 1 ∧ Int.ofNat (5 * j) + 1 < Int.ofNat L := by simp only [Int.ofNat_eq_natCast]; omega
  have h2 : 0 ≤ Int.ofNat (5 * j) + 2 ∧ Int.ofNat (5 * j) + 2 < Int.ofNat L := by simp only [Int.ofNat_eq_natCast]; omega
  obtain ⟨v, y, M1, M2, e1, e2, e3, e4⟩ := h
  unfold lawC
  rw [LT_34]
  simp only [if_pos h1, if_pos h2, e1, e2, pbI_rI]
  exact ⟨_, lawX1_ok e4 _ _⟩
set_option maxHeartbeats 1000000 in
theorem turn_35 {D L : Nat} {xs : Nat → Int32} {Inv : Nat → pM → Prop} {j : Nat} {M : pM} (u5 u6 : pV) (hj : 5 * j + 5 ≤ L) (h : callOK D (Inv (j + 1)) M ((xs (Int.ofNat (5 * j) + 1).toNat).toInt) ((xs (Int.ofNat (5 * j) + 2).toNat).toInt) ((xs (Int.ofNat (5 * j) + 3).toNat).toInt) ((xs (Int.ofNat (5 * j) + 4).toNat).toInt) 35) : ∃ M', lawC D L xs Inv j 622 [.inr 95, .inr 2, .inr 62, .inr 92, .inl (Int.ofNat (5 * j)), u5, u6] [] M = some (some (.inl 1), M') := by
  have h1 : 0 ≤ Int.ofNat (5 * j) + 1 ∧ Int.ofNat (5 * j) + 1 < Int.ofNat L := by simp only [Int.ofNat_eq_natCast]; omega
  have h2 : 0 ≤ Int.ofNat (5 * j) + 2 ∧ Int.ofNat (5 * j) + 2 < Int.ofNat L := by simp only [Int.ofNat_eq_natCast]; omega
  obtain ⟨v, y, M1, M2, e1, e2, e3, e4⟩ := h
  unfold lawC
  rw [LT_35]
  simp only [if_pos h1, if_pos h2, e1, e2, pbI_rI]
  exact ⟨_, lawX1_ok e4 _ _⟩
set_option maxHeartbeats 1000000 in
theorem turn_36 {D L : Nat} {xs : Nat → Int32} {Inv : Nat → pM → Prop} {j : Nat} {M : pM} (u5 u6 : pV) (hj : 5 * j + 5 ≤ L) (h : callOK D (Inv (j + 1)) M ((xs (Int.ofNat (5 * j) + 1).toNat).toInt) ((xs (Int.ofNat (5 * j) + 2).toNat).toInt) ((xs (Int.ofNat (5 * j) + 3).toNat).toInt) ((xs (Int.ofNat (5 * j) + 4).toNat).toInt) 36) : ∃ M', lawC D L xs Inv j 649 [.inr 95, .inr 2, .inr 62, .inr 92, .inl (Int.ofNat (5 * j)), u5, u6] [] M = some (some (.inl 1), M') := by
  obtain ⟨v, y, M1, M2, e1, e2, e3, e4⟩ := h
  unfold lawC
  rw [LT_36]
  simp only [e1, e2, pbI_rI]
  exact ⟨_, lawX1_ok e4 _ _⟩
set_option maxHeartbeats 1000000 in
theorem turn_37 {D L : Nat} {xs : Nat → Int32} {Inv : Nat → pM → Prop} {j : Nat} {M : pM} (u5 u6 : pV) (hj : 5 * j + 5 ≤ L) (h : callOK D (Inv (j + 1)) M ((xs (Int.ofNat (5 * j) + 1).toNat).toInt) ((xs (Int.ofNat (5 * j) + 2).toNat).toInt) ((xs (Int.ofNat (5 * j) + 3).toNat).toInt) ((xs (Int.ofNat (5 * j) + 4).toNat).toInt) 37) : ∃ M', lawC D L xs Inv j 656 [.inr 95, .inr 2, .inr 62, .inr 92, .inl (Int.ofNat (5 * j)), u5, u6] [] M = some (some (.inl 1), M') := by
  have h1 : 0 ≤ Int.ofNat (5 * j) + 1 ∧ Int.ofNat (5 * j) + 1 < Int.ofNat L := by simp only [Int.ofNat_eq_natCast]; omega
  obtain ⟨v, y, M1, M2, e1, e2, e3, e4⟩ := h
  unfold lawC
  rw [LT_37]
  simp only [if_pos h1, e1, e2, pbI_rI]
  exact ⟨_, lawX1_ok e4 _ _⟩
set_option maxHeartbeats 1000000 in
theorem turn_38 {D L : Nat} {xs : Nat → Int32} {Inv : Nat → pM → Prop} {j : Nat} {M : pM} (u5 u6 : pV) (hj : 5 * j + 5 ≤ L) (h : callOK D (Inv (j + 1)) M ((xs (Int.ofNat (5 * j) + 1).toNat).toInt) ((xs (Int.ofNat (5 * j) + 2).toNat).toInt) ((xs (Int.ofNat (5 * j) + 3).toNat).toInt) ((xs (Int.ofNat (5 * j) + 4).toNat).toInt) 38) : ∃ M', lawC D L xs Inv j 673 [.inr 95, .inr 2, .inr 62, .inr 92, .inl (Int.ofNat (5 * j)), u5, u6] [] M = some (some (.inl 1), M') := by
  obtain ⟨v, y, M1, M2, e1, e2, e3, e4⟩ := h
  unfold lawC
  rw [LT_38]
  simp only [e1, e2, pbI_rI]
  exact ⟨_, lawX1_ok e4 _ _⟩
set_option maxHeartbeats 1000000 in
theorem turn_39 {D L : Nat} {xs : Nat → Int32} {Inv : Nat → pM → Prop} {j : Nat} {M : pM} (u5 u6 : pV) (hj : 5 * j + 5 ≤ L) (h : callOK D (Inv (j + 1)) M ((xs (Int.ofNat (5 * j) + 1).toNat).toInt) ((xs (Int.ofNat (5 * j) + 2).toNat).toInt) ((xs (Int.ofNat (5 * j) + 3).toNat).toInt) ((xs (Int.ofNat (5 * j) + 4).toNat).toInt) 39) : ∃ M', lawC D L xs Inv j 680 [.inr 95, .inr 2, .inr 62, .inr 92, .inl (Int.ofNat (5 * j)), u5, u6] [] M = some (some (.inl 1), M') := by
  obtain ⟨v, y, M1, M2, e1, e2, e3, e4⟩ := h
  unfold lawC
  rw [LT_39]
  simp only [e1, e2, pbI_rI]
  exact ⟨_, lawX1_ok e4 _ _⟩
set_option maxHeartbeats 1000000 in
theorem turn_40 {D L : Nat} {xs : Nat → Int32} {Inv : Nat → pM → Prop} {j : Nat} {M : pM} (u5 u6 : pV) (hj : 5 * j + 5 ≤ L) (h : callOK D (Inv (j + 1)) M ((xs (Int.ofNat (5 * j) + 1).toNat).toInt) ((xs (Int.ofNat (5 * j) + 2).toNat).toInt) ((xs (Int.ofNat (5 * j) + 3).toNat).toInt) ((xs (Int.ofNat (5 * j) + 4).toNat).toInt) 40) : ∃ M', lawC D L xs Inv j 687 [.inr 95, .inr 2, .inr 62, .inr 92, .inl (Int.ofNat (5 * j)), u5, u6] [] M = some (some (.inl 1), M') := by
  obtain ⟨v, y, M1, M2, e1, e2, e3, e4⟩ := h
  unfold lawC
  rw [LT_40]
  simp only [e1, e2, pbI_rI]
  exact ⟨_, lawX1_ok e4 _ _⟩
set_option maxHeartbeats 1000000 in
theorem turn_41 {D L : Nat} {xs : Nat → Int32} {Inv : Nat → pM → Prop} {j : Nat} {M : pM} (u5 u6 : pV) (hj : 5 * j + 5 ≤ L) (h : callOK D (Inv (j + 1)) M ((xs (Int.ofNat (5 * j) + 1).toNat).toInt) ((xs (Int.ofNat (5 * j) + 2).toNat).toInt) ((xs (Int.ofNat (5 * j) + 3).toNat).toInt) ((xs (Int.ofNat (5 * j) + 4).toNat).toInt) 41) : ∃ M', lawC D L xs Inv j 694 [.inr 95, .inr 2, .inr 62, .inr 92, .inl (Int.ofNat (5 * j)), u5, u6] [] M = some (some (.inl 1), M') := by
  obtain ⟨v, y, M1, M2, e1, e2, e3, e4⟩ := h
  unfold lawC
  rw [LT_41]
  simp only [e1, e2, pbI_rI]
  exact ⟨_, lawX1_ok e4 _ _⟩
set_option maxHeartbeats 1000000 in
theorem turn_42 {D L : Nat} {xs : Nat → Int32} {Inv : Nat → pM → Prop} {j : Nat} {M : pM} (u5 u6 : pV) (hj : 5 * j + 5 ≤ L) (h : callOK D (Inv (j + 1)) M ((xs (Int.ofNat (5 * j) + 1).toNat).toInt) ((xs (Int.ofNat (5 * j) + 2).toNat).toInt) ((xs (Int.ofNat (5 * j) + 3).toNat).toInt) ((xs (Int.ofNat (5 * j) + 4).toNat).toInt) 42) : ∃ M', lawC D L xs Inv j 701 [.inr 95, .inr 2, .inr 62, .inr 92, .inl (Int.ofNat (5 * j)), u5, u6] [] M = some (some (.inl 1), M') := by
  obtain ⟨v, y, M1, M2, e1, e2, e3, e4⟩ := h
  unfold lawC
  rw [LT_42]
  simp only [e1, e2, pbI_rI]
  exact ⟨_, lawX1_ok e4 _ _⟩
set_option maxHeartbeats 1000000 in
theorem turn_43 {D L : Nat} {xs : Nat → Int32} {Inv : Nat → pM → Prop} {j : Nat} {M : pM} (u5 u6 : pV) (hj : 5 * j + 5 ≤ L) (h : callOK D (Inv (j + 1)) M ((xs (Int.ofNat (5 * j) + 1).toNat).toInt) ((xs (Int.ofNat (5 * j) + 2).toNat).toInt) ((xs (Int.ofNat (5 * j) + 3).toNat).toInt) ((xs (Int.ofNat (5 * j) + 4).toNat).toInt) 43) : ∃ M', lawC D L xs Inv j 708 [.inr 95, .inr 2, .inr 62, .inr 92, .inl (Int.ofNat (5 * j)), u5, u6] [] M = some (some (.inl 1), M') := by
  have h1 : 0 ≤ Int.ofNat (5 * j) + 1 ∧ Int.ofNat (5 * j) + 1 < Int.ofNat L := by simp only [Int.ofNat_eq_natCast]; omega
  obtain ⟨v, y, M1, M2, e1, e2, e3, e4⟩ := h
  unfold lawC
  rw [LT_43]
  simp only [if_pos h1, e1, e2, pbI_rI]
  exact ⟨_, lawX1_ok e4 _ _⟩
set_option maxHeartbeats 1000000 in
theorem turn_44 {D L : Nat} {xs : Nat → Int32} {Inv : Nat → pM → Prop} {j : Nat} {M : pM} (u5 u6 : pV) (hj : 5 * j + 5 ≤ L) (h : callOK D (Inv (j + 1)) M ((xs (Int.ofNat (5 * j) + 1).toNat).toInt) ((xs (Int.ofNat (5 * j) + 2).toNat).toInt) ((xs (Int.ofNat (5 * j) + 3).toNat).toInt) ((xs (Int.ofNat (5 * j) + 4).toNat).toInt) 44) : ∃ M', lawC D L xs Inv j 725 [.inr 95, .inr 2, .inr 62, .inr 92, .inl (Int.ofNat (5 * j)), u5, u6] [] M = some (some (.inl 1), M') := by
  have h1 : 0 ≤ Int.ofNat (5 * j) + 1 ∧ Int.ofNat (5 * j) + 1 < Int.ofNat L := by simp only [Int.ofNat_eq_natCast]; omega
  obtain ⟨v, y, M1, M2, e1, e2, e3, e4⟩ := h
  unfold lawC
  rw [LT_44]
  simp only [if_pos h1, e1, e2, pbI_rI]
  rw [if_pos (show eq32 v y by rw [e3 rfl])]
  exact ⟨_, lawX1_ok e4 _ _⟩
set_option maxHeartbeats 1000000 in
theorem turn_45 {D L : Nat} {xs : Nat → Int32} {Inv : Nat → pM → Prop} {j : Nat} {M : pM} (u5 u6 : pV) (hj : 5 * j + 5 ≤ L) (h : callOK D (Inv (j + 1)) M ((xs (Int.ofNat (5 * j) + 1).toNat).toInt) ((xs (Int.ofNat (5 * j) + 2).toNat).toInt) ((xs (Int.ofNat (5 * j) + 3).toNat).toInt) ((xs (Int.ofNat (5 * j) + 4).toNat).toInt) 45) : ∃ M', lawC D L xs Inv j 742 [.inr 95, .inr 2, .inr 62, .inr 92, .inl (Int.ofNat (5 * j)), u5, u6] [] M = some (some (.inl 1), M') := by
  have h1 : 0 ≤ Int.ofNat (5 * j) + 1 ∧ Int.ofNat (5 * j) + 1 < Int.ofNat L := by simp only [Int.ofNat_eq_natCast]; omega
  obtain ⟨v, y, M1, M2, e1, e2, e3, e4⟩ := h
  unfold lawC
  rw [LT_45]
  simp only [if_pos h1, e1, e2, pbI_rI]
  exact ⟨_, lawX1_ok e4 _ _⟩
set_option maxHeartbeats 1000000 in
theorem turn_46 {D L : Nat} {xs : Nat → Int32} {Inv : Nat → pM → Prop} {j : Nat} {M : pM} (u5 u6 : pV) (hj : 5 * j + 5 ≤ L) (h : callOK D (Inv (j + 1)) M ((xs (Int.ofNat (5 * j) + 1).toNat).toInt) ((xs (Int.ofNat (5 * j) + 2).toNat).toInt) ((xs (Int.ofNat (5 * j) + 3).toNat).toInt) ((xs (Int.ofNat (5 * j) + 4).toNat).toInt) 46) : ∃ M', lawC D L xs Inv j 759 [.inr 95, .inr 2, .inr 62, .inr 92, .inl (Int.ofNat (5 * j)), u5, u6] [] M = some (some (.inl 1), M') := by
  have h1 : 0 ≤ Int.ofNat (5 * j) + 1 ∧ Int.ofNat (5 * j) + 1 < Int.ofNat L := by simp only [Int.ofNat_eq_natCast]; omega
  obtain ⟨v, y, M1, M2, e1, e2, e6⟩ := h
  unfold lawC
  rw [LT_46]
  simp only [if_pos h1, Nat.beq]
  show ∃ M', (pbI (yL D 46 7 [.inr 2, .inl ((xs (Int.ofNat (5 * j) + 1).toNat).toInt)] M) fun v M1 => lawR D L xs Inv j 767 [.inr 95, .inr 2, .inr 62, .inr 92, .inl (Int.ofNat (5 * j)), u5, u6] [.inl v] M1) = some (some (.inl 1), M')
  rw [e1]
  simp only [pbI_rI]
  unfold lawR
  rw [LT_after_766]
  simp only [if_pos h1, Nat.beq]
  rw [e2]
  simp only [pbI_rI]
  exact ⟨_, lawX_ok e6 _ _⟩
theorem turn_def {D L : Nat} {xs : Nat → Int32} {Inv : Nat → pM → Prop} {j : Nat} {M : pM} (u5 u6 : pV) (hj : 5 * j + 5 ≤ L) (h : Inv (j + 1) M) : ∃ M', lawC D L xs Inv j 777 [.inr 95, .inr 2, .inr 62, .inr 92, .inl (Int.ofNat (5 * j)), u5, u6] [] M = some (some (.inl 1), M') := by
  unfold lawC
  rw [LT_99]
  exact ⟨_, lawX1_ok h _ _⟩
set_option maxRecDepth 100000 in
set_option maxHeartbeats 4000000 in
/-- a turn, whatever the call -/
theorem lawStep_of {D L : Nat} {xs : Nat → Int32} {Inv : Nat → pM → Prop} {j : Nat} {M : pM} (hLN : L ≤ 2560) (hj : 5 * j + 5 ≤ L) (h : ∀ a1 a2 a3 a4 : Int32, ∀ c, callOK D (Inv (j + 1)) M a1.toInt a2.toInt a3.toInt a4.toInt c) (h0 : Inv (j + 1) M) : lawStep D L xs Inv j M := by
  intro u5 u6
  unfold lawT
  rw [LT_top, if_neg (by rw [lt32_iff] <;> (simp only [Int.ofNat_eq_natCast]; omega)), if_pos (by simp only [Int.ofNat_eq_natCast]; omega)]
  have hh := h (xs (Int.ofNat (5 * j) + 1).toNat) (xs (Int.ofNat (5 * j) + 2).toNat) (xs (Int.ofNat (5 * j) + 3).toNat) (xs (Int.ofNat (5 * j) + 4).toNat)
  by_cases q0 : eq32 (jand ((xs (Int.ofNat (5 * j)).toNat).toInt) 63) 0
  · rw [if_pos q0]; exact turn_0 u5 u6 hj (hh 0)
  rw [if_neg q0]
  by_cases q1 : eq32 (jand ((xs (Int.ofNat (5 * j)).toNat).toInt) 63) 1
  · rw [if_pos q1]; exact turn_1 u5 u6 hj (hh 1)
  rw [if_neg q1]
  by_cases q2 : eq32 (jand ((xs (Int.ofNat (5 * j)).toNat).toInt) 63) 2
  · rw [if_pos q2]; exact turn_2 u5 u6 hj (hh 2)
  rw [if_neg q2]
  by_cases q3 : eq32 (jand ((xs (Int.ofNat (5 * j)).toNat).toInt) 63) 3
  · rw [if_pos q3]; exact turn_3 u5 u6 hj (hh 3)
  rw [if_neg q3]
  by_cases q4 : eq32 (jand ((xs (Int.ofNat (5 * j)).toNat).toInt) 63) 4
  · rw [if_pos q4]; exact turn_4 u5 u6 hj (hh 4)
  rw [if_neg q4]
  by_cases q5 : eq32 (jand ((xs (Int.ofNat (5 * j)).toNat).toInt) 63) 5
  · rw [if_pos q5]; exact turn_5 u5 u6 hj (hh 5)
  rw [if_neg q5]
  by_cases q6 : eq32 (jand ((xs (Int.ofNat (5 * j)).toNat).toInt) 63) 6
  · rw [if_pos q6]; exact turn_6 u5 u6 hj (hh 6)
  rw [if_neg q6]
  by_cases q7 : eq32 (jand ((xs (Int.ofNat (5 * j)).toNat).toInt) 63) 7
  · rw [if_pos q7]; exact turn_7 u5 u6 hj (hh 7)
  rw [if_neg q7]
  by_cases q8 : eq32 (jand ((xs (Int.ofNat (5 * j)).toNat).toInt) 63) 8
  · rw [if_pos q8]; exact turn_8 u5 u6 hj (hh 8)
  rw [if_neg q8]
  by_cases q9 : eq32 (jand ((xs (Int.ofNat (5 * j)).toNat).toInt) 63) 9
  · rw [if_pos q9]; exact turn_9 u5 u6 hj (hh 9)
  rw [if_neg q9]
  by_cases q10 : eq32 (jand ((xs (Int.ofNat (5 * j)).toNat).toInt) 63) 10
  · rw [if_pos q10]; exact turn_10 u5 u6 hj (hh 10)
  rw [if_neg q10]
  by_cases q11 : eq32 (jand ((xs (Int.ofNat (5 * j)).toNat).toInt) 63) 11
  · rw [if_pos q11]; exact turn_11 u5 u6 hj (hh 11)
  rw [if_neg q11]
  by_cases q12 : eq32 (jand ((xs (Int.ofNat (5 * j)).toNat).toInt) 63) 12
  · rw [if_pos q12]; exact turn_12 u5 u6 hj (hh 12)
  rw [if_neg q12]
  by_cases q13 : eq32 (jand ((xs (Int.ofNat (5 * j)).toNat).toInt) 63) 13
  · rw [if_pos q13]; exact turn_13 u5 u6 hj (hh 13)
  rw [if_neg q13]
  by_cases q14 : eq32 (jand ((xs (Int.ofNat (5 * j)).toNat).toInt) 63) 14
  · rw [if_pos q14]; exact turn_14 u5 u6 hj (hh 14)
  rw [if_neg q14]
  by_cases q15 : eq32 (jand ((xs (Int.ofNat (5 * j)).toNat).toInt) 63) 15
  · rw [if_pos q15]; exact turn_15 u5 u6 hj (hh 15)
  rw [if_neg q15]
  by_cases q16 : eq32 (jand ((xs (Int.ofNat (5 * j)).toNat).toInt) 63) 16
  · rw [if_pos q16]; exact turn_16 u5 u6 hj (hh 16)
  rw [if_neg q16]
  by_cases q17 : eq32 (jand ((xs (Int.ofNat (5 * j)).toNat).toInt) 63) 17
  · rw [if_pos q17]; exact turn_17 u5 u6 hj (hh 17)
  rw [if_neg q17]
  by_cases q18 : eq32 (jand ((xs (Int.ofNat (5 * j)).toNat).toInt) 63) 18
  · rw [if_pos q18]; exact turn_18 u5 u6 hj (hh 18)
  rw [if_neg q18]
  by_cases q19 : eq32 (jand ((xs (Int.ofNat (5 * j)).toNat).toInt) 63) 19
  · rw [if_pos q19]; exact turn_19 u5 u6 hj (hh 19)
  rw [if_neg q19]
  by_cases q20 : eq32 (jand ((xs (Int.ofNat (5 * j)).toNat).toInt) 63) 20
  · rw [if_pos q20]; exact turn_20 u5 u6 hj (hh 20)
  rw [if_neg q20]
  by_cases q21 : eq32 (jand ((xs (Int.ofNat (5 * j)).toNat).toInt) 63) 21
  · rw [if_pos q21]; exact turn_21 u5 u6 hj (hh 21)
  rw [if_neg q21]
  by_cases q22 : eq32 (jand ((xs (Int.ofNat (5 * j)).toNat).toInt) 63) 22
  · rw [if_pos q22]; exact turn_22 u5 u6 hj (hh 22)
  rw [if_neg q22]
  by_cases q23 : eq32 (jand ((xs (Int.ofNat (5 * j)).toNat).toInt) 63) 23
  · rw [if_pos q23]; exact turn_23 u5 u6 hj (hh 23)
  rw [if_neg q23]
  by_cases q24 : eq32 (jand ((xs (Int.ofNat (5 * j)).toNat).toInt) 63) 24
  · rw [if_pos q24]; exact turn_24 u5 u6 hj (hh 24)
  rw [if_neg q24]
  by_cases q25 : eq32 (jand ((xs (Int.ofNat (5 * j)).toNat).toInt) 63) 25
  · rw [if_pos q25]; exact turn_25 u5 u6 hj (hh 25)
  rw [if_neg q25]
  by_cases q26 : eq32 (jand ((xs (Int.ofNat (5 * j)).toNat).toInt) 63) 26
  · rw [if_pos q26]; exact turn_26 u5 u6 hj (hh 26)
  rw [if_neg q26]
  by_cases q27 : eq32 (jand ((xs (Int.ofNat (5 * j)).toNat).toInt) 63) 27
  · rw [if_pos q27]; exact turn_27 u5 u6 hj (hh 27)
  rw [if_neg q27]
  by_cases q28 : eq32 (jand ((xs (Int.ofNat (5 * j)).toNat).toInt) 63) 28
  · rw [if_pos q28]; exact turn_28 u5 u6 hj (hh 28)
  rw [if_neg q28]
  by_cases q29 : eq32 (jand ((xs (Int.ofNat (5 * j)).toNat).toInt) 63) 29
  · rw [if_pos q29]; exact turn_29 u5 u6 hj (hh 29)
  rw [if_neg q29]
  by_cases q30 : eq32 (jand ((xs (Int.ofNat (5 * j)).toNat).toInt) 63) 30
  · rw [if_pos q30]; exact turn_30 u5 u6 hj (hh 30)
  rw [if_neg q30]
  by_cases q31 : eq32 (jand ((xs (Int.ofNat (5 * j)).toNat).toInt) 63) 31
  · rw [if_pos q31]; exact turn_31 u5 u6 hj (hh 31)
  rw [if_neg q31]
  by_cases q32 : eq32 (jand ((xs (Int.ofNat (5 * j)).toNat).toInt) 63) 32
  · rw [if_pos q32]; exact turn_32 u5 u6 hj (hh 32)
  rw [if_neg q32]
  by_cases q33 : eq32 (jand ((xs (Int.ofNat (5 * j)).toNat).toInt) 63) 33
  · rw [if_pos q33]; exact turn_33 u5 u6 hj (hh 33)
  rw [if_neg q33]
  by_cases q34 : eq32 (jand ((xs (Int.ofNat (5 * j)).toNat).toInt) 63) 34
  · rw [if_pos q34]; exact turn_34 u5 u6 hj (hh 34)
  rw [if_neg q34]
  by_cases q35 : eq32 (jand ((xs (Int.ofNat (5 * j)).toNat).toInt) 63) 35
  · rw [if_pos q35]; exact turn_35 u5 u6 hj (hh 35)
  rw [if_neg q35]
  by_cases q36 : eq32 (jand ((xs (Int.ofNat (5 * j)).toNat).toInt) 63) 36
  · rw [if_pos q36]; exact turn_36 u5 u6 hj (hh 36)
  rw [if_neg q36]
  by_cases q37 : eq32 (jand ((xs (Int.ofNat (5 * j)).toNat).toInt) 63) 37
  · rw [if_pos q37]; exact turn_37 u5 u6 hj (hh 37)
  rw [if_neg q37]
  by_cases q38 : eq32 (jand ((xs (Int.ofNat (5 * j)).toNat).toInt) 63) 38
  · rw [if_pos q38]; exact turn_38 u5 u6 hj (hh 38)
  rw [if_neg q38]
  by_cases q39 : eq32 (jand ((xs (Int.ofNat (5 * j)).toNat).toInt) 63) 39
  · rw [if_pos q39]; exact turn_39 u5 u6 hj (hh 39)
  rw [if_neg q39]
  by_cases q40 : eq32 (jand ((xs (Int.ofNat (5 * j)).toNat).toInt) 63) 40
  · rw [if_pos q40]; exact turn_40 u5 u6 hj (hh 40)
  rw [if_neg q40]
  by_cases q41 : eq32 (jand ((xs (Int.ofNat (5 * j)).toNat).toInt) 63) 41
  · rw [if_pos q41]; exact turn_41 u5 u6 hj (hh 41)
  rw [if_neg q41]
  by_cases q42 : eq32 (jand ((xs (Int.ofNat (5 * j)).toNat).toInt) 63) 42
  · rw [if_pos q42]; exact turn_42 u5 u6 hj (hh 42)
  rw [if_neg q42]
  by_cases q43 : eq32 (jand ((xs (Int.ofNat (5 * j)).toNat).toInt) 63) 43
  · rw [if_pos q43]; exact turn_43 u5 u6 hj (hh 43)
  rw [if_neg q43]
  by_cases q44 : eq32 (jand ((xs (Int.ofNat (5 * j)).toNat).toInt) 63) 44
  · rw [if_pos q44]; exact turn_44 u5 u6 hj (hh 44)
  rw [if_neg q44]
  by_cases q45 : eq32 (jand ((xs (Int.ofNat (5 * j)).toNat).toInt) 63) 45
  · rw [if_pos q45]; exact turn_45 u5 u6 hj (hh 45)
  rw [if_neg q45]
  by_cases q46 : eq32 (jand ((xs (Int.ofNat (5 * j)).toNat).toInt) 63) 46
  · rw [if_pos q46]; exact turn_46 u5 u6 hj (hh 46)
  rw [if_neg q46]
  exact turn_def (D := D) (xs := xs) u5 u6 hj h0
end
