/-! THE RUN: with fuel, its limit, and that the real machine does what the run says -/
section EXEC
variable (prog : Nat → Nat → pS) (nL : Nat → Nat)
def ppad (k : Nat) (a : List pV) : List pV := a ++ List.replicate (nL k - a.length) (.inr 0)
def pexec : Nat → Nat → Nat → pX
  | 0, _, _ => fun _ _ _ _ => none
  | n + 1, d, k => fun i ls st M => prog k i (pexec n d k) (match d with
    | 0 => fun _ _ _ => none
    | d' + 1 => fun k' a M' => bif Nat.ble a.length (nL k') then pexec n d' k' 0 (ppad nL k' a) [] M' else none) ls st M
def pcal (n : Nat) : Nat → pY
  | 0 => fun _ _ _ => none
  | d' + 1 => fun k' a M' => bif Nat.ble a.length (nL k') then pexec prog nL n d' k' 0 (ppad nL k' a) [] M' else none
theorem pexec_s (n d k i : Nat) (ls st : List pV) (M : pM) : pexec prog nL (n + 1) d k i ls st M = prog k i (pexec prog nL n d k) (pcal prog nL n d) ls st M := by
  cases d <;> rfl
/-- what a step may be: an end, a going on, or one call and a going on -/
def pForm (f : pS) : Prop := ∀ ls st M, (∃ q, ∀ X Y, f X Y ls st M = q) ∨ (∃ i ls' st' M', ∀ X Y, f X Y ls st M = X i ls' st' M') ∨ (∃ kd k a M' nx ls' r, ∀ X Y, f X Y ls st M = pbk kd (Y k a M') X nx ls' r)
theorem pbk_of {kd : Nat} {o : Option pR} {X X' : pX} {nx : Nat} {ls r : List pV} {q9 : pR} (hX : ∀ i ls st M r, X i ls st M = some r → X' i ls st M = some r) (h : pbk kd o X nx ls r = some q9) : pbk kd o X' nx ls r = some q9 := by
  rcases o with _ | ⟨_ | v | _ | k, M⟩ <;> rcases kd with _ | _ | kd
  any_goals cases h
  all_goals exact hX _ _ _ _ _ h
theorem pForm.mono {f : pS} (hf : pForm f) {X X' : pX} {Y Y' : pY} (hX : ∀ i ls st M r, X i ls st M = some r → X' i ls st M = some r) (hY : ∀ k a M r, Y k a M = some r → Y' k a M = some r) {ls st : List pV} {M : pM} {r : pR} (h : f X Y ls st M = some r) : f X' Y' ls st M = some r := by
  rcases hf ls st M with ⟨q, e⟩ | ⟨i, ls', st', M', e⟩ | ⟨kd, k, a, M', nx, ls', r', e⟩
  · rw [e] at h ⊢; exact h
  · rw [e] at h ⊢; exact hX _ _ _ _ _ h
  · rw [e] at h ⊢
    obtain ⟨q, hq, -⟩ := pbk_some h
    rw [hY _ _ _ _ hq, ← hq]
    exact pbk_of hX h
theorem pexec_mono1 (hF : ∀ k i, pForm (prog k i)) : ∀ n d k i ls st M r, pexec prog nL n d k i ls st M = some r → pexec prog nL (n + 1) d k i ls st M = some r := by
  intro n
  induction n with
  | zero => intro d k i ls st M r h; cases h
  | succ n ih =>
    intro d k i ls st M r h
    rw [pexec_s] at h ⊢
    refine (hF k i).mono (fun i ls st M r h => ih d k i ls st M r h) (fun k' a M' r h => ?_) h
    cases d with
    | zero => cases h
    | succ d =>
      unfold pcal at h ⊢
      dsimp only at h ⊢
      cases hb : Nat.ble a.length (nL k') with
      | false => rw [hb] at h; cases h
      | true => rw [hb] at h; exact ih d k' _ _ _ _ _ h
theorem pexec_mono (hF : ∀ k i, pForm (prog k i)) {n n' : Nat} (hn : n ≤ n') {d k i : Nat} {ls st : List pV} {M : pM} {r : pR} (h : pexec prog nL n d k i ls st M = some r) : pexec prog nL n' d k i ls st M = some r := by
  induction hn with
  | refl => exact h
  | step _ ih => exact pexec_mono1 prog nL hF _ _ _ _ _ _ _ _ ih
/-- the limit -/
noncomputable def pE (d k : Nat) : pX := fun i ls st M => @dite _ (∃ (n : Nat) (r : pR), pexec prog nL n d k i ls st M = some r) (Classical.propDecidable _) (fun h => some (Classical.choose (Classical.choose_spec h))) (fun _ => none)
noncomputable def pYE : Nat → pY
  | 0 => fun _ _ _ => none
  | d' + 1 => fun k' a M' => bif Nat.ble a.length (nL k') then pE prog nL d' k' 0 (ppad nL k' a) [] M' else none
theorem pE_some (hF : ∀ k i, pForm (prog k i)) {d k i : Nat} {ls st : List pV} {M : pM} {r : pR} : pE prog nL d k i ls st M = some r ↔ ∃ n, pexec prog nL n d k i ls st M = some r := by
  unfold pE
  by_cases h : ∃ (n : Nat) (r : pR), pexec prog nL n d k i ls st M = some r
  · rw [dif_pos h]
    have h1 := Classical.choose_spec (Classical.choose_spec h)
    generalize Classical.choose (Classical.choose_spec h) = r1 at h1 ⊢
    generalize Classical.choose h = n1 at h1
    constructor
    · intro e; cases e; exact ⟨_, h1⟩
    · rintro ⟨n2, h2⟩
      have a1 := pexec_mono prog nL hF (Nat.le_max_left n1 n2) h1
      have a2 := pexec_mono prog nL hF (Nat.le_max_right n1 n2) h2
      rw [a1] at a2
      exact a2
  · rw [dif_neg h]
    constructor
    · intro e; cases e
    · rintro ⟨n, h2⟩; exact absurd ⟨n, _, h2⟩ h
theorem pYE_some (hF : ∀ k i, pForm (prog k i)) {d k : Nat} {a : List pV} {M : pM} {r : pR} : pYE prog nL d k a M = some r ↔ ∃ n, pcal prog nL n d k a M = some r := by
  cases d with
  | zero => exact ⟨fun h => (by cases h), fun ⟨_, h⟩ => (by cases h)⟩
  | succ d =>
    unfold pYE pcal
    dsimp only
    cases hb : Nat.ble a.length (nL k) with
    | false => exact ⟨fun h => (by cases h), fun ⟨_, h⟩ => (by cases h)⟩
    | true => exact pE_some prog nL hF
theorem pcal_mono (hF : ∀ k i, pForm (prog k i)) {n n' : Nat} (hn : n ≤ n') {d k : Nat} {a : List pV} {M : pM} {r : pR} (h : pcal prog nL n d k a M = some r) : pcal prog nL n' d k a M = some r := by
  cases d with
  | zero => cases h
  | succ d =>
    unfold pcal at h ⊢
    dsimp only at h ⊢
    cases hb : Nat.ble a.length (nL k) with
    | false => rw [hb] at h; cases h
    | true => rw [hb] at h; exact pexec_mono prog nL hF hn h
theorem opt_ext {α : Type} {a b : Option α} (h1 : ∀ r, a = some r → b = some r) (h2 : ∀ r, b = some r → a = some r) : a = b := by
  cases a with
  | none => cases b with
    | none => rfl
    | some r => exact h2 r rfl
  | some r => exact (h1 r rfl).symm
theorem pE_eq (hF : ∀ k i, pForm (prog k i)) (d k i : Nat) (ls st : List pV) (M : pM) : pE prog nL d k i ls st M = prog k i (pE prog nL d k) (pYE prog nL d) ls st M := by
  apply opt_ext
  · intro r h
    obtain ⟨n, h⟩ := (pE_some prog nL hF).mp h
    cases n with
    | zero => cases h
    | succ n =>
      rw [pexec_s] at h
      exact (hF k i).mono (fun _ _ _ _ _ h => (pE_some prog nL hF).mpr ⟨n, h⟩) (fun _ _ _ _ h => (pYE_some prog nL hF).mpr ⟨n, h⟩) h
  · intro r h
    rcases hF k i ls st M with ⟨q, e⟩ | ⟨i', ls', st', M', e⟩ | ⟨kd, k', a, M', nx, ls', r', e⟩
    · refine (pE_some prog nL hF).mpr ⟨1, ?_⟩
      rw [pexec_s, e]; rw [e] at h; exact h
    · rw [e] at h
      obtain ⟨n, h⟩ := (pE_some prog nL hF).mp h
      refine (pE_some prog nL hF).mpr ⟨n + 1, ?_⟩
      rw [pexec_s, e]; exact h
    · rw [e] at h
      obtain ⟨q, hq, h2⟩ := pbk_some h
      obtain ⟨n1, hq⟩ := (pYE_some prog nL hF).mp hq
      obtain ⟨n2, h3⟩ := (pE_some prog nL hF).mp h2
      refine (pE_some prog nL hF).mpr ⟨max n1 n2 + 1, ?_⟩
      rw [pexec_s, e, pcal_mono prog nL hF (Nat.le_max_left n1 n2) hq]
      have h4 := pexec_mono prog nL hF (Nat.le_max_right n1 n2) h3
      have e1 := (pYE_some prog nL hF).mpr ⟨n1, hq⟩
      rw [e1] at h
      clear e e1 hq
      rcases q with ⟨_ | v | _ | k9, M9⟩ <;> rcases kd with _ | _ | kd
      any_goals cases h
      all_goals exact h4
/-- many steps at once, up to the places where to stop -/
def prun (code : Nat → pS) (stop : Nat → Bool) (X : pX) (Y : pY) : Nat → pX
  | 0 => X
  | n + 1 => fun i ls st M => code i (fun i' ls' st' M' => bif stop i' then X i' ls' st' M' else prun code stop X Y n i' ls' st' M') Y ls st M
theorem prun_eq (hF : ∀ k i, pForm (prog k i)) (d k : Nat) (stop : Nat → Bool) : ∀ n, prun (prog k) stop (pE prog nL d k) (pYE prog nL d) n = pE prog nL d k := by
  intro n
  induction n with
  | zero => rfl
  | succ n ih =>
    unfold prun
    funext i ls st M
    rw [ih, pE_eq prog nL hF]
    congr 1
    funext i' ls' st' M'
    cases stop i' <;> rfl
end EXEC
section SOUND
variable (prog : Nat → Nat → pS) (nL : Nat → Nat) (yn : Nat → MethodName) (wk : Nat → List Cond) (cc : Nat → ByteArray) (ret : Nat → Option FieldType) (pcs : Nat → Nat → Nat)
def prm (d : Nat) : Room := { frames := d + 1, cells := 0, slots := 0, locals := 80 * (d + 1) }
/-- what the tables say of the methods -/
def pMeth (k : Nat) : Prop := plainName (yn k).cls = true ∧ wk k = Cond.code (yn k) (cc k) (nL k) (ret k) :: pws ∧ pcs k 0 = 0
theorem p_args_len {ad : Nat → Nat} : ∀ {a : List pV}, lg_sl (a.map (ptv ad)) = a.map fun v => Slot.val (ptv ad v)
  | [] => rfl
  | v :: a => by
    have h := p_args_len (ad := ad) (a := a)
    unfold lg_sl at h ⊢
    rw [List.map_cons, List.flatMap_cons, h, if_neg (by rw [ptv_cat]; decide)]
    rfl
theorem p_args_mem {ad : Nat → Nat} : ∀ {a : List pV} {j i : Nat} {v : pV}, a[i]? = some v → (j + i, ptv ad v) ∈ lv_args j (a.map (ptv ad))
  | [], _, _, _, h => by simp at h
  | u :: a, j, 0, v, h => by
    cases h
    exact List.mem_cons_self
  | u :: a, j, i + 1, v, h => by
    refine List.mem_cons_of_mem _ ?_
    rw [if_neg (by rw [ptv_cat]; decide)]
    have := p_args_mem (ad := ad) (a := a) (j := j + 1) (i := i) (v := v) h
    rw [show j + (i + 1) = j + 1 + i by omega]
    exact this
theorem p_entry {ad : Nat → Nat} {a : List pV} {n : Nat} {arr : Array Slot} (h : a.length ≤ n) (hl : lv_has arr n (lv_args 0 (a.map (ptv ad)))) : pLs ad n (a ++ List.replicate (n - a.length) (.inr 0)) arr := by
  refine ⟨by simp; omega, hl.1, hl.2.1, fun i v hv hne => ?_⟩
  rcases Nat.lt_or_ge i a.length with q | q
  · rw [List.getElem?_append_left q] at hv
    have := hl.2.2 _ (p_args_mem (ad := ad) (j := 0) hv)
    rw [Nat.zero_add] at this
    exact this
  · rw [List.getElem?_append_right q, List.getElem?_replicate] at hv
    split at hv
    · cases hv; exact absurd rfl hne
    · cases hv
theorem pexec_sound (hS : ∀ k i, pSnd yn wk (yn k).cls (cc k) (nL k) (ret k) (pcs k) (pcs k i) (prog k i)) (hM : ∀ k, (∀ i, prog k i = s_none) ∨ pMeth nL yn wk cc ret pcs k) :
    ∀ n d, (∀ k (p : Program) (l : Launch) (e : Env) (R : Room) (s : State) (m : MethodId) (args : Array Value) (below : List Frame) (meth : Method) (c : Code) (G : va_G) (ad : Nat → Nat) (cA : Nat → ClassId) (A : Nat → Prop) (H0 : Heap) (kc ks : Nat) (Q : pR → State → Prop),
      pCx p R s m args meth c G ad cA A H0 (yn k).cls (cc k) (nL k) kc ks → d + 1 ≤ R.frames → 80 * (d + 1) ≤ R.locals → (∀ q : Nat, H0.size ≤ q → A q) → pRt p l e R s m args below meth c G ad cA A H0 kc ks Q (cc k) (ret k) →
      pGd p l e R s m args below meth c G ad cA A H0 kc ks Q (nL k) (pcs k) (pexec prog nL n d k))
    ∧ (∀ (l : Launch) (G : va_G) (ad : Nat → Nat) (cA : Nat → ClassId) (R : Room), d + 1 ≤ R.frames → 80 * (d + 1) ≤ R.locals → pMt l G ad cA yn wk R (pcal prog nL n d)) := by
  intro n
  induction n with
  | zero =>
    intro d
    refine ⟨fun k p l e R s m args below meth c G ad cA A H0 kc ks Q _ _ _ _ _ i ls st M r h => (by cases h), fun l G ad cA R _ _ k a M r h => ?_⟩
    cases d with
    | zero => cases h
    | succ d =>
      unfold pcal at h
      dsimp only at h
      cases hb : Nat.ble a.length (nL k) with
      | false => rw [hb] at h; cases h
      | true => rw [hb] at h; cases h
  | succ n ih =>
    intro d
    have hfirst : ∀ k (p : Program) (l : Launch) (e : Env) (R : Room) (s : State) (m : MethodId) (args : Array Value) (below : List Frame) (meth : Method) (c : Code) (G : va_G) (ad : Nat → Nat) (cA : Nat → ClassId) (A : Nat → Prop) (H0 : Heap) (kc ks : Nat) (Q : pR → State → Prop), ∀ d,
      pCx p R s m args meth c G ad cA A H0 (yn k).cls (cc k) (nL k) kc ks → d + 1 ≤ R.frames → 80 * (d + 1) ≤ R.locals → (∀ q : Nat, H0.size ≤ q → A q) → pRt p l e R s m args below meth c G ad cA A H0 kc ks Q (cc k) (ret k) →
      pGd p l e R s m args below meth c G ad cA A H0 kc ks Q (nL k) (pcs k) (pexec prog nL (n + 1) d k) := by
      intro k p l e R s m args below meth c G ad cA A H0 kc ks Q d hC h1 h2 hA hR i ls st M r h H locs arr hW hl
      rw [pexec_s] at h
      exact hS k i p l e R s m args below meth c G ad cA A H0 kc ks Q hC hA hR _ _ ((ih d).1 k p l e R s m args below meth c G ad cA A H0 kc ks Q hC h1 h2 hA hR) ((ih d).2 l G ad cA R h1 h2) ls st M r h H locs arr hW hl
    refine ⟨fun k p l e R s m args below meth c G ad cA A H0 kc ks Q => hfirst k p l e R s m args below meth c G ad cA A H0 kc ks Q d, fun l G ad cA R h1 h2 k a M r h => ?_⟩
    cases d with
    | zero => cases h
    | succ d =>
      unfold pcal at h
      dsimp only at h
      cases hb : Nat.ble a.length (nL k) with
      | false => rw [hb] at h; cases h
      | true =>
        rw [hb, cond_true] at h
        have hlen : a.length ≤ nL k := Nat.le_of_ble_eq_true hb
        rcases hM k with hn | hme
        · rw [pexec_s, hn] at h; cases h
        obtain ⟨m1, m2, m3⟩ := hme
        refine ⟨prm d, rfl, rfl, h1, by show 80 + 80 * (d + 1) ≤ R.locals; omega, fun sz => ?_⟩
        refine Met.ofW (cc := cc k) (maxL := nL k) (ret := ret k) m1 m2 ?_
        intro p e s m args below meth c s₁ B hml hv
        obtain ⟨rfl, hsz, hP, hK, hD0, hN, hRO⟩ := hv
        have hx := B.exec
        have hb := B.bytes
        have hr := B.returns
        have hts := atoms_spec (ws := wk k) B.pre
        have hown : s.vm.findClass (yn k).cls = some m.cls := findClass_of_methodNamed B.named
        have hlocks := B.notSynchronized
        subst hsz
        have hD := hD0.self (sz := s.heap.size)
        have hl := lv_entry (a.map (ptv ad)) (n := nL k) (by rw [p_args_len, List.length_map]; exact hlen)
        rw [lg_entry_eq]
        generalize (lg_sl (a.map (ptv ad)) ++ List.replicate (nL k - (lg_sl (a.map (ptv ad))).length) Slot.unset).toArray = arr at hl ⊢
        have hl := p_entry hlen hl
        have hCx : pCx p (headSpec (wk k) (prm d)).room s m (List.map (ptv ad) a).toArray meth c G ad cA (va_A (pW ad cA M) s.heap.size) s.heap (yn k).cls (cc k) (nL k) 0 0 := ⟨hx, hb, hml, hown, fun w hw => hts w (by rw [m2]; exact List.mem_cons_of_mem _ hw), hN, hK, Nat.zero_le _, Nat.zero_le _, by show 1 ≤ d + 1; omega, by show 30 ≤ 80 * (d + 1); omega, rfl, hRO⟩
        have hRt : pRt p l e (headSpec (wk k) (prm d)).room s m (List.map (ptv ad) a).toArray below meth c G ad cA (va_A (pW ad cA M) s.heap.size) s.heap 0 0 (fun r => MQ below (pQ G ad cA (va_A (pW ad cA M) s.heap.size) r) (List.map (ptv ad) a).toArray s 0 0 (va_A (pW ad cA M) s.heap.size)) (cc k) (ret k) := by
          refine ⟨fun hr9 v M9 H9 locs9 arr9 pc9 hd9 hW9 => ?_, fun hr9 v M9 H9 locs9 arr9 pc9 hv9 hd9 hW9 => ?_, fun hr9 M9 H9 locs9 arr9 pc9 hd9 hW9 => ?_, fun hr9 k9 M9 H9 locs9 arr9 pc9 hd9 hW9 => ?_⟩
          · exact W.iret (v := iI v) hx hb (hr.trans hr9) (fun t ht hWm => ⟨rfl, by rw [ht]; exact hW9.1, hW9.2.2.F ht⟩) hW9.2.2.2.2 hd9 hlocks
          · rcases hr9 with hr9 | hr9
            · exact W.zret (v := iI v) (ty := .boolean) hx hb (hr.trans hr9) (iI_z hv9).1 (fun t ht hWm => ⟨rfl, by rw [ht]; exact hW9.1, hW9.2.2.F ht⟩) hW9.2.2.2.2 hd9 hlocks
            · exact W.zret (v := iI v) (ty := .byte) hx hb (hr.trans hr9) (iI_z hv9).2.2.2 (fun t ht hWm => ⟨rfl, by rw [ht]; exact hW9.1, hW9.2.2.F ht⟩) hW9.2.2.2.2 hd9 hlocks
          · exact W.vret hx hb (hr.trans hr9) (fun t ht hWm => ⟨rfl, by rw [ht]; exact hW9.1, hW9.2.2.F ht⟩) hW9.2.2.2.2 hd9 hlocks
          · obtain ⟨nm9, hr9⟩ := hr9
            refine W.aret (v := ptv ad (.inr (k9 + 1))) (rt := .object nm9) hx hb (hr.trans hr9) (Or.inl ⟨_, rfl⟩) ?_ (fun t ht hWm => ⟨rfl, by rw [ht]; exact hW9.1, hW9.2.2.F ht⟩) hW9.2.2.2.2 hd9 hlocks
            cases k9 with
            | zero => exact Or.inl rfl
            | succ k9 => exact Or.inr ⟨_, rfl⟩
        have hG := hfirst k p l e (headSpec (wk k) (prm d)).room s m (List.map (ptv ad) a).toArray below meth c G ad cA (va_A (pW ad cA M) s.heap.size) s.heap 0 0 _ d hCx (Nat.le_refl _) (Nat.le_refl _) (fun q hq => Or.inr hq) hRt
        have := hG 0 _ _ _ _ h s.heap [] arr ⟨hP, hD, va_S.rf⟩ hl
        rw [m3] at this
        exact this
end SOUND
