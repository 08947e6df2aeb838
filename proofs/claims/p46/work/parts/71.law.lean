/-! the law's own body in the pure machine: the script is object 93 (read only), the law's long[1] is object 90 -/
def s_lln (L nx : Nat) : pS := fun X _ ls st M => match st with
  | .inr 95 :: r => X nx ls (.inl (Int.ofNat L) :: r) M
  | _ => none
def s_lld (L : Nat) (xs : Nat → Int32) (nx : Nat) : pS := fun X _ ls st M => match st with
  | .inl i :: .inr 95 :: r => if 0 ≤ i ∧ i < Int.ofNat L then X nx ls (.inl (xs i.toNat).toInt :: r) M else none
  | _ => none
def pSc (ad : Nat → Nat) (A : Nat → Prop) (s : State) (L : Nat) (xs : Nat → Int32) : Prop := va_X (ad 93) L xs s s.heap ∧ ad 93 < s.heap.size ∧ ¬ A (ad 93) ∧ L ≤ 100000
def pSndL (L : Nat) (xs : Nat → Int32) (yn : Nat → MethodName) (wk : Nat → List Cond) (own : String) (cc : ByteArray) (nL : Nat) (ret : Option FieldType) (pcs : Nat → Nat) (bpc : Nat) (f : pS) : Prop :=
  ∀ (p : Program) (l : Launch) (e : Env) (R : Room) (s : State) (m : MethodId) (args : Array Value) (below : List Frame) (meth : Method) (c : Code) (G : va_G) (ad : Nat → Nat) (cA : Nat → ClassId) (A : Nat → Prop) (H0 : Heap) (kc ks : Nat) (Q : pR → State → Prop),
  pCx p R s m args meth c G ad cA A H0 own cc nL kc ks → pSc ad A s L xs → (∀ q : Nat, H0.size ≤ q → A q) → pRt p l e R s m args below meth c G ad cA A H0 kc ks Q cc ret →
  ∀ (X : pX) (Y : pY), pGd p l e R s m args below meth c G ad cA A H0 kc ks Q nL pcs X → pMt l G ad cA yn wk R Y →
  ∀ ls st M r, f X Y ls st M = some r → ∀ H locs arr, pWd G ad cA A H0 M H locs → pLs ad nL ls arr → W p l e R s m args below meth c H locs kc ks (Q r) (F0 m bpc arr (st.map (ptv ad)))
section SNL
variable {L : Nat} {xs : Nat → Int32} {yn : Nat → MethodName} {wk : Nat → List Cond} {own : String} {cc : ByteArray} {nL : Nat} {ret : Option FieldType} {pcs : Nat → Nat} {bpc : Nat}
theorem slw {f : pS} (h : pSnd yn wk own cc nL ret pcs bpc f) : pSndL L xs yn wk own cc nL ret pcs bpc f := by
  intro p l e R s m args below meth c G ad cA A H0 kc ks Q hC _ hA hR
  exact h p l e R s m args below meth c G ad cA A H0 kc ks Q hC hA hR
theorem sl_len {nx : Nat} (hd : decode cc bpc = .ok (.arraylength, 1)) (hn : pcs nx = bpc + 1) : pSndL L xs yn wk own cc nL ret pcs bpc (s_lln L nx) := by
  intro p l e R s m args below meth c G ad cA A H0 kc ks Q ⟨hx, hb, hml, hown, hts, hnw, hK, hkc, hks, hfr, hlo, hH0, hRO⟩ ⟨hX1, hX2, hX3, hX4⟩ hA hR X Y hX hY ls st M r h H locs arr hW hl
  by_cases hs : ∃ rest, st = .inr 95 :: rest
  · obtain ⟨rest, rfl⟩ := hs
    have h : X nx ls (.inl (Int.ofNat L) :: rest) M = some r := h
    subst hH0
    show W p l e R s m args below meth c H locs kc ks (Q r) (F0 m bpc arr (.ref (ad 93) :: rest.map (ptv ad)))
    refine va_slen hx hb hX1 hX2 hX3 hW.2.2 hd ?_
    rw [← hn]
    have e1 : Value.int (Int32.ofNat L) = ptv ad (.inl (Int.ofNat L)) := congrArg Value.int Int32.ofInt_eq_ofNat.symm
    rw [e1]
    exact hX _ _ _ _ _ h _ _ _ hW hl
  · exfalso
    unfold s_lln at h
    split at h
    · exact hs ⟨_, rfl⟩
    · cases h
theorem sl_ild {nx : Nat} (hd : decode cc bpc = .ok (.iaload, 1)) (hn : pcs nx = bpc + 1) : pSndL L xs yn wk own cc nL ret pcs bpc (s_lld L xs nx) := by
  intro p l e R s m args below meth c G ad cA A H0 kc ks Q ⟨hx, hb, hml, hown, hts, hnw, hK, hkc, hks, hfr, hlo, hH0, hRO⟩ ⟨hX1, hX2, hX3, hX4⟩ hA hR X Y hX hY ls st M r h H locs arr hW hl
  by_cases hs : ∃ i rest, st = .inl i :: .inr 95 :: rest
  · obtain ⟨i, rest, rfl⟩ := hs
    have h : (if 0 ≤ i ∧ i < Int.ofNat L then X nx ls (.inl (xs i.toNat).toInt :: rest) M else none) = some r := h
    split at h
    · rename_i hi
      obtain ⟨hin, hcl⟩ := iI_in hi.1 hi.2 hX4
      subst hH0
      show W p l e R s m args below meth c H locs kc ks (Q r) (F0 m bpc arr (.int (iI i) :: .ref (ad 93) :: rest.map (ptv ad)))
      refine va_sld hx hb hX1 hX2 hX3 hW.2.2 hin hd ?_
      rw [hcl, ← hn]
      have e1 : Value.int (xs i.toNat) = ptv ad (.inl (xs i.toNat).toInt) := congrArg Value.int (Int32.ofInt_toInt _).symm
      rw [e1]
      exact hX _ _ _ _ _ h _ _ _ hW hl
    · cases h
  · exfalso
    unfold s_lld at h
    split at h
    · exact hs ⟨_, _, rfl⟩
    · cases h
theorem pW_out {ad : Nat → Nat} {cA : Nat → ClassId} {M : pM} : (pW ad cA M)[90]? = some (ad 90, .inl (cA 90, 1, .inr (.inl fun i => Int64.ofInt (M 90 i)))) := by
  rw [pW_at ad cA M (by decide)]; rfl
theorem pty_out (cA : Nat → ClassId) : ∃ t0 : Nat, (ptys cA)[t0]? = some (cA 90, .long) := by
  obtain ⟨t0, h⟩ := ptys_at cA (o := 90) (by decide +kernel) (by decide +kernel)
  exact ⟨t0, h⟩
end SNL
/-- many steps at once are sound, where what comes behind them is -/
theorem prun_snd {L : Nat} {xs : Nat → Int32} {yn : Nat → MethodName} {wk : Nat → List Cond} {own : String} {cc : ByteArray} {nL : Nat} {ret : Option FieldType} {pcs : Nat → Nat} {code : Nat → pS} (hS : ∀ i, pSndL L xs yn wk own cc nL ret pcs (pcs i) (code i))
    {p : Program} {l : Launch} {e : Env} {R : Room} {s : State} {m : MethodId} {args : Array Value} {below : List Frame} {meth : Method} {c : Code} {G : va_G} {ad : Nat → Nat} {cA : Nat → ClassId} {A : Nat → Prop} {H0 : Heap} {kc ks : Nat} {Q : pR → State → Prop}
    (hC : pCx p R s m args meth c G ad cA A H0 own cc nL kc ks) (hL : pSc ad A s L xs) (hA : ∀ q : Nat, H0.size ≤ q → A q) (hR : pRt p l e R s m args below meth c G ad cA A H0 kc ks Q cc ret) (stop : Nat → Bool)
    {X : pX} {Y : pY} (hX : pGd p l e R s m args below meth c G ad cA A H0 kc ks Q nL pcs X) (hY : pMt l G ad cA yn wk R Y) : ∀ n, pGd p l e R s m args below meth c G ad cA A H0 kc ks Q nL pcs (prun code stop X Y n) := by
  intro n
  induction n with
  | zero => exact hX
  | succ n ih =>
    intro i ls st M r h H locs arr hW hl
    refine hS i p l e R s m args below meth c G ad cA A H0 kc ks Q hC hL hA hR (fun i' ls' st' M' => bif stop i' then X i' ls' st' M' else prun code stop X Y n i' ls' st' M') Y ?_ hY ls st M r h H locs arr hW hl
    intro i' ls' st' M' r' h'
    dsimp only at h'
    cases hs : stop i' with
    | true => rw [hs] at h'; exact hX i' ls' st' M' r' h'
    | false => rw [hs] at h'; exact ih i' ls' st' M' r' h'
/-- the same for a method without a script -/
theorem prun_snd0 {yn : Nat → MethodName} {wk : Nat → List Cond} {own : String} {cc : ByteArray} {nL : Nat} {ret : Option FieldType} {pcs : Nat → Nat} {code : Nat → pS} (hS : ∀ i, pSnd yn wk own cc nL ret pcs (pcs i) (code i))
    {p : Program} {l : Launch} {e : Env} {R : Room} {s : State} {m : MethodId} {args : Array Value} {below : List Frame} {meth : Method} {c : Code} {G : va_G} {ad : Nat → Nat} {cA : Nat → ClassId} {A : Nat → Prop} {H0 : Heap} {kc ks : Nat} {Q : pR → State → Prop}
    (hC : pCx p R s m args meth c G ad cA A H0 own cc nL kc ks) (hA : ∀ q : Nat, H0.size ≤ q → A q) (hR : pRt p l e R s m args below meth c G ad cA A H0 kc ks Q cc ret) (stop : Nat → Bool)
    {X : pX} {Y : pY} (hX : pGd p l e R s m args below meth c G ad cA A H0 kc ks Q nL pcs X) (hY : pMt l G ad cA yn wk R Y) : ∀ n, pGd p l e R s m args below meth c G ad cA A H0 kc ks Q nL pcs (prun code stop X Y n) := by
  intro n
  induction n with
  | zero => exact hX
  | succ n ih =>
    intro i ls st M r h H locs arr hW hl
    refine hS i p l e R s m args below meth c G ad cA A H0 kc ks Q hC hA hR (fun i' ls' st' M' => bif stop i' then X i' ls' st' M' else prun code stop X Y n i' ls' st' M') Y ?_ hY ls st M r h H locs arr hW hl
    intro i' ls' st' M' r' h'
    dsimp only at h'
    cases hs : stop i' with
    | true => rw [hs] at h'; exact hX i' ls' st' M' r' h'
    | false => rw [hs] at h'; exact ih i' ls' st' M' r' h'
/-! the law as a list of steps (by program) -/
theorem cal_0 : pCal pyn pwk 0 1 2 cX11_sign (some .int) := ⟨rfl, pmt2 178 rfl rfl, by decide, pmt1 1 rfl rfl, ⟨by decide +kernel, by decide +kernel, by decide +kernel⟩⟩
theorem cal_1 : pCal pyn pwk 1 1 2 cX11_end (some .boolean) := ⟨rfl, pmt2 186 rfl rfl, by decide, pmt1 1 rfl rfl, ⟨by decide +kernel, by decide +kernel, by decide +kernel⟩⟩
theorem cal_2 : pCal pyn pwk 2 0 2 cX11_house (some .int) := ⟨rfl, pmt2 194 rfl rfl, by decide, pmt1 1 rfl rfl, ⟨by decide +kernel, by decide +kernel, by decide +kernel⟩⟩
theorem cal_3 : pCal pyn pwk 3 0 2 cX11_rule (some .int) := ⟨rfl, pmt3 87 rfl rfl, by decide, pmt1 1 rfl rfl, ⟨by decide +kernel, by decide +kernel, by decide +kernel⟩⟩
theorem cal_4 : pCal pyn pwk 4 2 3 cX11_room (some .int) := ⟨rfl, pmt6 47 rfl rfl, by decide, pmt1 1 rfl rfl, ⟨by decide +kernel, by decide +kernel, by decide +kernel⟩⟩
theorem cal_5 : pCal pyn pwk 5 2 3 cX11_thing (some .int) := ⟨rfl, pmt6 122 rfl rfl, by decide, pmt1 1 rfl rfl, ⟨by decide +kernel, by decide +kernel, by decide +kernel⟩⟩
theorem cal_6 : pCal pyn pwk 6 1 2 cX11_set (some .int) := ⟨rfl, pmt3 222 rfl rfl, by decide, pmt1 1 rfl rfl, ⟨by decide +kernel, by decide +kernel, by decide +kernel⟩⟩
theorem cal_7 : pCal pyn pwk 7 2 4 cX11_door (some .int) := ⟨rfl, pmt3 226 rfl rfl, by decide, pmt1 1 rfl rfl, ⟨by decide +kernel, by decide +kernel, by decide +kernel⟩⟩
theorem cal_8 : pCal pyn pwk 8 3 5 cX11_widen (some .int) := ⟨rfl, pmt3 235 rfl rfl, by decide, pmt1 1 rfl rfl, ⟨by decide +kernel, by decide +kernel, by decide +kernel⟩⟩
theorem cal_9 : pCal pyn pwk 9 1 3 cX11_strength (some .int) := ⟨rfl, pmt4 0 rfl rfl, by decide, pmt1 1 rfl rfl, ⟨by decide +kernel, by decide +kernel, by decide +kernel⟩⟩
theorem cal_10 : pCal pyn pwk 10 4 5 cX11_sheet (some .int) := ⟨rfl, pmt4 4 rfl rfl, by decide, pmt1 1 rfl rfl, ⟨by decide +kernel, by decide +kernel, by decide +kernel⟩⟩
theorem cal_12 : pCal pyn pwk 12 0 3 cX11_evening (some .int) := ⟨rfl, pmt4 55 rfl rfl, by decide, pmt1 1 rfl rfl, ⟨by decide +kernel, by decide +kernel, by decide +kernel⟩⟩
theorem cal_13 : pCal pyn pwk 13 0 7 cX11_day (some .int) := ⟨rfl, pmt4 96 rfl rfl, by decide, pmt1 1 rfl rfl, ⟨by decide +kernel, by decide +kernel, by decide +kernel⟩⟩
theorem cal_14 : pCal pyn pwk 14 0 2 cX11_undo (some .int) := ⟨rfl, pmt4 126 rfl rfl, by decide, pmt1 1 rfl rfl, ⟨by decide +kernel, by decide +kernel, by decide +kernel⟩⟩
theorem cal_15 : pCal pyn pwk 15 2 8 cX11_judge (some .int) := ⟨rfl, pmt4 130 rfl rfl, by decide, pmt1 1 rfl rfl, ⟨by decide +kernel, by decide +kernel, by decide +kernel⟩⟩
theorem cal_16 : pCal pyn pwk 16 0 2 cX11_clumps (some .int) := ⟨rfl, pmt4 135 rfl rfl, by decide, pmt1 1 rfl rfl, ⟨by decide +kernel, by decide +kernel, by decide +kernel⟩⟩
theorem cal_17 : pCal pyn pwk 17 0 3 cX11_heaviest (some .int) := ⟨rfl, pmt4 139 rfl rfl, by decide, pmt1 1 rfl rfl, ⟨by decide +kernel, by decide +kernel, by decide +kernel⟩⟩
theorem cal_18 : pCal pyn pwk 18 1 3 cX11_without (some .int) := ⟨rfl, pmt4 151 rfl rfl, by decide, pmt1 1 rfl rfl, ⟨by decide +kernel, by decide +kernel, by decide +kernel⟩⟩
theorem cal_19 : pCal pyn pwk 19 1 2 cX11_breaks (some .int) := ⟨rfl, pmt4 165 rfl rfl, by decide, pmt1 1 rfl rfl, ⟨by decide +kernel, by decide +kernel, by decide +kernel⟩⟩
theorem cal_20 : pCal pyn pwk 20 0 3 cX11_ties (some .int) := ⟨rfl, pmt4 173 rfl rfl, by decide, pmt1 1 rfl rfl, ⟨by decide +kernel, by decide +kernel, by decide +kernel⟩⟩
theorem cal_21 : pCal pyn pwk 21 0 1 cX11_fits (some .int) := ⟨rfl, pmt4 177 rfl rfl, by decide, pmt1 1 rfl rfl, ⟨by decide +kernel, by decide +kernel, by decide +kernel⟩⟩
theorem cal_22 : pCal pyn pwk 22 0 3 cX11_worth (some .int) := ⟨rfl, pmt4 224 rfl rfl, by decide, pmt1 1 rfl rfl, ⟨by decide +kernel, by decide +kernel, by decide +kernel⟩⟩
theorem cal_23 : pCal pyn pwk 23 0 3 cX11_best (some .int) := ⟨rfl, pmt5 11 rfl rfl, by decide, pmt1 1 rfl rfl, ⟨by decide +kernel, by decide +kernel, by decide +kernel⟩⟩
theorem cal_24 : pCal pyn pwk 24 0 1 cX11_near (some .int) := ⟨rfl, pmt5 19 rfl rfl, by decide, pmt1 1 rfl rfl, ⟨by decide +kernel, by decide +kernel, by decide +kernel⟩⟩
theorem cal_25 : pCal pyn pwk 25 2 3 cX11_guest (some .int) := ⟨rfl, pmt5 32 rfl rfl, by decide, pmt1 1 rfl rfl, ⟨by decide +kernel, by decide +kernel, by decide +kernel⟩⟩
theorem cal_26 : pCal pyn pwk 26 0 3 cX11_space (some .int) := ⟨rfl, pmt5 36 rfl rfl, by decide, pmt1 1 rfl rfl, ⟨by decide +kernel, by decide +kernel, by decide +kernel⟩⟩
theorem cal_27 : pCal pyn pwk 27 2 7 cX11_could (some .int) := ⟨rfl, pmt5 44 rfl rfl, by decide, pmt1 1 rfl rfl, ⟨by decide +kernel, by decide +kernel, by decide +kernel⟩⟩
theorem cal_28 : pCal pyn pwk 28 1 7 cX11_may (some .int) := ⟨rfl, pmt5 59 rfl rfl, by decide, pmt1 1 rfl rfl, ⟨by decide +kernel, by decide +kernel, by decide +kernel⟩⟩
theorem cal_29 : pCal pyn pwk 29 2 8 cX11_together (some .int) := ⟨rfl, pmt5 72 rfl rfl, by decide, pmt1 1 rfl rfl, ⟨by decide +kernel, by decide +kernel, by decide +kernel⟩⟩
theorem cal_30 : pCal pyn pwk 30 1 2 cX11_fullest (some .int) := ⟨rfl, pmt5 76 rfl rfl, by decide, pmt1 1 rfl rfl, ⟨by decide +kernel, by decide +kernel, by decide +kernel⟩⟩
theorem cal_31 : pCal pyn pwk 31 2 4 cX11_swap (some .int) := ⟨rfl, pmt5 80 rfl rfl, by decide, pmt1 1 rfl rfl, ⟨by decide +kernel, by decide +kernel, by decide +kernel⟩⟩
theorem cal_32 : pCal pyn pwk 32 0 4 cX11_sell (some .int) := ⟨rfl, pmt5 89 rfl rfl, by decide, pmt1 1 rfl rfl, ⟨by decide +kernel, by decide +kernel, by decide +kernel⟩⟩
theorem cal_33 : pCal pyn pwk 33 0 4 cX11_build (some .int) := ⟨rfl, pmt5 99 rfl rfl, by decide, pmt1 1 rfl rfl, ⟨by decide +kernel, by decide +kernel, by decide +kernel⟩⟩
theorem cal_34 : pCal pyn pwk 34 2 7 cX11_way (some .int) := ⟨rfl, pmt5 103 rfl rfl, by decide, pmt1 1 rfl rfl, ⟨by decide +kernel, by decide +kernel, by decide +kernel⟩⟩
theorem cal_35 : pCal pyn pwk 35 2 4 cX11_widest (some .int) := ⟨rfl, pmt5 112 rfl rfl, by decide, pmt1 1 rfl rfl, ⟨by decide +kernel, by decide +kernel, by decide +kernel⟩⟩
theorem cal_36 : pCal pyn pwk 36 0 3 cX11_stuck (some .int) := ⟨rfl, pmt5 116 rfl rfl, by decide, pmt1 1 rfl rfl, ⟨by decide +kernel, by decide +kernel, by decide +kernel⟩⟩
theorem cal_37 : pCal pyn pwk 37 1 8 cX11_hinge (some .int) := ⟨rfl, pmt5 128 rfl rfl, by decide, pmt1 1 rfl rfl, ⟨by decide +kernel, by decide +kernel, by decide +kernel⟩⟩
theorem cal_38 : pCal pyn pwk 38 0 4 cX11_aim (some .int) := ⟨rfl, pmt5 137 rfl rfl, by decide, pmt1 1 rfl rfl, ⟨by decide +kernel, by decide +kernel, by decide +kernel⟩⟩
theorem cal_39 : pCal pyn pwk 39 0 2 cX11_apart (some .int) := ⟨rfl, pmt5 145 rfl rfl, by decide, pmt1 1 rfl rfl, ⟨by decide +kernel, by decide +kernel, by decide +kernel⟩⟩
theorem cal_40 : pCal pyn pwk 40 0 2 cX11_queue (some .int) := ⟨rfl, pmt5 153 rfl rfl, by decide, pmt1 1 rfl rfl, ⟨by decide +kernel, by decide +kernel, by decide +kernel⟩⟩
theorem cal_41 : pCal pyn pwk 41 0 4 cX11_evenings (some .int) := ⟨rfl, pmt5 175 rfl rfl, by decide, pmt1 1 rfl rfl, ⟨by decide +kernel, by decide +kernel, by decide +kernel⟩⟩
theorem cal_42 : pCal pyn pwk 42 0 4 cX11_weakest (some .int) := ⟨rfl, pmt6 0 rfl rfl, by decide, pmt1 1 rfl rfl, ⟨by decide +kernel, by decide +kernel, by decide +kernel⟩⟩
theorem cal_43 : pCal pyn pwk 43 1 3 cX11_keep (some .boolean) := ⟨rfl, pmt6 13 rfl rfl, by decide, pmt1 1 rfl rfl, ⟨by decide +kernel, by decide +kernel, by decide +kernel⟩⟩
theorem cal_44 : pCal pyn pwk 44 1 3 cX11_again (some .boolean) := ⟨rfl, pmt6 26 rfl rfl, by decide, pmt1 1 rfl rfl, ⟨by decide +kernel, by decide +kernel, by decide +kernel⟩⟩
theorem cal_45 : pCal pyn pwk 45 1 2 cX11_count (some .int) := ⟨rfl, pmt6 34 rfl rfl, by decide, pmt1 1 rfl rfl, ⟨by decide +kernel, by decide +kernel, by decide +kernel⟩⟩
theorem cal_46 : pCal pyn pwk 46 1 2 cX11_row (some .int) := ⟨rfl, pmt6 131 rfl rfl, by decide, pmt1 1 rfl rfl, ⟨by decide +kernel, by decide +kernel, by decide +kernel⟩⟩
theorem cal_175 : pCal pyn pwk 175 1 3 cX12_sign (some .int) := ⟨rfl, pmt7 72 rfl rfl, by decide, pmt1 13 rfl rfl, ⟨by decide +kernel, by decide +kernel, by decide +kernel⟩⟩
theorem cal_176 : pCal pyn pwk 176 1 2 cX12_end (some .boolean) := ⟨rfl, pmt7 76 rfl rfl, by decide, pmt1 13 rfl rfl, ⟨by decide +kernel, by decide +kernel, by decide +kernel⟩⟩
theorem cal_184 : pCal pyn pwk 184 0 9 cX12_house (some .int) := ⟨rfl, pmt7 83 rfl rfl, by decide, pmt1 13 rfl rfl, ⟨by decide +kernel, by decide +kernel, by decide +kernel⟩⟩
theorem cal_193 : pCal pyn pwk 193 0 3 cX12_rule (some .int) := ⟨rfl, pmt7 127 rfl rfl, by decide, pmt1 13 rfl rfl, ⟨by decide +kernel, by decide +kernel, by decide +kernel⟩⟩
theorem cal_199 : pCal pyn pwk 199 2 5 cX12_room (some .int) := ⟨rfl, pmt7 163 rfl rfl, by decide, pmt1 13 rfl rfl, ⟨by decide +kernel, by decide +kernel, by decide +kernel⟩⟩
theorem cal_201 : pCal pyn pwk 201 2 3 cX12_thing (some .int) := ⟨rfl, pmt7 179 rfl rfl, by decide, pmt1 13 rfl rfl, ⟨by decide +kernel, by decide +kernel, by decide +kernel⟩⟩
theorem cal_202 : pCal pyn pwk 202 1 2 cX12_set (some .int) := ⟨rfl, pmt7 197 rfl rfl, by decide, pmt1 13 rfl rfl, ⟨by decide +kernel, by decide +kernel, by decide +kernel⟩⟩
theorem cal_203 : pCal pyn pwk 203 2 3 cX12_door (some .int) := ⟨rfl, pmt7 201 rfl rfl, by decide, pmt1 13 rfl rfl, ⟨by decide +kernel, by decide +kernel, by decide +kernel⟩⟩
theorem cal_204 : pCal pyn pwk 204 3 5 cX12_widen (some .int) := ⟨rfl, pmt7 205 rfl rfl, by decide, pmt1 13 rfl rfl, ⟨by decide +kernel, by decide +kernel, by decide +kernel⟩⟩
theorem cal_205 : pCal pyn pwk 205 1 3 cX12_strength (some .int) := ⟨rfl, pmt7 209 rfl rfl, by decide, pmt1 13 rfl rfl, ⟨by decide +kernel, by decide +kernel, by decide +kernel⟩⟩
theorem cal_206 : pCal pyn pwk 206 4 9 cX12_sheet (some .int) := ⟨rfl, pmt7 213 rfl rfl, by decide, pmt1 13 rfl rfl, ⟨by decide +kernel, by decide +kernel, by decide +kernel⟩⟩
theorem cal_216 : pCal pyn pwk 216 2 4 cX12_carry (some .int) := ⟨rfl, pmt7 217 rfl rfl, by decide, pmt1 13 rfl rfl, ⟨by decide +kernel, by decide +kernel, by decide +kernel⟩⟩
theorem cal_218 : pCal pyn pwk 218 0 3 cX12_evening (some .int) := ⟨rfl, pmt8 2 rfl rfl, by decide, pmt1 13 rfl rfl, ⟨by decide +kernel, by decide +kernel, by decide +kernel⟩⟩
theorem cal_219 : pCal pyn pwk 219 0 5 cX12_day (some .int) := ⟨rfl, pmt8 27 rfl rfl, by decide, pmt1 13 rfl rfl, ⟨by decide +kernel, by decide +kernel, by decide +kernel⟩⟩
theorem cal_220 : pCal pyn pwk 220 0 1 cX12_undo (some .int) := ⟨rfl, pmt8 31 rfl rfl, by decide, pmt1 13 rfl rfl, ⟨by decide +kernel, by decide +kernel, by decide +kernel⟩⟩
theorem cal_221 : pCal pyn pwk 221 2 8 cX12_judge (some .int) := ⟨rfl, pmt8 35 rfl rfl, by decide, pmt1 13 rfl rfl, ⟨by decide +kernel, by decide +kernel, by decide +kernel⟩⟩
theorem cal_222 : pCal pyn pwk 222 0 2 cX12_clumps (some .int) := ⟨rfl, pmt8 39 rfl rfl, by decide, pmt1 13 rfl rfl, ⟨by decide +kernel, by decide +kernel, by decide +kernel⟩⟩
theorem cal_224 : pCal pyn pwk 224 0 4 cX12_heaviest (some .int) := ⟨rfl, pmt8 43 rfl rfl, by decide, pmt1 13 rfl rfl, ⟨by decide +kernel, by decide +kernel, by decide +kernel⟩⟩
theorem cal_225 : pCal pyn pwk 225 1 4 cX12_without (some .int) := ⟨rfl, pmt8 51 rfl rfl, by decide, pmt1 13 rfl rfl, ⟨by decide +kernel, by decide +kernel, by decide +kernel⟩⟩
theorem cal_226 : pCal pyn pwk 226 1 3 cX12_breaks (some .int) := ⟨rfl, pmt8 55 rfl rfl, by decide, pmt1 13 rfl rfl, ⟨by decide +kernel, by decide +kernel, by decide +kernel⟩⟩
theorem cal_227 : pCal pyn pwk 227 0 4 cX12_ties (some .int) := ⟨rfl, pmt8 59 rfl rfl, by decide, pmt1 13 rfl rfl, ⟨by decide +kernel, by decide +kernel, by decide +kernel⟩⟩
theorem cal_234 : pCal pyn pwk 234 0 2 cX12_fits (some .int) := ⟨rfl, pmt8 63 rfl rfl, by decide, pmt1 13 rfl rfl, ⟨by decide +kernel, by decide +kernel, by decide +kernel⟩⟩
theorem cal_235 : pCal pyn pwk 235 0 1 cX12_worth (some .int) := ⟨rfl, pmt8 91 rfl rfl, by decide, pmt1 13 rfl rfl, ⟨by decide +kernel, by decide +kernel, by decide +kernel⟩⟩
theorem cal_236 : pCal pyn pwk 236 0 4 cX12_best (some .int) := ⟨rfl, pmt8 99 rfl rfl, by decide, pmt1 13 rfl rfl, ⟨by decide +kernel, by decide +kernel, by decide +kernel⟩⟩
theorem cal_238 : pCal pyn pwk 238 0 1 cX12_near (some .int) := ⟨rfl, pmt8 103 rfl rfl, by decide, pmt1 13 rfl rfl, ⟨by decide +kernel, by decide +kernel, by decide +kernel⟩⟩
theorem cal_239 : pCal pyn pwk 239 2 3 cX12_guest (some .int) := ⟨rfl, pmt8 115 rfl rfl, by decide, pmt1 13 rfl rfl, ⟨by decide +kernel, by decide +kernel, by decide +kernel⟩⟩
theorem cal_240 : pCal pyn pwk 240 0 5 cX12_space (some .int) := ⟨rfl, pmt8 119 rfl rfl, by decide, pmt1 13 rfl rfl, ⟨by decide +kernel, by decide +kernel, by decide +kernel⟩⟩
theorem cal_241 : pCal pyn pwk 241 2 8 cX12_could (some .int) := ⟨rfl, pmt8 123 rfl rfl, by decide, pmt1 13 rfl rfl, ⟨by decide +kernel, by decide +kernel, by decide +kernel⟩⟩
theorem cal_242 : pCal pyn pwk 242 1 5 cX12_may (some .int) := ⟨rfl, pmt8 127 rfl rfl, by decide, pmt1 13 rfl rfl, ⟨by decide +kernel, by decide +kernel, by decide +kernel⟩⟩
theorem cal_243 : pCal pyn pwk 243 2 5 cX12_together (some .int) := ⟨rfl, pmt8 131 rfl rfl, by decide, pmt1 13 rfl rfl, ⟨by decide +kernel, by decide +kernel, by decide +kernel⟩⟩
theorem cal_244 : pCal pyn pwk 244 1 4 cX12_fullest (some .int) := ⟨rfl, pmt8 135 rfl rfl, by decide, pmt1 13 rfl rfl, ⟨by decide +kernel, by decide +kernel, by decide +kernel⟩⟩
theorem cal_245 : pCal pyn pwk 245 2 4 cX12_swap (some .int) := ⟨rfl, pmt8 139 rfl rfl, by decide, pmt1 13 rfl rfl, ⟨by decide +kernel, by decide +kernel, by decide +kernel⟩⟩
theorem cal_246 : pCal pyn pwk 246 0 5 cX12_sell (some .int) := ⟨rfl, pmt8 143 rfl rfl, by decide, pmt1 13 rfl rfl, ⟨by decide +kernel, by decide +kernel, by decide +kernel⟩⟩
theorem cal_248 : pCal pyn pwk 248 0 7 cX12_build (some .int) := ⟨rfl, pmt8 151 rfl rfl, by decide, pmt1 13 rfl rfl, ⟨by decide +kernel, by decide +kernel, by decide +kernel⟩⟩
theorem cal_250 : pCal pyn pwk 250 2 7 cX12_way (some .int) := ⟨rfl, pmt8 159 rfl rfl, by decide, pmt1 13 rfl rfl, ⟨by decide +kernel, by decide +kernel, by decide +kernel⟩⟩
theorem cal_251 : pCal pyn pwk 251 2 4 cX12_widest (some .int) := ⟨rfl, pmt8 163 rfl rfl, by decide, pmt1 13 rfl rfl, ⟨by decide +kernel, by decide +kernel, by decide +kernel⟩⟩
theorem cal_252 : pCal pyn pwk 252 0 4 cX12_stuck (some .int) := ⟨rfl, pmt8 167 rfl rfl, by decide, pmt1 13 rfl rfl, ⟨by decide +kernel, by decide +kernel, by decide +kernel⟩⟩
theorem cal_254 : pCal pyn pwk 254 1 9 cX12_hinge (some .int) := ⟨rfl, pmt8 171 rfl rfl, by decide, pmt1 13 rfl rfl, ⟨by decide +kernel, by decide +kernel, by decide +kernel⟩⟩
theorem cal_255 : pCal pyn pwk 255 0 3 cX12_aim (some .int) := ⟨rfl, pmt8 179 rfl rfl, by decide, pmt1 13 rfl rfl, ⟨by decide +kernel, by decide +kernel, by decide +kernel⟩⟩
theorem cal_257 : pCal pyn pwk 257 0 2 cX12_apart (some .int) := ⟨rfl, pmt8 183 rfl rfl, by decide, pmt1 13 rfl rfl, ⟨by decide +kernel, by decide +kernel, by decide +kernel⟩⟩
theorem cal_259 : pCal pyn pwk 259 0 4 cX12_queue (some .int) := ⟨rfl, pmt8 191 rfl rfl, by decide, pmt1 13 rfl rfl, ⟨by decide +kernel, by decide +kernel, by decide +kernel⟩⟩
theorem cal_263 : pCal pyn pwk 263 0 3 cX12_evenings (some .int) := ⟨rfl, pmt8 199 rfl rfl, by decide, pmt1 13 rfl rfl, ⟨by decide +kernel, by decide +kernel, by decide +kernel⟩⟩
theorem cal_264 : pCal pyn pwk 264 0 2 cX12_weakest (some .int) := ⟨rfl, pmt8 215 rfl rfl, by decide, pmt1 13 rfl rfl, ⟨by decide +kernel, by decide +kernel, by decide +kernel⟩⟩
theorem cal_266 : pCal pyn pwk 266 1 3 cX12_keep (some .boolean) := ⟨rfl, pmt8 223 rfl rfl, by decide, pmt1 13 rfl rfl, ⟨by decide +kernel, by decide +kernel, by decide +kernel⟩⟩
theorem cal_267 : pCal pyn pwk 267 1 3 cX12_again (some .boolean) := ⟨rfl, pmt8 227 rfl rfl, by decide, pmt1 13 rfl rfl, ⟨by decide +kernel, by decide +kernel, by decide +kernel⟩⟩
theorem cal_268 : pCal pyn pwk 268 1 4 cX12_count (some .int) := ⟨rfl, pmt8 231 rfl rfl, by decide, pmt1 13 rfl rfl, ⟨by decide +kernel, by decide +kernel, by decide +kernel⟩⟩
theorem cal_269 : pCal pyn pwk 269 1 2 cX12_row (some .int) := ⟨rfl, pmt8 235 rfl rfl, by decide, pmt1 13 rfl rfl, ⟨by decide +kernel, by decide +kernel, by decide +kernel⟩⟩
def lawPC : List Nat := [0, 3, 4, 7, 8, 11, 12, 15, 16, 17, 19, 20, 21, 23, 25, 26, 27, 28, 29, 32, 33, 35, 36, 38, 39, 240, 241, 242, 244, 245, 246, 247, 250, 251, 252, 253, 255, 256, 257, 258, 261, 262, 265, 266, 267, 269, 270, 271, 272, 275, 276, 277, 278, 280, 281, 282, 283, 286, 287, 290, 291, 294, 295, 296, 299, 300, 303, 304, 307, 308, 309, 312, 313, 316, 317, 318, 320, 321, 322, 323, 324, 326, 327, 328, 329, 330, 333, 335, 336, 337, 339, 340, 341, 342, 343, 345, 346, 347, 348, 351, 353, 356, 357, 358, 360, 361, 362, 363, 364, 366, 367, 368, 369, 370, 373, 375, 376, 377, 379, 380, 381, 382, 383, 385, 386, 387, 388, 391, 393, 396, 397, 398, 400, 401, 402, 403, 406, 407, 408, 409, 411, 412, 413, 414, 417, 418, 421, 422, 423, 425, 426, 427, 428, 429, 431, 432, 433, 434, 437, 438, 439, 440, 442, 443, 444, 445, 446, 448, 449, 450, 451, 454, 455, 458, 459, 460, 462, 463, 464, 465, 466, 468, 469, 470, 471, 472, 474, 475, 476, 477, 480, 481, 482, 483, 485, 486, 487, 488, 489, 491, 492, 493, 494, 495, 497, 498, 499, 500, 503, 504, 507, 508, 509, 511, 512, 513, 514, 517, 518, 519, 520, 522, 523, 524, 525, 528, 529, 532, 533, 534, 536, 537, 538, 539, 540, 542, 543, 544, 545, 546, 548, 549, 550, 551, 552, 554, 555, 556, 557, 560, 561, 562, 563, 565, 566, 567, 568, 569, 571, 572, 573, 574, 575, 577, 578, 579, 580, 581, 583, 584, 585, 586, 589, 590, 593, 594, 595, 597, 598, 599, 600, 601, 603, 604, 605, 606, 609, 610, 611, 612, 614, 615, 616, 617, 618, 620, 621, 622, 623, 626, 627, 630, 631, 634, 635, 636, 639, 640, 643, 644, 647, 648, 649, 652, 653, 656, 657, 660, 661, 662, 665, 666, 669, 670, 671, 673, 674, 675, 676, 677, 679, 680, 681, 682, 685, 686, 687, 688, 690, 691, 692, 693, 694, 696, 697, 698, 699, 702, 703, 706, 707, 710, 711, 712, 715, 716, 719, 720, 723, 724, 725, 728, 729, 732, 733, 734, 736, 737, 738, 739, 742, 743, 744, 745, 747, 748, 749, 750, 753, 754, 757, 758, 759, 761, 762, 763, 764, 767, 768, 769, 770, 772, 773, 774, 775, 778, 779, 782, 783, 786, 787, 788, 791, 792, 795, 796, 799, 800, 801, 804, 805, 808, 809, 812, 813, 814, 817, 818, 821, 822, 825, 826, 827, 830, 831, 834, 835, 838, 839, 840, 843, 844, 847, 848, 849, 851, 852, 853, 854, 855, 857, 858, 859, 860, 863, 864, 865, 866, 868, 869, 870, 871, 872, 874, 875, 876, 877, 880, 881, 884, 885, 888, 889, 890, 893, 894, 897, 898, 899, 901, 902, 903, 904, 905, 907, 908, 909, 910, 913, 914, 915, 916, 918, 919, 920, 921, 922, 924, 925, 926, 927, 930, 931, 934, 935, 936, 938, 939, 940, 941, 944, 945, 946, 947, 949, 950, 951, 952, 955, 956, 959, 960, 961, 963, 964, 965, 966, 967, 969, 970, 971, 972, 975, 976, 977, 978, 980, 981, 982, 983, 984, 986, 987, 988, 989, 992, 993, 996, 997, 998, 1000, 1001, 1002, 1003, 1006, 1007, 1008, 1009, 1011, 1012, 1013, 1014, 1017, 1018, 1021, 1022, 1023, 1025, 1026, 1027, 1028, 1029, 1031, 1032, 1033, 1034, 1037, 1038, 1039, 1040, 1042, 1043, 1044, 1045, 1046, 1048, 1049, 1050, 1051, 1054, 1055, 1058, 1059, 1062, 1063, 1064, 1067, 1068, 1071, 1072, 1075, 1076, 1077, 1080, 1081, 1084, 1085, 1086, 1088, 1089, 1090, 1091, 1092, 1094, 1095, 1096, 1097, 1100, 1101, 1102, 1103, 1105, 1106, 1107, 1108, 1109, 1111, 1112, 1113, 1114, 1117, 1118, 1121, 1122, 1123, 1125, 1126, 1127, 1128, 1129, 1131, 1132, 1133, 1134, 1137, 1138, 1139, 1140, 1142, 1143, 1144, 1145, 1146, 1148, 1149, 1150, 1151, 1154, 1155, 1158, 1159, 1162, 1163, 1164, 1167, 1168, 1171, 1172, 1173, 1175, 1176, 1177, 1178, 1181, 1182, 1183, 1184, 1186, 1187, 1188, 1189, 1192, 1193, 1196, 1197, 1200, 1201, 1202, 1205, 1206, 1209, 1210, 1213, 1214, 1215, 1218, 1219, 1222, 1223, 1226, 1227, 1228, 1231, 1232, 1235, 1236, 1239, 1240, 1241, 1244, 1245, 1248, 1249, 1252, 1253, 1254, 1257, 1258, 1261, 1262, 1263, 1265, 1266, 1267, 1268, 1271, 1272, 1273, 1274, 1276, 1277, 1278, 1279, 1282, 1283, 1286, 1287, 1288, 1290, 1291, 1292, 1293, 1296, 1297, 1298, 1300, 1301, 1302, 1303, 1306, 1309, 1310, 1311, 1312, 1313, 1315, 1316, 1317, 1318, 1321, 1322, 1323, 1324, 1326, 1327, 1328, 1329, 1332, 1333, 1336, 1337, 1338, 1340, 1341, 1342, 1343, 1344, 1347, 1349, 1350, 1351, 1353, 1354, 1355, 1356, 1359, 1361, 1364, 1367, 1370, 1371]
abbrev lawpc (i : Nat) : Nat := lawPC.getD i 0
def lawp_0 (L : Nat) (xs : Nat → Int32) : List pS := [s_none, s_dup 2, s_none, s_ast 1 4, s_none, s_dup 6, s_none, s_ast 2 8, s_push (.inl (1)) 9, s_none, s_ast 3 11, s_push (.inl (0)) 12, s_ist 4 13, s_ild 4 14, s_ald 0 15, s_lln L 16, s_push (.inl (5)) 17, s_bin (fun x y => x - y) 18, s_if2 (fun x y => lt32 y x) (fun _ _ => inferInstance) 779 19, s_ald 0 20, s_ild 4 21, s_lld L xs 22, s_push (.inl (63)) 23, s_bin jand 24, s_sw [(0, 25), (1, 42), (2, 59), (3, 66), (4, 73), (5, 101), (6, 129), (7, 146), (8, 173), (9, 210), (10, 227), (11, 274), (12, 301), (13, 308), (14, 315), (15, 322), (16, 349), (17, 356), (18, 363), (19, 380), (20, 397), (21, 404), (22, 411), (23, 418), (24, 425), (25, 432), (26, 459), (27, 466), (28, 493), (29, 510), (30, 537), (31, 554), (32, 581), (33, 588), (34, 595), (35, 622), (36, 649), (37, 656), (38, 673), (39, 680), (40, 687), (41, 694), (42, 701), (43, 708), (44, 725), (45, 742), (46, 759)] 777, s_ald 1 26, s_ald 0 27, s_ild 4 28, s_push (.inl (1)) 29, s_bin (fun x y => x + y) 30, s_lld L xs 31, s_callV 1 11 0 1 32, s_pop 33, s_ald 2 34, s_ald 0 35, s_ild 4 36, s_push (.inl (1)) 37, s_bin (fun x y => x + y) 38, s_lld L xs 39, s_callV 1 12 175 1 40]
def lawp_1 (L : Nat) (xs : Nat → Int32) : List pS := [s_pop 41, s_goto 777, s_ald 1 43, s_ald 0 44, s_ild 4 45, s_push (.inl (1)) 46, s_bin (fun x y => x + y) 47, s_lld L xs 48, s_callV 1 11 1 1 49, s_pop 50, s_ald 2 51, s_ald 0 52, s_ild 4 53, s_push (.inl (1)) 54, s_bin (fun x y => x + y) 55, s_lld L xs 56, s_callV 1 12 176 1 57, s_pop 58, s_goto 777, s_ald 1 60, s_callV 1 11 2 0 61, s_pop 62, s_ald 2 63, s_callV 1 12 184 0 64, s_pop 65, s_goto 777, s_ald 1 67, s_callV 1 11 3 0 68, s_pop 69, s_ald 2 70, s_callV 1 12 193 0 71, s_pop 72, s_goto 777, s_ald 1 74, s_ald 0 75, s_ild 4 76, s_push (.inl (1)) 77, s_bin (fun x y => x + y) 78, s_lld L xs 79, s_ald 0 80]
def lawp_2 (L : Nat) (xs : Nat → Int32) : List pS := [s_ild 4 81, s_push (.inl (2)) 82, s_bin (fun x y => x + y) 83, s_lld L xs 84, s_ald 3 85, s_none, s_ist 5 87, s_ald 2 88, s_ald 0 89, s_ild 4 90, s_push (.inl (1)) 91, s_bin (fun x y => x + y) 92, s_lld L xs 93, s_ald 0 94, s_ild 4 95, s_push (.inl (2)) 96, s_bin (fun x y => x + y) 97, s_lld L xs 98, s_callV 1 12 199 2 99, s_ist 6 100, s_goto 777, s_ald 1 102, s_ald 0 103, s_ild 4 104, s_push (.inl (1)) 105, s_bin (fun x y => x + y) 106, s_lld L xs 107, s_ald 0 108, s_ild 4 109, s_push (.inl (2)) 110, s_bin (fun x y => x + y) 111, s_lld L xs 112, s_ald 3 113, s_none, s_ist 5 115, s_ald 2 116, s_ald 0 117, s_ild 4 118, s_push (.inl (1)) 119, s_bin (fun x y => x + y) 120]
def lawp_3 (L : Nat) (xs : Nat → Int32) : List pS := [s_lld L xs 121, s_ald 0 122, s_ild 4 123, s_push (.inl (2)) 124, s_bin (fun x y => x + y) 125, s_lld L xs 126, s_callV 1 12 201 2 127, s_ist 6 128, s_goto 777, s_ald 1 130, s_ald 0 131, s_ild 4 132, s_push (.inl (1)) 133, s_bin (fun x y => x + y) 134, s_lld L xs 135, s_callV 1 11 6 1 136, s_pop 137, s_ald 2 138, s_ald 0 139, s_ild 4 140, s_push (.inl (1)) 141, s_bin (fun x y => x + y) 142, s_lld L xs 143, s_callV 1 12 202 1 144, s_pop 145, s_goto 777, s_ald 1 147, s_ald 0 148, s_ild 4 149, s_push (.inl (1)) 150, s_bin (fun x y => x + y) 151, s_lld L xs 152, s_ald 0 153, s_ild 4 154, s_push (.inl (2)) 155, s_bin (fun x y => x + y) 156, s_lld L xs 157, s_callV 1 11 7 2 158, s_pop 159, s_ald 2 160]
def lawp_4 (L : Nat) (xs : Nat → Int32) : List pS := [s_ald 0 161, s_ild 4 162, s_push (.inl (1)) 163, s_bin (fun x y => x + y) 164, s_lld L xs 165, s_ald 0 166, s_ild 4 167, s_push (.inl (2)) 168, s_bin (fun x y => x + y) 169, s_lld L xs 170, s_callV 1 12 203 2 171, s_pop 172, s_goto 777, s_ald 1 174, s_ald 0 175, s_ild 4 176, s_push (.inl (1)) 177, s_bin (fun x y => x + y) 178, s_lld L xs 179, s_ald 0 180, s_ild 4 181, s_push (.inl (2)) 182, s_bin (fun x y => x + y) 183, s_lld L xs 184, s_ald 0 185, s_ild 4 186, s_push (.inl (3)) 187, s_bin (fun x y => x + y) 188, s_lld L xs 189, s_callV 1 11 8 3 190, s_pop 191, s_ald 2 192, s_ald 0 193, s_ild 4 194, s_push (.inl (1)) 195, s_bin (fun x y => x + y) 196, s_lld L xs 197, s_ald 0 198, s_ild 4 199, s_push (.inl (2)) 200]
def lawp_5 (L : Nat) (xs : Nat → Int32) : List pS := [s_bin (fun x y => x + y) 201, s_lld L xs 202, s_ald 0 203, s_ild 4 204, s_push (.inl (3)) 205, s_bin (fun x y => x + y) 206, s_lld L xs 207, s_callV 1 12 204 3 208, s_pop 209, s_goto 777, s_ald 1 211, s_ald 0 212, s_ild 4 213, s_push (.inl (1)) 214, s_bin (fun x y => x + y) 215, s_lld L xs 216, s_callV 1 11 9 1 217, s_pop 218, s_ald 2 219, s_ald 0 220, s_ild 4 221, s_push (.inl (1)) 222, s_bin (fun x y => x + y) 223, s_lld L xs 224, s_callV 1 12 205 1 225, s_pop 226, s_goto 777, s_ald 1 228, s_ald 0 229, s_ild 4 230, s_push (.inl (1)) 231, s_bin (fun x y => x + y) 232, s_lld L xs 233, s_ald 0 234, s_ild 4 235, s_push (.inl (2)) 236, s_bin (fun x y => x + y) 237, s_lld L xs 238, s_ald 0 239, s_ild 4 240]
def lawp_6 (L : Nat) (xs : Nat → Int32) : List pS := [s_push (.inl (3)) 241, s_bin (fun x y => x + y) 242, s_lld L xs 243, s_ald 0 244, s_ild 4 245, s_push (.inl (4)) 246, s_bin (fun x y => x + y) 247, s_lld L xs 248, s_callV 1 11 10 4 249, s_pop 250, s_ald 2 251, s_ald 0 252, s_ild 4 253, s_push (.inl (1)) 254, s_bin (fun x y => x + y) 255, s_lld L xs 256, s_ald 0 257, s_ild 4 258, s_push (.inl (2)) 259, s_bin (fun x y => x + y) 260, s_lld L xs 261, s_ald 0 262, s_ild 4 263, s_push (.inl (3)) 264, s_bin (fun x y => x + y) 265, s_lld L xs 266, s_ald 0 267, s_ild 4 268, s_push (.inl (4)) 269, s_bin (fun x y => x + y) 270, s_lld L xs 271, s_callV 1 12 206 4 272, s_pop 273, s_goto 777, s_ald 1 275, s_ald 0 276, s_ild 4 277, s_push (.inl (1)) 278, s_bin (fun x y => x + y) 279, s_lld L xs 280]
def lawp_7 (L : Nat) (xs : Nat → Int32) : List pS := [s_ald 0 281, s_ild 4 282, s_push (.inl (2)) 283, s_bin (fun x y => x + y) 284, s_lld L xs 285, s_callV 1 11 11 2 286, s_pop 287, s_ald 2 288, s_ald 0 289, s_ild 4 290, s_push (.inl (1)) 291, s_bin (fun x y => x + y) 292, s_lld L xs 293, s_ald 0 294, s_ild 4 295, s_push (.inl (2)) 296, s_bin (fun x y => x + y) 297, s_lld L xs 298, s_callV 1 12 216 2 299, s_pop 300, s_goto 777, s_ald 1 302, s_callV 1 11 12 0 303, s_pop 304, s_ald 2 305, s_callV 1 12 218 0 306, s_pop 307, s_goto 777, s_ald 1 309, s_callV 1 11 13 0 310, s_pop 311, s_ald 2 312, s_callV 1 12 219 0 313, s_pop 314, s_goto 777, s_ald 1 316, s_callV 1 11 14 0 317, s_pop 318, s_ald 2 319, s_callV 1 12 220 0 320]
def lawp_8 (L : Nat) (xs : Nat → Int32) : List pS := [s_pop 321, s_goto 777, s_ald 1 323, s_ald 0 324, s_ild 4 325, s_push (.inl (1)) 326, s_bin (fun x y => x + y) 327, s_lld L xs 328, s_ald 0 329, s_ild 4 330, s_push (.inl (2)) 331, s_bin (fun x y => x + y) 332, s_lld L xs 333, s_callV 1 11 15 2 334, s_pop 335, s_ald 2 336, s_ald 0 337, s_ild 4 338, s_push (.inl (1)) 339, s_bin (fun x y => x + y) 340, s_lld L xs 341, s_ald 0 342, s_ild 4 343, s_push (.inl (2)) 344, s_bin (fun x y => x + y) 345, s_lld L xs 346, s_callV 1 12 221 2 347, s_pop 348, s_goto 777, s_ald 1 350, s_callV 1 11 16 0 351, s_pop 352, s_ald 2 353, s_callV 1 12 222 0 354, s_pop 355, s_goto 777, s_ald 1 357, s_callV 1 11 17 0 358, s_pop 359, s_ald 2 360]
def lawp_9 (L : Nat) (xs : Nat → Int32) : List pS := [s_callV 1 12 224 0 361, s_pop 362, s_goto 777, s_ald 1 364, s_ald 0 365, s_ild 4 366, s_push (.inl (1)) 367, s_bin (fun x y => x + y) 368, s_lld L xs 369, s_callV 1 11 18 1 370, s_pop 371, s_ald 2 372, s_ald 0 373, s_ild 4 374, s_push (.inl (1)) 375, s_bin (fun x y => x + y) 376, s_lld L xs 377, s_callV 1 12 225 1 378, s_pop 379, s_goto 777, s_ald 1 381, s_ald 0 382, s_ild 4 383, s_push (.inl (1)) 384, s_bin (fun x y => x + y) 385, s_lld L xs 386, s_callV 1 11 19 1 387, s_pop 388, s_ald 2 389, s_ald 0 390, s_ild 4 391, s_push (.inl (1)) 392, s_bin (fun x y => x + y) 393, s_lld L xs 394, s_callV 1 12 226 1 395, s_pop 396, s_goto 777, s_ald 1 398, s_callV 1 11 20 0 399, s_pop 400]
def lawp_10 (L : Nat) (xs : Nat → Int32) : List pS := [s_ald 2 401, s_callV 1 12 227 0 402, s_pop 403, s_goto 777, s_ald 1 405, s_callV 1 11 21 0 406, s_pop 407, s_ald 2 408, s_callV 1 12 234 0 409, s_pop 410, s_goto 777, s_ald 1 412, s_callV 1 11 22 0 413, s_pop 414, s_ald 2 415, s_callV 1 12 235 0 416, s_pop 417, s_goto 777, s_ald 1 419, s_callV 1 11 23 0 420, s_pop 421, s_ald 2 422, s_callV 1 12 236 0 423, s_pop 424, s_goto 777, s_ald 1 426, s_callV 1 11 24 0 427, s_pop 428, s_ald 2 429, s_callV 1 12 238 0 430, s_pop 431, s_goto 777, s_ald 1 433, s_ald 0 434, s_ild 4 435, s_push (.inl (1)) 436, s_bin (fun x y => x + y) 437, s_lld L xs 438, s_ald 0 439, s_ild 4 440]
def lawp_11 (L : Nat) (xs : Nat → Int32) : List pS := [s_push (.inl (2)) 441, s_bin (fun x y => x + y) 442, s_lld L xs 443, s_callV 1 11 25 2 444, s_pop 445, s_ald 2 446, s_ald 0 447, s_ild 4 448, s_push (.inl (1)) 449, s_bin (fun x y => x + y) 450, s_lld L xs 451, s_ald 0 452, s_ild 4 453, s_push (.inl (2)) 454, s_bin (fun x y => x + y) 455, s_lld L xs 456, s_callV 1 12 239 2 457, s_pop 458, s_goto 777, s_ald 1 460, s_callV 1 11 26 0 461, s_pop 462, s_ald 2 463, s_callV 1 12 240 0 464, s_pop 465, s_goto 777, s_ald 1 467, s_ald 0 468, s_ild 4 469, s_push (.inl (1)) 470, s_bin (fun x y => x + y) 471, s_lld L xs 472, s_ald 0 473, s_ild 4 474, s_push (.inl (2)) 475, s_bin (fun x y => x + y) 476, s_lld L xs 477, s_callV 1 11 27 2 478, s_pop 479, s_ald 2 480]
def lawp_12 (L : Nat) (xs : Nat → Int32) : List pS := [s_ald 0 481, s_ild 4 482, s_push (.inl (1)) 483, s_bin (fun x y => x + y) 484, s_lld L xs 485, s_ald 0 486, s_ild 4 487, s_push (.inl (2)) 488, s_bin (fun x y => x + y) 489, s_lld L xs 490, s_callV 1 12 241 2 491, s_pop 492, s_goto 777, s_ald 1 494, s_ald 0 495, s_ild 4 496, s_push (.inl (1)) 497, s_bin (fun x y => x + y) 498, s_lld L xs 499, s_callV 1 11 28 1 500, s_pop 501, s_ald 2 502, s_ald 0 503, s_ild 4 504, s_push (.inl (1)) 505, s_bin (fun x y => x + y) 506, s_lld L xs 507, s_callV 1 12 242 1 508, s_pop 509, s_goto 777, s_ald 1 511, s_ald 0 512, s_ild 4 513, s_push (.inl (1)) 514, s_bin (fun x y => x + y) 515, s_lld L xs 516, s_ald 0 517, s_ild 4 518, s_push (.inl (2)) 519, s_bin (fun x y => x + y) 520]
def lawp_13 (L : Nat) (xs : Nat → Int32) : List pS := [s_lld L xs 521, s_callV 1 11 29 2 522, s_pop 523, s_ald 2 524, s_ald 0 525, s_ild 4 526, s_push (.inl (1)) 527, s_bin (fun x y => x + y) 528, s_lld L xs 529, s_ald 0 530, s_ild 4 531, s_push (.inl (2)) 532, s_bin (fun x y => x + y) 533, s_lld L xs 534, s_callV 1 12 243 2 535, s_pop 536, s_goto 777, s_ald 1 538, s_ald 0 539, s_ild 4 540, s_push (.inl (1)) 541, s_bin (fun x y => x + y) 542, s_lld L xs 543, s_callV 1 11 30 1 544, s_pop 545, s_ald 2 546, s_ald 0 547, s_ild 4 548, s_push (.inl (1)) 549, s_bin (fun x y => x + y) 550, s_lld L xs 551, s_callV 1 12 244 1 552, s_pop 553, s_goto 777, s_ald 1 555, s_ald 0 556, s_ild 4 557, s_push (.inl (1)) 558, s_bin (fun x y => x + y) 559, s_lld L xs 560]
def lawp_14 (L : Nat) (xs : Nat → Int32) : List pS := [s_ald 0 561, s_ild 4 562, s_push (.inl (2)) 563, s_bin (fun x y => x + y) 564, s_lld L xs 565, s_callV 1 11 31 2 566, s_pop 567, s_ald 2 568, s_ald 0 569, s_ild 4 570, s_push (.inl (1)) 571, s_bin (fun x y => x + y) 572, s_lld L xs 573, s_ald 0 574, s_ild 4 575, s_push (.inl (2)) 576, s_bin (fun x y => x + y) 577, s_lld L xs 578, s_callV 1 12 245 2 579, s_pop 580, s_goto 777, s_ald 1 582, s_callV 1 11 32 0 583, s_pop 584, s_ald 2 585, s_callV 1 12 246 0 586, s_pop 587, s_goto 777, s_ald 1 589, s_callV 1 11 33 0 590, s_pop 591, s_ald 2 592, s_callV 1 12 248 0 593, s_pop 594, s_goto 777, s_ald 1 596, s_ald 0 597, s_ild 4 598, s_push (.inl (1)) 599, s_bin (fun x y => x + y) 600]
def lawp_15 (L : Nat) (xs : Nat → Int32) : List pS := [s_lld L xs 601, s_ald 0 602, s_ild 4 603, s_push (.inl (2)) 604, s_bin (fun x y => x + y) 605, s_lld L xs 606, s_callV 1 11 34 2 607, s_pop 608, s_ald 2 609, s_ald 0 610, s_ild 4 611, s_push (.inl (1)) 612, s_bin (fun x y => x + y) 613, s_lld L xs 614, s_ald 0 615, s_ild 4 616, s_push (.inl (2)) 617, s_bin (fun x y => x + y) 618, s_lld L xs 619, s_callV 1 12 250 2 620, s_pop 621, s_goto 777, s_ald 1 623, s_ald 0 624, s_ild 4 625, s_push (.inl (1)) 626, s_bin (fun x y => x + y) 627, s_lld L xs 628, s_ald 0 629, s_ild 4 630, s_push (.inl (2)) 631, s_bin (fun x y => x + y) 632, s_lld L xs 633, s_callV 1 11 35 2 634, s_pop 635, s_ald 2 636, s_ald 0 637, s_ild 4 638, s_push (.inl (1)) 639, s_bin (fun x y => x + y) 640]
def lawp_16 (L : Nat) (xs : Nat → Int32) : List pS := [s_lld L xs 641, s_ald 0 642, s_ild 4 643, s_push (.inl (2)) 644, s_bin (fun x y => x + y) 645, s_lld L xs 646, s_callV 1 12 251 2 647, s_pop 648, s_goto 777, s_ald 1 650, s_callV 1 11 36 0 651, s_pop 652, s_ald 2 653, s_callV 1 12 252 0 654, s_pop 655, s_goto 777, s_ald 1 657, s_ald 0 658, s_ild 4 659, s_push (.inl (1)) 660, s_bin (fun x y => x + y) 661, s_lld L xs 662, s_callV 1 11 37 1 663, s_pop 664, s_ald 2 665, s_ald 0 666, s_ild 4 667, s_push (.inl (1)) 668, s_bin (fun x y => x + y) 669, s_lld L xs 670, s_callV 1 12 254 1 671, s_pop 672, s_goto 777, s_ald 1 674, s_callV 1 11 38 0 675, s_pop 676, s_ald 2 677, s_callV 1 12 255 0 678, s_pop 679, s_goto 777]
def lawp_17 (L : Nat) (xs : Nat → Int32) : List pS := [s_ald 1 681, s_callV 1 11 39 0 682, s_pop 683, s_ald 2 684, s_callV 1 12 257 0 685, s_pop 686, s_goto 777, s_ald 1 688, s_callV 1 11 40 0 689, s_pop 690, s_ald 2 691, s_callV 1 12 259 0 692, s_pop 693, s_goto 777, s_ald 1 695, s_callV 1 11 41 0 696, s_pop 697, s_ald 2 698, s_callV 1 12 263 0 699, s_pop 700, s_goto 777, s_ald 1 702, s_callV 1 11 42 0 703, s_pop 704, s_ald 2 705, s_callV 1 12 264 0 706, s_pop 707, s_goto 777, s_ald 1 709, s_ald 0 710, s_ild 4 711, s_push (.inl (1)) 712, s_bin (fun x y => x + y) 713, s_lld L xs 714, s_callV 1 11 43 1 715, s_pop 716, s_ald 2 717, s_ald 0 718, s_ild 4 719, s_push (.inl (1)) 720]
def lawp_18 (L : Nat) (xs : Nat → Int32) : List pS := [s_bin (fun x y => x + y) 721, s_lld L xs 722, s_callV 1 12 266 1 723, s_pop 724, s_goto 777, s_ald 1 726, s_ald 0 727, s_ild 4 728, s_push (.inl (1)) 729, s_bin (fun x y => x + y) 730, s_lld L xs 731, s_callV 1 11 44 1 732, s_ald 2 733, s_ald 0 734, s_ild 4 735, s_push (.inl (1)) 736, s_bin (fun x y => x + y) 737, s_lld L xs 738, s_callV 1 12 267 1 739, s_if2 (fun x y => eq32 x y) (fun _ _ => inferInstance) 777 740, s_push (.inl (0)) 741, s_zret, s_ald 1 743, s_ald 0 744, s_ild 4 745, s_push (.inl (1)) 746, s_bin (fun x y => x + y) 747, s_lld L xs 748, s_callV 1 11 45 1 749, s_pop 750, s_ald 2 751, s_ald 0 752, s_ild 4 753, s_push (.inl (1)) 754, s_bin (fun x y => x + y) 755, s_lld L xs 756, s_callV 1 12 268 1 757, s_pop 758, s_goto 777, s_ald 1 760]
def lawp_19 (L : Nat) (xs : Nat → Int32) : List pS := [s_ald 0 761, s_ild 4 762, s_push (.inl (1)) 763, s_bin (fun x y => x + y) 764, s_lld L xs 765, s_ald 3 766, s_none, s_ist 5 768, s_ald 2 769, s_ald 0 770, s_ild 4 771, s_push (.inl (1)) 772, s_bin (fun x y => x + y) 773, s_lld L xs 774, s_callV 1 12 269 1 775, s_ist 6 776, s_goto 777, s_inc 4 (5) 778, s_goto 13, s_push (.inl (1)) 780, s_zret]
def lawRA (L : Nat) (xs : Nat → Int32) : Lean.RArray (Nat → pS) := .branch 400 (.branch 200 (.branch 80 (.branch 40 (.leaf (fun i => (lawp_0 L xs).getD (Nat.sub i 0) s_none)) (.leaf (fun i => (lawp_1 L xs).getD (Nat.sub i 40) s_none))) (.branch 120 (.leaf (fun i => (lawp_2 L xs).getD (Nat.sub i 80) s_none)) (.branch 160 (.leaf (fun i => (lawp_3 L xs).getD (Nat.sub i 120) s_none)) (.leaf (fun i => (lawp_4 L xs).getD (Nat.sub i 160) s_none))))) (.branch 280 (.branch 240 (.leaf (fun i => (lawp_5 L xs).getD (Nat.sub i 200) s_none)) (.leaf (fun i => (lawp_6 L xs).getD (Nat.sub i 240) s_none))) (.branch 320 (.leaf (fun i => (lawp_7 L xs).getD (Nat.sub i 280) s_none)) (.branch 360 (.leaf (fun i => (lawp_8 L xs).getD (Nat.sub i 320) s_none)) (.leaf (fun i => (lawp_9 L xs).getD (Nat.sub i 360) s_none)))))) (.branch 600 (.branch 480 (.branch 440 (.leaf (fun i => (lawp_10 L xs).getD (Nat.sub i 400) s_none)) (.leaf (fun i => (lawp_11 L xs).getD (Nat.sub i 440) s_none))) (.branch 520 (.leaf (fun i => (lawp_12 L xs).getD (Nat.sub i 480) s_none)) (.branch 560 (.leaf (fun i => (lawp_13 L xs).getD (Nat.sub i 520) s_none)) (.leaf (fun i => (lawp_14 L xs).getD (Nat.sub i 560) s_none))))) (.branch 680 (.branch 640 (.leaf (fun i => (lawp_15 L xs).getD (Nat.sub i 600) s_none)) (.leaf (fun i => (lawp_16 L xs).getD (Nat.sub i 640) s_none))) (.branch 720 (.leaf (fun i => (lawp_17 L xs).getD (Nat.sub i 680) s_none)) (.branch 760 (.leaf (fun i => (lawp_18 L xs).getD (Nat.sub i 720) s_none)) (.leaf (fun i => (lawp_19 L xs).getD (Nat.sub i 760) s_none))))))
def lawc (L : Nat) (xs : Nat → Int32) (i : Nat) : pS := (lawRA L xs).get i i
def pAllL (L : Nat) (xs : Nat → Int32) : Nat → List pS → Prop := pAll fun i f => pSndL L xs pyn pwk RL code 7 ret lawpc (lawpc i) f
def zcallV_RL : List (Nat × Nat × Nat × Nat × Nat) := [(1, 11, 0, 1, 26), (1, 11, 1, 1, 30), (1, 11, 2, 0, 35), (1, 11, 3, 0, 40), (1, 11, 6, 1, 53), (1, 11, 7, 2, 57), (1, 11, 8, 3, 61), (1, 11, 9, 1, 66), (1, 11, 10, 4, 70), (1, 11, 11, 2, 75), (1, 11, 12, 0, 79), (1, 11, 13, 0, 83), (1, 11, 14, 0, 87), (1, 11, 15, 2, 91), (1, 11, 16, 0, 95), (1, 11, 17, 0, 99), (1, 11, 18, 1, 103), (1, 11, 19, 1, 107), (1, 11, 20, 0, 111), (1, 11, 21, 0, 115), (1, 11, 22, 0, 119), (1, 11, 23, 0, 123), (1, 11, 24, 0, 127), (1, 11, 25, 2, 131), (1, 11, 26, 0, 135), (1, 11, 27, 2, 139), (1, 11, 28, 1, 143), (1, 11, 29, 2, 147), (1, 11, 30, 1, 151), (1, 11, 31, 2, 155), (1, 11, 32, 0, 159), (1, 11, 33, 0, 163), (1, 11, 34, 2, 167), (1, 11, 35, 2, 171), (1, 11, 36, 0, 175), (1, 11, 37, 1, 179), (1, 11, 38, 0, 183), (1, 11, 39, 0, 187), (1, 11, 40, 0, 191), (1, 11, 41, 0, 195), (1, 11, 42, 0, 199), (1, 11, 43, 1, 203), (1, 11, 44, 1, 207), (1, 11, 45, 1, 211), (1, 12, 175, 1, 29), (1, 12, 176, 1, 34), (1, 12, 184, 0, 39), (1, 12, 193, 0, 43), (1, 12, 199, 2, 49), (1, 12, 201, 2, 52), (1, 12, 202, 1, 56), (1, 12, 203, 2, 60), (1, 12, 204, 3, 65), (1, 12, 205, 1, 69), (1, 12, 206, 4, 74), (1, 12, 216, 2, 78), (1, 12, 218, 0, 82), (1, 12, 219, 0, 86), (1, 12, 220, 0, 90), (1, 12, 221, 2, 94), (1, 12, 222, 0, 98), (1, 12, 224, 0, 102), (1, 12, 225, 1, 106), (1, 12, 226, 1, 110), (1, 12, 227, 0, 114), (1, 12, 234, 0, 118), (1, 12, 235, 0, 122), (1, 12, 236, 0, 126), (1, 12, 238, 0, 130), (1, 12, 239, 2, 134), (1, 12, 240, 0, 138), (1, 12, 241, 2, 142), (1, 12, 242, 1, 146), (1, 12, 243, 2, 150), (1, 12, 244, 1, 154), (1, 12, 245, 2, 158), (1, 12, 246, 0, 162), (1, 12, 248, 0, 166), (1, 12, 250, 2, 170), (1, 12, 251, 2, 174), (1, 12, 252, 0, 178), (1, 12, 254, 1, 182), (1, 12, 255, 0, 186), (1, 12, 257, 0, 190), (1, 12, 259, 0, 194), (1, 12, 263, 0, 198), (1, 12, 264, 0, 202), (1, 12, 266, 1, 206), (1, 12, 267, 1, 210), (1, 12, 268, 1, 214), (1, 12, 269, 1, 218)]
set_option maxRecDepth 100000 in
theorem zcallV_RL_0 : zCallV RL (1, 11, 0, 1, 26) := fun hd hn => sn_callV (idx := 26) (C := RX11) (T := TX11) (N := 18) rfl (by decide) cal_0 (pmt2 175 rfl (by decide +kernel)) (pmt2 176 rfl (by decide +kernel)) (pmt2 177 rfl (by decide +kernel)) hd hn
set_option maxRecDepth 100000 in
theorem zcallV_RL_1 : zCallV RL (1, 11, 1, 1, 30) := fun hd hn => sn_callV (idx := 30) (C := RX11) (T := TX11) (N := 18) rfl (by decide) cal_1 (pmt2 183 rfl (by decide +kernel)) (pmt2 184 rfl (by decide +kernel)) (pmt2 185 rfl (by decide +kernel)) hd hn
set_option maxRecDepth 100000 in
theorem zcallV_RL_2 : zCallV RL (1, 11, 2, 0, 35) := fun hd hn => sn_callV (idx := 35) (C := RX11) (T := TX11) (N := 18) rfl (by decide) cal_2 (pmt2 191 rfl (by decide +kernel)) (pmt2 192 rfl (by decide +kernel)) (pmt2 193 rfl (by decide +kernel)) hd hn
set_option maxRecDepth 100000 in
theorem zcallV_RL_3 : zCallV RL (1, 11, 3, 0, 40) := fun hd hn => sn_callV (idx := 40) (C := RX11) (T := TX11) (N := 18) rfl (by decide) cal_3 (pmt3 84 rfl (by decide +kernel)) (pmt3 85 rfl (by decide +kernel)) (pmt3 86 rfl (by decide +kernel)) hd hn
set_option maxRecDepth 100000 in
theorem zcallV_RL_4 : zCallV RL (1, 11, 6, 1, 53) := fun hd hn => sn_callV (idx := 53) (C := RX11) (T := TX11) (N := 18) rfl (by decide) cal_6 (pmt3 219 rfl (by decide +kernel)) (pmt3 220 rfl (by decide +kernel)) (pmt3 221 rfl (by decide +kernel)) hd hn
set_option maxRecDepth 100000 in
theorem zcallV_RL_5 : zCallV RL (1, 11, 7, 2, 57) := fun hd hn => sn_callV (idx := 57) (C := RX11) (T := TX11) (N := 18) rfl (by decide) cal_7 (pmt3 223 rfl (by decide +kernel)) (pmt3 224 rfl (by decide +kernel)) (pmt3 225 rfl (by decide +kernel)) hd hn
set_option maxRecDepth 100000 in
theorem zcallV_RL_6 : zCallV RL (1, 11, 8, 3, 61) := fun hd hn => sn_callV (idx := 61) (C := RX11) (T := TX11) (N := 18) rfl (by decide) cal_8 (pmt3 232 rfl (by decide +kernel)) (pmt3 233 rfl (by decide +kernel)) (pmt3 234 rfl (by decide +kernel)) hd hn
set_option maxRecDepth 100000 in
theorem zcallV_RL_7 : zCallV RL (1, 11, 9, 1, 66) := fun hd hn => sn_callV (idx := 66) (C := RX11) (T := TX11) (N := 18) rfl (by decide) cal_9 (pmt3 237 rfl (by decide +kernel)) (pmt3 238 rfl (by decide +kernel)) (pmt3 239 rfl (by decide +kernel)) hd hn
set_option maxRecDepth 100000 in
theorem zcallV_RL_8 : zCallV RL (1, 11, 10, 4, 70) := fun hd hn => sn_callV (idx := 70) (C := RX11) (T := TX11) (N := 18) rfl (by decide) cal_10 (pmt4 1 rfl (by decide +kernel)) (pmt4 2 rfl (by decide +kernel)) (pmt4 3 rfl (by decide +kernel)) hd hn
set_option maxRecDepth 100000 in
theorem zcallV_RL_9 : zCallV RL (1, 11, 11, 2, 75) := fun hd hn => sn_callV (idx := 75) (C := RX11) (T := TX11) (N := 18) rfl (by decide) cal_11 (pmt4 11 rfl (by decide +kernel)) (pmt4 12 rfl (by decide +kernel)) (pmt4 13 rfl (by decide +kernel)) hd hn
set_option maxRecDepth 100000 in
theorem zcallV_RL_10 : zCallV RL (1, 11, 12, 0, 79) := fun hd hn => sn_callV (idx := 79) (C := RX11) (T := TX11) (N := 18) rfl (by decide) cal_12 (pmt4 52 rfl (by decide +kernel)) (pmt4 53 rfl (by decide +kernel)) (pmt4 54 rfl (by decide +kernel)) hd hn
set_option maxRecDepth 100000 in
theorem zcallV_RL_11 : zCallV RL (1, 11, 13, 0, 83) := fun hd hn => sn_callV (idx := 83) (C := RX11) (T := TX11) (N := 18) rfl (by decide) cal_13 (pmt4 93 rfl (by decide +kernel)) (pmt4 94 rfl (by decide +kernel)) (pmt4 95 rfl (by decide +kernel)) hd hn
set_option maxRecDepth 100000 in
theorem zcallV_RL_12 : zCallV RL (1, 11, 14, 0, 87) := fun hd hn => sn_callV (idx := 87) (C := RX11) (T := TX11) (N := 18) rfl (by decide) cal_14 (pmt4 123 rfl (by decide +kernel)) (pmt4 124 rfl (by decide +kernel)) (pmt4 125 rfl (by decide +kernel)) hd hn
set_option maxRecDepth 100000 in
theorem zcallV_RL_13 : zCallV RL (1, 11, 15, 2, 91) := fun hd hn => sn_callV (idx := 91) (C := RX11) (T := TX11) (N := 18) rfl (by decide) cal_15 (pmt4 127 rfl (by decide +kernel)) (pmt4 128 rfl (by decide +kernel)) (pmt4 129 rfl (by decide +kernel)) hd hn
set_option maxRecDepth 100000 in
theorem zcallV_RL_14 : zCallV RL (1, 11, 16, 0, 95) := fun hd hn => sn_callV (idx := 95) (C := RX11) (T := TX11) (N := 18) rfl (by decide) cal_16 (pmt4 132 rfl (by decide +kernel)) (pmt4 133 rfl (by decide +kernel)) (pmt4 134 rfl (by decide +kernel)) hd hn
set_option maxRecDepth 100000 in
theorem zcallV_RL_15 : zCallV RL (1, 11, 17, 0, 99) := fun hd hn => sn_callV (idx := 99) (C := RX11) (T := TX11) (N := 18) rfl (by decide) cal_17 (pmt4 136 rfl (by decide +kernel)) (pmt4 137 rfl (by decide +kernel)) (pmt4 138 rfl (by decide +kernel)) hd hn
set_option maxRecDepth 100000 in
theorem zcallV_RL_16 : zCallV RL (1, 11, 18, 1, 103) := fun hd hn => sn_callV (idx := 103) (C := RX11) (T := TX11) (N := 18) rfl (by decide) cal_18 (pmt4 148 rfl (by decide +kernel)) (pmt4 149 rfl (by decide +kernel)) (pmt4 150 rfl (by decide +kernel)) hd hn
set_option maxRecDepth 100000 in
theorem zcallV_RL_17 : zCallV RL (1, 11, 19, 1, 107) := fun hd hn => sn_callV (idx := 107) (C := RX11) (T := TX11) (N := 18) rfl (by decide) cal_19 (pmt4 162 rfl (by decide +kernel)) (pmt4 163 rfl (by decide +kernel)) (pmt4 164 rfl (by decide +kernel)) hd hn
set_option maxRecDepth 100000 in
theorem zcallV_RL_18 : zCallV RL (1, 11, 20, 0, 111) := fun hd hn => sn_callV (idx := 111) (C := RX11) (T := TX11) (N := 18) rfl (by decide) cal_20 (pmt4 170 rfl (by decide +kernel)) (pmt4 171 rfl (by decide +kernel)) (pmt4 172 rfl (by decide +kernel)) hd hn
set_option maxRecDepth 100000 in
theorem zcallV_RL_19 : zCallV RL (1, 11, 21, 0, 115) := fun hd hn => sn_callV (idx := 115) (C := RX11) (T := TX11) (N := 18) rfl (by decide) cal_21 (pmt4 174 rfl (by decide +kernel)) (pmt4 175 rfl (by decide +kernel)) (pmt4 176 rfl (by decide +kernel)) hd hn
set_option maxRecDepth 100000 in
theorem zcallV_RL_20 : zCallV RL (1, 11, 22, 0, 119) := fun hd hn => sn_callV (idx := 119) (C := RX11) (T := TX11) (N := 18) rfl (by decide) cal_22 (pmt4 221 rfl (by decide +kernel)) (pmt4 222 rfl (by decide +kernel)) (pmt4 223 rfl (by decide +kernel)) hd hn
set_option maxRecDepth 100000 in
theorem zcallV_RL_21 : zCallV RL (1, 11, 23, 0, 123) := fun hd hn => sn_callV (idx := 123) (C := RX11) (T := TX11) (N := 18) rfl (by decide) cal_23 (pmt5 8 rfl (by decide +kernel)) (pmt5 9 rfl (by decide +kernel)) (pmt5 10 rfl (by decide +kernel)) hd hn
set_option maxRecDepth 100000 in
theorem zcallV_RL_22 : zCallV RL (1, 11, 24, 0, 127) := fun hd hn => sn_callV (idx := 127) (C := RX11) (T := TX11) (N := 18) rfl (by decide) cal_24 (pmt5 16 rfl (by decide +kernel)) (pmt5 17 rfl (by decide +kernel)) (pmt5 18 rfl (by decide +kernel)) hd hn
set_option maxRecDepth 100000 in
theorem zcallV_RL_23 : zCallV RL (1, 11, 25, 2, 131) := fun hd hn => sn_callV (idx := 131) (C := RX11) (T := TX11) (N := 18) rfl (by decide) cal_25 (pmt5 29 rfl (by decide +kernel)) (pmt5 30 rfl (by decide +kernel)) (pmt5 31 rfl (by decide +kernel)) hd hn
set_option maxRecDepth 100000 in
theorem zcallV_RL_24 : zCallV RL (1, 11, 26, 0, 135) := fun hd hn => sn_callV (idx := 135) (C := RX11) (T := TX11) (N := 18) rfl (by decide) cal_26 (pmt5 33 rfl (by decide +kernel)) (pmt5 34 rfl (by decide +kernel)) (pmt5 35 rfl (by decide +kernel)) hd hn
set_option maxRecDepth 100000 in
theorem zcallV_RL_25 : zCallV RL (1, 11, 27, 2, 139) := fun hd hn => sn_callV (idx := 139) (C := RX11) (T := TX11) (N := 18) rfl (by decide) cal_27 (pmt5 41 rfl (by decide +kernel)) (pmt5 42 rfl (by decide +kernel)) (pmt5 43 rfl (by decide +kernel)) hd hn
set_option maxRecDepth 100000 in
theorem zcallV_RL_26 : zCallV RL (1, 11, 28, 1, 143) := fun hd hn => sn_callV (idx := 143) (C := RX11) (T := TX11) (N := 18) rfl (by decide) cal_28 (pmt5 56 rfl (by decide +kernel)) (pmt5 57 rfl (by decide +kernel)) (pmt5 58 rfl (by decide +kernel)) hd hn
set_option maxRecDepth 100000 in
theorem zcallV_RL_27 : zCallV RL (1, 11, 29, 2, 147) := fun hd hn => sn_callV (idx := 147) (C := RX11) (T := TX11) (N := 18) rfl (by decide) cal_29 (pmt5 69 rfl (by decide +kernel)) (pmt5 70 rfl (by decide +kernel)) (pmt5 71 rfl (by decide +kernel)) hd hn
set_option maxRecDepth 100000 in
theorem zcallV_RL_28 : zCallV RL (1, 11, 30, 1, 151) := fun hd hn => sn_callV (idx := 151) (C := RX11) (T := TX11) (N := 18) rfl (by decide) cal_30 (pmt5 73 rfl (by decide +kernel)) (pmt5 74 rfl (by decide +kernel)) (pmt5 75 rfl (by decide +kernel)) hd hn
set_option maxRecDepth 100000 in
theorem zcallV_RL_29 : zCallV RL (1, 11, 31, 2, 155) := fun hd hn => sn_callV (idx := 155) (C := RX11) (T := TX11) (N := 18) rfl (by decide) cal_31 (pmt5 77 rfl (by decide +kernel)) (pmt5 78 rfl (by decide +kernel)) (pmt5 79 rfl (by decide +kernel)) hd hn
set_option maxRecDepth 100000 in
theorem zcallV_RL_30 : zCallV RL (1, 11, 32, 0, 159) := fun hd hn => sn_callV (idx := 159) (C := RX11) (T := TX11) (N := 18) rfl (by decide) cal_32 (pmt5 86 rfl (by decide +kernel)) (pmt5 87 rfl (by decide +kernel)) (pmt5 88 rfl (by decide +kernel)) hd hn
set_option maxRecDepth 100000 in
theorem zcallV_RL_31 : zCallV RL (1, 11, 33, 0, 163) := fun hd hn => sn_callV (idx := 163) (C := RX11) (T := TX11) (N := 18) rfl (by decide) cal_33 (pmt5 96 rfl (by decide +kernel)) (pmt5 97 rfl (by decide +kernel)) (pmt5 98 rfl (by decide +kernel)) hd hn
set_option maxRecDepth 100000 in
theorem zcallV_RL_32 : zCallV RL (1, 11, 34, 2, 167) := fun hd hn => sn_callV (idx := 167) (C := RX11) (T := TX11) (N := 18) rfl (by decide) cal_34 (pmt5 100 rfl (by decide +kernel)) (pmt5 101 rfl (by decide +kernel)) (pmt5 102 rfl (by decide +kernel)) hd hn
set_option maxRecDepth 100000 in
theorem zcallV_RL_33 : zCallV RL (1, 11, 35, 2, 171) := fun hd hn => sn_callV (idx := 171) (C := RX11) (T := TX11) (N := 18) rfl (by decide) cal_35 (pmt5 109 rfl (by decide +kernel)) (pmt5 110 rfl (by decide +kernel)) (pmt5 111 rfl (by decide +kernel)) hd hn
set_option maxRecDepth 100000 in
theorem zcallV_RL_34 : zCallV RL (1, 11, 36, 0, 175) := fun hd hn => sn_callV (idx := 175) (C := RX11) (T := TX11) (N := 18) rfl (by decide) cal_36 (pmt5 113 rfl (by decide +kernel)) (pmt5 114 rfl (by decide +kernel)) (pmt5 115 rfl (by decide +kernel)) hd hn
set_option maxRecDepth 100000 in
theorem zcallV_RL_35 : zCallV RL (1, 11, 37, 1, 179) := fun hd hn => sn_callV (idx := 179) (C := RX11) (T := TX11) (N := 18) rfl (by decide) cal_37 (pmt5 125 rfl (by decide +kernel)) (pmt5 126 rfl (by decide +kernel)) (pmt5 127 rfl (by decide +kernel)) hd hn
set_option maxRecDepth 100000 in
theorem zcallV_RL_36 : zCallV RL (1, 11, 38, 0, 183) := fun hd hn => sn_callV (idx := 183) (C := RX11) (T := TX11) (N := 18) rfl (by decide) cal_38 (pmt5 134 rfl (by decide +kernel)) (pmt5 135 rfl (by decide +kernel)) (pmt5 136 rfl (by decide +kernel)) hd hn
set_option maxRecDepth 100000 in
theorem zcallV_RL_37 : zCallV RL (1, 11, 39, 0, 187) := fun hd hn => sn_callV (idx := 187) (C := RX11) (T := TX11) (N := 18) rfl (by decide) cal_39 (pmt5 142 rfl (by decide +kernel)) (pmt5 143 rfl (by decide +kernel)) (pmt5 144 rfl (by decide +kernel)) hd hn
set_option maxRecDepth 100000 in
theorem zcallV_RL_38 : zCallV RL (1, 11, 40, 0, 191) := fun hd hn => sn_callV (idx := 191) (C := RX11) (T := TX11) (N := 18) rfl (by decide) cal_40 (pmt5 150 rfl (by decide +kernel)) (pmt5 151 rfl (by decide +kernel)) (pmt5 152 rfl (by decide +kernel)) hd hn
set_option maxRecDepth 100000 in
theorem zcallV_RL_39 : zCallV RL (1, 11, 41, 0, 195) := fun hd hn => sn_callV (idx := 195) (C := RX11) (T := TX11) (N := 18) rfl (by decide) cal_41 (pmt5 172 rfl (by decide +kernel)) (pmt5 173 rfl (by decide +kernel)) (pmt5 174 rfl (by decide +kernel)) hd hn
set_option maxRecDepth 100000 in
theorem zcallV_RL_40 : zCallV RL (1, 11, 42, 0, 199) := fun hd hn => sn_callV (idx := 199) (C := RX11) (T := TX11) (N := 18) rfl (by decide) cal_42 (pmt5 237 rfl (by decide +kernel)) (pmt5 238 rfl (by decide +kernel)) (pmt5 239 rfl (by decide +kernel)) hd hn
set_option maxRecDepth 100000 in
theorem zcallV_RL_41 : zCallV RL (1, 11, 43, 1, 203) := fun hd hn => sn_callV (idx := 203) (C := RX11) (T := TX11) (N := 18) rfl (by decide) cal_43 (pmt6 10 rfl (by decide +kernel)) (pmt6 11 rfl (by decide +kernel)) (pmt6 12 rfl (by decide +kernel)) hd hn
set_option maxRecDepth 100000 in
theorem zcallV_RL_42 : zCallV RL (1, 11, 44, 1, 207) := fun hd hn => sn_callV (idx := 207) (C := RX11) (T := TX11) (N := 18) rfl (by decide) cal_44 (pmt6 23 rfl (by decide +kernel)) (pmt6 24 rfl (by decide +kernel)) (pmt6 25 rfl (by decide +kernel)) hd hn
set_option maxRecDepth 100000 in
theorem zcallV_RL_43 : zCallV RL (1, 11, 45, 1, 211) := fun hd hn => sn_callV (idx := 211) (C := RX11) (T := TX11) (N := 18) rfl (by decide) cal_45 (pmt6 31 rfl (by decide +kernel)) (pmt6 32 rfl (by decide +kernel)) (pmt6 33 rfl (by decide +kernel)) hd hn
set_option maxRecDepth 100000 in
theorem zcallV_RL_44 : zCallV RL (1, 12, 175, 1, 29) := fun hd hn => sn_callV (idx := 29) (C := RX12) (T := TX12) (N := 56) rfl (by decide) cal_175 (pmt7 69 rfl (by decide +kernel)) (pmt7 70 rfl (by decide +kernel)) (pmt7 71 rfl (by decide +kernel)) hd hn
set_option maxRecDepth 100000 in
theorem zcallV_RL_45 : zCallV RL (1, 12, 176, 1, 34) := fun hd hn => sn_callV (idx := 34) (C := RX12) (T := TX12) (N := 56) rfl (by decide) cal_176 (pmt7 73 rfl (by decide +kernel)) (pmt7 74 rfl (by decide +kernel)) (pmt7 75 rfl (by decide +kernel)) hd hn
set_option maxRecDepth 100000 in
theorem zcallV_RL_46 : zCallV RL (1, 12, 184, 0, 39) := fun hd hn => sn_callV (idx := 39) (C := RX12) (T := TX12) (N := 56) rfl (by decide) cal_184 (pmt7 80 rfl (by decide +kernel)) (pmt7 81 rfl (by decide +kernel)) (pmt7 82 rfl (by decide +kernel)) hd hn
set_option maxRecDepth 100000 in
theorem zcallV_RL_47 : zCallV RL (1, 12, 193, 0, 43) := fun hd hn => sn_callV (idx := 43) (C := RX12) (T := TX12) (N := 56) rfl (by decide) cal_193 (pmt7 124 rfl (by decide +kernel)) (pmt7 125 rfl (by decide +kernel)) (pmt7 126 rfl (by decide +kernel)) hd hn
set_option maxRecDepth 100000 in
theorem zcallV_RL_48 : zCallV RL (1, 12, 199, 2, 49) := fun hd hn => sn_callV (idx := 49) (C := RX12) (T := TX12) (N := 56) rfl (by decide) cal_199 (pmt7 160 rfl (by decide +kernel)) (pmt7 161 rfl (by decide +kernel)) (pmt7 162 rfl (by decide +kernel)) hd hn
set_option maxRecDepth 100000 in
theorem zcallV_RL_49 : zCallV RL (1, 12, 201, 2, 52) := fun hd hn => sn_callV (idx := 52) (C := RX12) (T := TX12) (N := 56) rfl (by decide) cal_201 (pmt7 176 rfl (by decide +kernel)) (pmt7 177 rfl (by decide +kernel)) (pmt7 178 rfl (by decide +kernel)) hd hn
set_option maxRecDepth 100000 in
theorem zcallV_RL_50 : zCallV RL (1, 12, 202, 1, 56) := fun hd hn => sn_callV (idx := 56) (C := RX12) (T := TX12) (N := 56) rfl (by decide) cal_202 (pmt7 194 rfl (by decide +kernel)) (pmt7 195 rfl (by decide +kernel)) (pmt7 196 rfl (by decide +kernel)) hd hn
set_option maxRecDepth 100000 in
theorem zcallV_RL_51 : zCallV RL (1, 12, 203, 2, 60) := fun hd hn => sn_callV (idx := 60) (C := RX12) (T := TX12) (N := 56) rfl (by decide) cal_203 (pmt7 198 rfl (by decide +kernel)) (pmt7 199 rfl (by decide +kernel)) (pmt7 200 rfl (by decide +kernel)) hd hn
set_option maxRecDepth 100000 in
theorem zcallV_RL_52 : zCallV RL (1, 12, 204, 3, 65) := fun hd hn => sn_callV (idx := 65) (C := RX12) (T := TX12) (N := 56) rfl (by decide) cal_204 (pmt7 202 rfl (by decide +kernel)) (pmt7 203 rfl (by decide +kernel)) (pmt7 204 rfl (by decide +kernel)) hd hn
set_option maxRecDepth 100000 in
theorem zcallV_RL_53 : zCallV RL (1, 12, 205, 1, 69) := fun hd hn => sn_callV (idx := 69) (C := RX12) (T := TX12) (N := 56) rfl (by decide) cal_205 (pmt7 206 rfl (by decide +kernel)) (pmt7 207 rfl (by decide +kernel)) (pmt7 208 rfl (by decide +kernel)) hd hn
set_option maxRecDepth 100000 in
theorem zcallV_RL_54 : zCallV RL (1, 12, 206, 4, 74) := fun hd hn => sn_callV (idx := 74) (C := RX12) (T := TX12) (N := 56) rfl (by decide) cal_206 (pmt7 210 rfl (by decide +kernel)) (pmt7 211 rfl (by decide +kernel)) (pmt7 212 rfl (by decide +kernel)) hd hn
set_option maxRecDepth 100000 in
theorem zcallV_RL_55 : zCallV RL (1, 12, 216, 2, 78) := fun hd hn => sn_callV (idx := 78) (C := RX12) (T := TX12) (N := 56) rfl (by decide) cal_216 (pmt7 214 rfl (by decide +kernel)) (pmt7 215 rfl (by decide +kernel)) (pmt7 216 rfl (by decide +kernel)) hd hn
set_option maxRecDepth 100000 in
theorem zcallV_RL_56 : zCallV RL (1, 12, 218, 0, 82) := fun hd hn => sn_callV (idx := 82) (C := RX12) (T := TX12) (N := 56) rfl (by decide) cal_218 (pmt7 239 rfl (by decide +kernel)) (pmt8 0 rfl (by decide +kernel)) (pmt8 1 rfl (by decide +kernel)) hd hn
set_option maxRecDepth 100000 in
theorem zcallV_RL_57 : zCallV RL (1, 12, 219, 0, 86) := fun hd hn => sn_callV (idx := 86) (C := RX12) (T := TX12) (N := 56) rfl (by decide) cal_219 (pmt8 24 rfl (by decide +kernel)) (pmt8 25 rfl (by decide +kernel)) (pmt8 26 rfl (by decide +kernel)) hd hn
set_option maxRecDepth 100000 in
theorem zcallV_RL_58 : zCallV RL (1, 12, 220, 0, 90) := fun hd hn => sn_callV (idx := 90) (C := RX12) (T := TX12) (N := 56) rfl (by decide) cal_220 (pmt8 28 rfl (by decide +kernel)) (pmt8 29 rfl (by decide +kernel)) (pmt8 30 rfl (by decide +kernel)) hd hn
set_option maxRecDepth 100000 in
theorem zcallV_RL_59 : zCallV RL (1, 12, 221, 2, 94) := fun hd hn => sn_callV (idx := 94) (C := RX12) (T := TX12) (N := 56) rfl (by decide) cal_221 (pmt8 32 rfl (by decide +kernel)) (pmt8 33 rfl (by decide +kernel)) (pmt8 34 rfl (by decide +kernel)) hd hn
set_option maxRecDepth 100000 in
theorem zcallV_RL_60 : zCallV RL (1, 12, 222, 0, 98) := fun hd hn => sn_callV (idx := 98) (C := RX12) (T := TX12) (N := 56) rfl (by decide) cal_222 (pmt8 36 rfl (by decide +kernel)) (pmt8 37 rfl (by decide +kernel)) (pmt8 38 rfl (by decide +kernel)) hd hn
set_option maxRecDepth 100000 in
theorem zcallV_RL_61 : zCallV RL (1, 12, 224, 0, 102) := fun hd hn => sn_callV (idx := 102) (C := RX12) (T := TX12) (N := 56) rfl (by decide) cal_224 (pmt8 40 rfl (by decide +kernel)) (pmt8 41 rfl (by decide +kernel)) (pmt8 42 rfl (by decide +kernel)) hd hn
set_option maxRecDepth 100000 in
theorem zcallV_RL_62 : zCallV RL (1, 12, 225, 1, 106) := fun hd hn => sn_callV (idx := 106) (C := RX12) (T := TX12) (N := 56) rfl (by decide) cal_225 (pmt8 48 rfl (by decide +kernel)) (pmt8 49 rfl (by decide +kernel)) (pmt8 50 rfl (by decide +kernel)) hd hn
set_option maxRecDepth 100000 in
theorem zcallV_RL_63 : zCallV RL (1, 12, 226, 1, 110) := fun hd hn => sn_callV (idx := 110) (C := RX12) (T := TX12) (N := 56) rfl (by decide) cal_226 (pmt8 52 rfl (by decide +kernel)) (pmt8 53 rfl (by decide +kernel)) (pmt8 54 rfl (by decide +kernel)) hd hn
set_option maxRecDepth 100000 in
theorem zcallV_RL_64 : zCallV RL (1, 12, 227, 0, 114) := fun hd hn => sn_callV (idx := 114) (C := RX12) (T := TX12) (N := 56) rfl (by decide) cal_227 (pmt8 56 rfl (by decide +kernel)) (pmt8 57 rfl (by decide +kernel)) (pmt8 58 rfl (by decide +kernel)) hd hn
set_option maxRecDepth 100000 in
theorem zcallV_RL_65 : zCallV RL (1, 12, 234, 0, 118) := fun hd hn => sn_callV (idx := 118) (C := RX12) (T := TX12) (N := 56) rfl (by decide) cal_234 (pmt8 60 rfl (by decide +kernel)) (pmt8 61 rfl (by decide +kernel)) (pmt8 62 rfl (by decide +kernel)) hd hn
set_option maxRecDepth 100000 in
theorem zcallV_RL_66 : zCallV RL (1, 12, 235, 0, 122) := fun hd hn => sn_callV (idx := 122) (C := RX12) (T := TX12) (N := 56) rfl (by decide) cal_235 (pmt8 88 rfl (by decide +kernel)) (pmt8 89 rfl (by decide +kernel)) (pmt8 90 rfl (by decide +kernel)) hd hn
set_option maxRecDepth 100000 in
theorem zcallV_RL_67 : zCallV RL (1, 12, 236, 0, 126) := fun hd hn => sn_callV (idx := 126) (C := RX12) (T := TX12) (N := 56) rfl (by decide) cal_236 (pmt8 96 rfl (by decide +kernel)) (pmt8 97 rfl (by decide +kernel)) (pmt8 98 rfl (by decide +kernel)) hd hn
set_option maxRecDepth 100000 in
theorem zcallV_RL_68 : zCallV RL (1, 12, 238, 0, 130) := fun hd hn => sn_callV (idx := 130) (C := RX12) (T := TX12) (N := 56) rfl (by decide) cal_238 (pmt8 100 rfl (by decide +kernel)) (pmt8 101 rfl (by decide +kernel)) (pmt8 102 rfl (by decide +kernel)) hd hn
set_option maxRecDepth 100000 in
theorem zcallV_RL_69 : zCallV RL (1, 12, 239, 2, 134) := fun hd hn => sn_callV (idx := 134) (C := RX12) (T := TX12) (N := 56) rfl (by decide) cal_239 (pmt8 112 rfl (by decide +kernel)) (pmt8 113 rfl (by decide +kernel)) (pmt8 114 rfl (by decide +kernel)) hd hn
set_option maxRecDepth 100000 in
theorem zcallV_RL_70 : zCallV RL (1, 12, 240, 0, 138) := fun hd hn => sn_callV (idx := 138) (C := RX12) (T := TX12) (N := 56) rfl (by decide) cal_240 (pmt8 116 rfl (by decide +kernel)) (pmt8 117 rfl (by decide +kernel)) (pmt8 118 rfl (by decide +kernel)) hd hn
set_option maxRecDepth 100000 in
theorem zcallV_RL_71 : zCallV RL (1, 12, 241, 2, 142) := fun hd hn => sn_callV (idx := 142) (C := RX12) (T := TX12) (N := 56) rfl (by decide) cal_241 (pmt8 120 rfl (by decide +kernel)) (pmt8 121 rfl (by decide +kernel)) (pmt8 122 rfl (by decide +kernel)) hd hn
set_option maxRecDepth 100000 in
theorem zcallV_RL_72 : zCallV RL (1, 12, 242, 1, 146) := fun hd hn => sn_callV (idx := 146) (C := RX12) (T := TX12) (N := 56) rfl (by decide) cal_242 (pmt8 124 rfl (by decide +kernel)) (pmt8 125 rfl (by decide +kernel)) (pmt8 126 rfl (by decide +kernel)) hd hn
set_option maxRecDepth 100000 in
theorem zcallV_RL_73 : zCallV RL (1, 12, 243, 2, 150) := fun hd hn => sn_callV (idx := 150) (C := RX12) (T := TX12) (N := 56) rfl (by decide) cal_243 (pmt8 128 rfl (by decide +kernel)) (pmt8 129 rfl (by decide +kernel)) (pmt8 130 rfl (by decide +kernel)) hd hn
set_option maxRecDepth 100000 in
theorem zcallV_RL_74 : zCallV RL (1, 12, 244, 1, 154) := fun hd hn => sn_callV (idx := 154) (C := RX12) (T := TX12) (N := 56) rfl (by decide) cal_244 (pmt8 132 rfl (by decide +kernel)) (pmt8 133 rfl (by decide +kernel)) (pmt8 134 rfl (by decide +kernel)) hd hn
set_option maxRecDepth 100000 in
theorem zcallV_RL_75 : zCallV RL (1, 12, 245, 2, 158) := fun hd hn => sn_callV (idx := 158) (C := RX12) (T := TX12) (N := 56) rfl (by decide) cal_245 (pmt8 136 rfl (by decide +kernel)) (pmt8 137 rfl (by decide +kernel)) (pmt8 138 rfl (by decide +kernel)) hd hn
set_option maxRecDepth 100000 in
theorem zcallV_RL_76 : zCallV RL (1, 12, 246, 0, 162) := fun hd hn => sn_callV (idx := 162) (C := RX12) (T := TX12) (N := 56) rfl (by decide) cal_246 (pmt8 140 rfl (by decide +kernel)) (pmt8 141 rfl (by decide +kernel)) (pmt8 142 rfl (by decide +kernel)) hd hn
set_option maxRecDepth 100000 in
theorem zcallV_RL_77 : zCallV RL (1, 12, 248, 0, 166) := fun hd hn => sn_callV (idx := 166) (C := RX12) (T := TX12) (N := 56) rfl (by decide) cal_248 (pmt8 148 rfl (by decide +kernel)) (pmt8 149 rfl (by decide +kernel)) (pmt8 150 rfl (by decide +kernel)) hd hn
set_option maxRecDepth 100000 in
theorem zcallV_RL_78 : zCallV RL (1, 12, 250, 2, 170) := fun hd hn => sn_callV (idx := 170) (C := RX12) (T := TX12) (N := 56) rfl (by decide) cal_250 (pmt8 156 rfl (by decide +kernel)) (pmt8 157 rfl (by decide +kernel)) (pmt8 158 rfl (by decide +kernel)) hd hn
set_option maxRecDepth 100000 in
theorem zcallV_RL_79 : zCallV RL (1, 12, 251, 2, 174) := fun hd hn => sn_callV (idx := 174) (C := RX12) (T := TX12) (N := 56) rfl (by decide) cal_251 (pmt8 160 rfl (by decide +kernel)) (pmt8 161 rfl (by decide +kernel)) (pmt8 162 rfl (by decide +kernel)) hd hn
set_option maxRecDepth 100000 in
theorem zcallV_RL_80 : zCallV RL (1, 12, 252, 0, 178) := fun hd hn => sn_callV (idx := 178) (C := RX12) (T := TX12) (N := 56) rfl (by decide) cal_252 (pmt8 164 rfl (by decide +kernel)) (pmt8 165 rfl (by decide +kernel)) (pmt8 166 rfl (by decide +kernel)) hd hn
set_option maxRecDepth 100000 in
theorem zcallV_RL_81 : zCallV RL (1, 12, 254, 1, 182) := fun hd hn => sn_callV (idx := 182) (C := RX12) (T := TX12) (N := 56) rfl (by decide) cal_254 (pmt8 168 rfl (by decide +kernel)) (pmt8 169 rfl (by decide +kernel)) (pmt8 170 rfl (by decide +kernel)) hd hn
set_option maxRecDepth 100000 in
theorem zcallV_RL_82 : zCallV RL (1, 12, 255, 0, 186) := fun hd hn => sn_callV (idx := 186) (C := RX12) (T := TX12) (N := 56) rfl (by decide) cal_255 (pmt8 176 rfl (by decide +kernel)) (pmt8 177 rfl (by decide +kernel)) (pmt8 178 rfl (by decide +kernel)) hd hn
set_option maxRecDepth 100000 in
theorem zcallV_RL_83 : zCallV RL (1, 12, 257, 0, 190) := fun hd hn => sn_callV (idx := 190) (C := RX12) (T := TX12) (N := 56) rfl (by decide) cal_257 (pmt8 180 rfl (by decide +kernel)) (pmt8 181 rfl (by decide +kernel)) (pmt8 182 rfl (by decide +kernel)) hd hn
set_option maxRecDepth 100000 in
theorem zcallV_RL_84 : zCallV RL (1, 12, 259, 0, 194) := fun hd hn => sn_callV (idx := 194) (C := RX12) (T := TX12) (N := 56) rfl (by decide) cal_259 (pmt8 188 rfl (by decide +kernel)) (pmt8 189 rfl (by decide +kernel)) (pmt8 190 rfl (by decide +kernel)) hd hn
set_option maxRecDepth 100000 in
theorem zcallV_RL_85 : zCallV RL (1, 12, 263, 0, 198) := fun hd hn => sn_callV (idx := 198) (C := RX12) (T := TX12) (N := 56) rfl (by decide) cal_263 (pmt8 196 rfl (by decide +kernel)) (pmt8 197 rfl (by decide +kernel)) (pmt8 198 rfl (by decide +kernel)) hd hn
set_option maxRecDepth 100000 in
theorem zcallV_RL_86 : zCallV RL (1, 12, 264, 0, 202) := fun hd hn => sn_callV (idx := 202) (C := RX12) (T := TX12) (N := 56) rfl (by decide) cal_264 (pmt8 212 rfl (by decide +kernel)) (pmt8 213 rfl (by decide +kernel)) (pmt8 214 rfl (by decide +kernel)) hd hn
set_option maxRecDepth 100000 in
theorem zcallV_RL_87 : zCallV RL (1, 12, 266, 1, 206) := fun hd hn => sn_callV (idx := 206) (C := RX12) (T := TX12) (N := 56) rfl (by decide) cal_266 (pmt8 220 rfl (by decide +kernel)) (pmt8 221 rfl (by decide +kernel)) (pmt8 222 rfl (by decide +kernel)) hd hn
set_option maxRecDepth 100000 in
theorem zcallV_RL_88 : zCallV RL (1, 12, 267, 1, 210) := fun hd hn => sn_callV (idx := 210) (C := RX12) (T := TX12) (N := 56) rfl (by decide) cal_267 (pmt8 224 rfl (by decide +kernel)) (pmt8 225 rfl (by decide +kernel)) (pmt8 226 rfl (by decide +kernel)) hd hn
set_option maxRecDepth 100000 in
theorem zcallV_RL_89 : zCallV RL (1, 12, 268, 1, 214) := fun hd hn => sn_callV (idx := 214) (C := RX12) (T := TX12) (N := 56) rfl (by decide) cal_268 (pmt8 228 rfl (by decide +kernel)) (pmt8 229 rfl (by decide +kernel)) (pmt8 230 rfl (by decide +kernel)) hd hn
set_option maxRecDepth 100000 in
theorem zcallV_RL_90 : zCallV RL (1, 12, 269, 1, 218) := fun hd hn => sn_callV (idx := 218) (C := RX12) (T := TX12) (N := 56) rfl (by decide) cal_269 (pmt8 232 rfl (by decide +kernel)) (pmt8 233 rfl (by decide +kernel)) (pmt8 234 rfl (by decide +kernel)) hd hn
theorem zcallV_RL_ok : ∀ q ∈ zcallV_RL, zCallV RL q := List.forall_mem_cons.mpr ⟨zcallV_RL_0, List.forall_mem_cons.mpr ⟨zcallV_RL_1, List.forall_mem_cons.mpr ⟨zcallV_RL_2, List.forall_mem_cons.mpr ⟨zcallV_RL_3, List.forall_mem_cons.mpr ⟨zcallV_RL_4, List.forall_mem_cons.mpr ⟨zcallV_RL_5, List.forall_mem_cons.mpr ⟨zcallV_RL_6, List.forall_mem_cons.mpr ⟨zcallV_RL_7, List.forall_mem_cons.mpr ⟨zcallV_RL_8, List.forall_mem_cons.mpr ⟨zcallV_RL_9, List.forall_mem_cons.mpr ⟨zcallV_RL_10, List.forall_mem_cons.mpr ⟨zcallV_RL_11, List.forall_mem_cons.mpr ⟨zcallV_RL_12, List.forall_mem_cons.mpr ⟨zcallV_RL_13, List.forall_mem_cons.mpr ⟨zcallV_RL_14, List.forall_mem_cons.mpr ⟨zcallV_RL_15, List.forall_mem_cons.mpr ⟨zcallV_RL_16, List.forall_mem_cons.mpr ⟨zcallV_RL_17, List.forall_mem_cons.mpr ⟨zcallV_RL_18, List.forall_mem_cons.mpr ⟨zcallV_RL_19, List.forall_mem_cons.mpr ⟨zcallV_RL_20, List.forall_mem_cons.mpr ⟨zcallV_RL_21, List.forall_mem_cons.mpr ⟨zcallV_RL_22, List.forall_mem_cons.mpr ⟨zcallV_RL_23, List.forall_mem_cons.mpr ⟨zcallV_RL_24, List.forall_mem_cons.mpr ⟨zcallV_RL_25, List.forall_mem_cons.mpr ⟨zcallV_RL_26, List.forall_mem_cons.mpr ⟨zcallV_RL_27, List.forall_mem_cons.mpr ⟨zcallV_RL_28, List.forall_mem_cons.mpr ⟨zcallV_RL_29, List.forall_mem_cons.mpr ⟨zcallV_RL_30, List.forall_mem_cons.mpr ⟨zcallV_RL_31, List.forall_mem_cons.mpr ⟨zcallV_RL_32, List.forall_mem_cons.mpr ⟨zcallV_RL_33, List.forall_mem_cons.mpr ⟨zcallV_RL_34, List.forall_mem_cons.mpr ⟨zcallV_RL_35, List.forall_mem_cons.mpr ⟨zcallV_RL_36, List.forall_mem_cons.mpr ⟨zcallV_RL_37, List.forall_mem_cons.mpr ⟨zcallV_RL_38, List.forall_mem_cons.mpr ⟨zcallV_RL_39, List.forall_mem_cons.mpr ⟨zcallV_RL_40, List.forall_mem_cons.mpr ⟨zcallV_RL_41, List.forall_mem_cons.mpr ⟨zcallV_RL_42, List.forall_mem_cons.mpr ⟨zcallV_RL_43, List.forall_mem_cons.mpr ⟨zcallV_RL_44, List.forall_mem_cons.mpr ⟨zcallV_RL_45, List.forall_mem_cons.mpr ⟨zcallV_RL_46, List.forall_mem_cons.mpr ⟨zcallV_RL_47, List.forall_mem_cons.mpr ⟨zcallV_RL_48, List.forall_mem_cons.mpr ⟨zcallV_RL_49, List.forall_mem_cons.mpr ⟨zcallV_RL_50, List.forall_mem_cons.mpr ⟨zcallV_RL_51, List.forall_mem_cons.mpr ⟨zcallV_RL_52, List.forall_mem_cons.mpr ⟨zcallV_RL_53, List.forall_mem_cons.mpr ⟨zcallV_RL_54, List.forall_mem_cons.mpr ⟨zcallV_RL_55, List.forall_mem_cons.mpr ⟨zcallV_RL_56, List.forall_mem_cons.mpr ⟨zcallV_RL_57, List.forall_mem_cons.mpr ⟨zcallV_RL_58, List.forall_mem_cons.mpr ⟨zcallV_RL_59, List.forall_mem_cons.mpr ⟨zcallV_RL_60, List.forall_mem_cons.mpr ⟨zcallV_RL_61, List.forall_mem_cons.mpr ⟨zcallV_RL_62, List.forall_mem_cons.mpr ⟨zcallV_RL_63, List.forall_mem_cons.mpr ⟨zcallV_RL_64, List.forall_mem_cons.mpr ⟨zcallV_RL_65, List.forall_mem_cons.mpr ⟨zcallV_RL_66, List.forall_mem_cons.mpr ⟨zcallV_RL_67, List.forall_mem_cons.mpr ⟨zcallV_RL_68, List.forall_mem_cons.mpr ⟨zcallV_RL_69, List.forall_mem_cons.mpr ⟨zcallV_RL_70, List.forall_mem_cons.mpr ⟨zcallV_RL_71, List.forall_mem_cons.mpr ⟨zcallV_RL_72, List.forall_mem_cons.mpr ⟨zcallV_RL_73, List.forall_mem_cons.mpr ⟨zcallV_RL_74, List.forall_mem_cons.mpr ⟨zcallV_RL_75, List.forall_mem_cons.mpr ⟨zcallV_RL_76, List.forall_mem_cons.mpr ⟨zcallV_RL_77, List.forall_mem_cons.mpr ⟨zcallV_RL_78, List.forall_mem_cons.mpr ⟨zcallV_RL_79, List.forall_mem_cons.mpr ⟨zcallV_RL_80, List.forall_mem_cons.mpr ⟨zcallV_RL_81, List.forall_mem_cons.mpr ⟨zcallV_RL_82, List.forall_mem_cons.mpr ⟨zcallV_RL_83, List.forall_mem_cons.mpr ⟨zcallV_RL_84, List.forall_mem_cons.mpr ⟨zcallV_RL_85, List.forall_mem_cons.mpr ⟨zcallV_RL_86, List.forall_mem_cons.mpr ⟨zcallV_RL_87, List.forall_mem_cons.mpr ⟨zcallV_RL_88, List.forall_mem_cons.mpr ⟨zcallV_RL_89, List.forall_mem_cons.mpr ⟨zcallV_RL_90, fun _ h => absurd h List.not_mem_nil⟩⟩⟩⟩⟩⟩⟩⟩⟩⟩⟩⟩⟩⟩⟩⟩⟩⟩⟩⟩⟩⟩⟩⟩⟩⟩⟩⟩⟩⟩⟩⟩⟩⟩⟩⟩⟩⟩⟩⟩⟩⟩⟩⟩⟩⟩⟩⟩⟩⟩⟩⟩⟩⟩⟩⟩⟩⟩⟩⟩⟩⟩⟩⟩⟩⟩⟩⟩⟩⟩⟩⟩⟩⟩⟩⟩⟩⟩⟩⟩⟩⟩⟩⟩⟩⟩⟩⟩⟩⟩⟩
def zasmO : List (Option zI) → List pS → List pS
  | [], _ => []
  | some x :: l, F => x.1.1 :: zasmO l F
  | none :: l, f :: F => f :: zasmO l F
  | none :: _, [] => []
def zckO : Nat → Nat → List UInt8 → List Nat → List (Option zI) → Bool
  | _, _, _, _, [] => true
  | i, p, b, rs, some x :: l => x.1.2 [] [] zcallV_RL 7 ret lawPC i p (rs.headD 0) b && ((l.isEmpty || Nat.ble p (rs.headD 0)) && zckO (i + 1) (rs.headD 0) (b.drop (rs.headD 0 - p)) rs.tail l)
  | i, p, b, rs, none :: l => (l.isEmpty || Nat.ble p (rs.headD 0)) && zckO (i + 1) (rs.headD 0) (b.drop (rs.headD 0 - p)) rs.tail l
def zNonO (P : Nat → pS → Prop) : Nat → List (Option zI) → List pS → Prop
  | _, [], _ => True
  | i, some _ :: l, F => zNonO P (i + 1) l F
  | i, none :: l, f :: F => P i f ∧ zNonO P (i + 1) l F
  | _, none :: _, [] => True
theorem zallL_ (L : Nat) (xs : Nat → Int32) (D : List (Option zI)) : ∀ (i p : Nat) (b : List UInt8) (rs : List Nat) (F : List pS), p = lawPC.getD i 0 → b = code.data.toList.drop p → rs = lawPC.drop (i + 1) → zckO i p b rs D = true → zNonO (fun i f => pSndL L xs pyn pwk RL code 7 ret lawpc (lawpc i) f) i D F → pAllL L xs i (zasmO D F) := by
  induction D with
  | nil => intro i p b rs F _ _ _ _ _; exact trivial
  | cons e l ih =>
    intro i p b rs F hp hb hr h hn
    have eq : rs.headD 0 = lawPC.getD (i + 1) 0 := by rw [hr]; exact z_head lawPC (i + 1)
    have et : rs.tail = lawPC.drop (i + 1 + 1) := by rw [hr]; exact z_tail lawPC (i + 1)
    subst hp
    subst hb
    cases e with
    | some x =>
      have h : (x.1.2 [] [] zcallV_RL 7 ret lawPC i (lawPC.getD i 0) (rs.headD 0) (code.data.toList.drop (lawPC.getD i 0)) && ((l.isEmpty || Nat.ble (lawPC.getD i 0) (rs.headD 0)) && zckO (i + 1) (rs.headD 0) ((code.data.toList.drop (lawPC.getD i 0)).drop (rs.headD 0 - lawPC.getD i 0)) rs.tail l)) = true := h
      obtain ⟨h1, h⟩ := zand h
      obtain ⟨h2, h3⟩ := zand h
      rw [eq] at h1
      refine ⟨slw (x.2 RL [] [] zcallV_RL code 7 ret lawPC i (lawPC.getD i 0) (fun _ h => absurd h List.not_mem_nil) (fun _ h => absurd h List.not_mem_nil) zcallV_RL_ok h1), ?_⟩
      cases l with
      | nil => exact trivial
      | cons y l' => exact ih (i + 1) _ _ _ _ eq (z_drop h2) et h3 hn
    | none =>
      have h : ((l.isEmpty || Nat.ble (lawPC.getD i 0) (rs.headD 0)) && zckO (i + 1) (rs.headD 0) ((code.data.toList.drop (lawPC.getD i 0)).drop (rs.headD 0 - lawPC.getD i 0)) rs.tail l) = true := h
      obtain ⟨h2, h3⟩ := zand h
      cases F with
      | nil => exact trivial
      | cons f F' =>
        refine ⟨hn.1, ?_⟩
        cases l with
        | nil => exact trivial
        | cons y l' => exact ih (i + 1) _ _ _ _ eq (z_drop h2) et h3 hn.2
theorem zallL (L : Nat) (xs : Nat → Int32) {D : List (Option zI)} {i : Nat} {F : List pS} (h : zckO i (lawPC.getD i 0) (code.data.toList.drop (lawPC.getD i 0)) (lawPC.drop (i + 1)) D = true) (hn : zNonO (fun i f => pSndL L xs pyn pwk RL code 7 ret lawpc (lawpc i) f) i D F) : pAllL L xs i (zasmO D F) := zallL_ L xs D i _ _ _ F rfl rfl rfl h hn
def ZL_0 : List (Option zI) := [none, some (zodup 2), none, none, none, some (zodup 6), none, none, some (zic1 9), none, none, some (zic0 12), some (zist 4 13), some (zild 4 14), some (zald0 15), none, some (zic5 17), some (zosub 18), some (zicgt 779 19), some (zald0 20), some (zild 4 21), none, some (zbi (63) 23), some (zoand 24), none, some (zald1 26), some (zald0 27), some (zild 4 28), some (zic1 29), some (zoadd 30), none, some (zcallV 1 11 0 1 32 26), some (zopop 33), some (zald2 34), some (zald0 35), some (zild 4 36), some (zic1 37), some (zoadd 38), none, some (zcallV 1 12 175 1 40 29)]
set_option maxRecDepth 100000 in
set_option maxHeartbeats 4000000 in
theorem SL_0 (L : Nat) (xs : Nat → Int32) : pAllL L xs 0 (lawp_0 L xs) := zallL L xs (D := ZL_0) (F := [s_none, s_none, s_ast 1 4, s_none, s_none, s_ast 2 8, s_none, s_ast 3 11, s_lln L 16, s_lld L xs 22, s_sw [(0, 25), (1, 42), (2, 59), (3, 66), (4, 73), (5, 101), (6, 129), (7, 146), (8, 173), (9, 210), (10, 227), (11, 274), (12, 301), (13, 308), (14, 315), (15, 322), (16, 349), (17, 356), (18, 363), (19, 380), (20, 397), (21, 404), (22, 411), (23, 418), (24, 425), (25, 432), (26, 459), (27, 466), (28, 493), (29, 510), (30, 537), (31, 554), (32, 581), (33, 588), (34, 595), (35, 622), (36, 649), (37, 656), (38, 673), (39, 680), (40, 687), (41, 694), (42, 701), (43, 708), (44, 725), (45, 742), (46, 759)] 777, s_lld L xs 31, s_lld L xs 39]) (by decide +kernel)
  ⟨slw (sn_none),
   slw (sn_none),
   slw (sn_astore_n (k := 1) (dX_astore_1 (by decide +kernel)) rfl (by decide) (by decide +kernel)),
   slw (sn_none),
   slw (sn_none),
   slw (sn_astore_n (k := 2) (dX_astore_2 (by decide +kernel)) rfl (by decide) (by decide +kernel)),
   slw (sn_none),
   slw (sn_astore_n (k := 3) (dX_astore_3 (by decide +kernel)) rfl (by decide) (by decide +kernel)),
   sl_len (dX_arraylength (by decide +kernel)) (by decide +kernel),
   sl_ild (dX_iaload (by decide +kernel)) (by decide +kernel),
   slw (sn_sw (dflt := 1325) (lo := 0) (hi := 46) (offs := #[201, 226, 251, 264, 277, 317, 357, 382, 419, 468, 493, 554, 591, 604, 617, 630, 667, 680, 693, 718, 743, 756, 769, 782, 795, 808, 845, 858, 895, 920, 957, 982, 1019, 1032, 1045, 1082, 1119, 1132, 1157, 1170, 1183, 1196, 1209, 1222, 1247, 1272, 1297]) (len := 201) (by decide +kernel) (by decide) (by decide +kernel) (p_sw_all (by decide +kernel)) (by decide +kernel)),
   sl_ild (dX_iaload (by decide +kernel)) (by decide +kernel),
   sl_ild (dX_iaload (by decide +kernel)) (by decide +kernel), trivial⟩
def ZL_1 : List (Option zI) := [some (zopop 41), some (zgo 777), some (zald1 43), some (zald0 44), some (zild 4 45), some (zic1 46), some (zoadd 47), none, some (zcallV 1 11 1 1 49 30), some (zopop 50), some (zald2 51), some (zald0 52), some (zild 4 53), some (zic1 54), some (zoadd 55), none, some (zcallV 1 12 176 1 57 34), some (zopop 58), some (zgo 777), some (zald1 60), some (zcallV 1 11 2 0 61 35), some (zopop 62), some (zald2 63), some (zcallV 1 12 184 0 64 39), some (zopop 65), some (zgo 777), some (zald1 67), some (zcallV 1 11 3 0 68 40), some (zopop 69), some (zald2 70), some (zcallV 1 12 193 0 71 43), some (zopop 72), some (zgo 777), some (zald1 74), some (zald0 75), some (zild 4 76), some (zic1 77), some (zoadd 78), none, some (zald0 80)]
set_option maxRecDepth 100000 in
set_option maxHeartbeats 4000000 in
theorem SL_1 (L : Nat) (xs : Nat → Int32) : pAllL L xs 40 (lawp_1 L xs) := zallL L xs (D := ZL_1) (F := [s_lld L xs 48, s_lld L xs 56, s_lld L xs 79]) (by decide +kernel)
  ⟨sl_ild (dX_iaload (by decide +kernel)) (by decide +kernel),
   sl_ild (dX_iaload (by decide +kernel)) (by decide +kernel),
   sl_ild (dX_iaload (by decide +kernel)) (by decide +kernel), trivial⟩
def ZL_2 : List (Option zI) := [some (zild 4 81), some (zic2 82), some (zoadd 83), none, some (zald3 85), none, some (zist 5 87), some (zald2 88), some (zald0 89), some (zild 4 90), some (zic1 91), some (zoadd 92), none, some (zald0 94), some (zild 4 95), some (zic2 96), some (zoadd 97), none, some (zcallV 1 12 199 2 99 49), some (zist 6 100), some (zgo 777), some (zald1 102), some (zald0 103), some (zild 4 104), some (zic1 105), some (zoadd 106), none, some (zald0 108), some (zild 4 109), some (zic2 110), some (zoadd 111), none, some (zald3 113), none, some (zist 5 115), some (zald2 116), some (zald0 117), some (zild 4 118), some (zic1 119), some (zoadd 120)]
set_option maxRecDepth 100000 in
set_option maxHeartbeats 4000000 in
theorem SL_2 (L : Nat) (xs : Nat → Int32) : pAllL L xs 80 (lawp_2 L xs) := zallL L xs (D := ZL_2) (F := [s_lld L xs 84, s_none, s_lld L xs 93, s_lld L xs 98, s_lld L xs 107, s_lld L xs 112, s_none]) (by decide +kernel)
  ⟨sl_ild (dX_iaload (by decide +kernel)) (by decide +kernel),
   slw (sn_none),
   sl_ild (dX_iaload (by decide +kernel)) (by decide +kernel),
   sl_ild (dX_iaload (by decide +kernel)) (by decide +kernel),
   sl_ild (dX_iaload (by decide +kernel)) (by decide +kernel),
   sl_ild (dX_iaload (by decide +kernel)) (by decide +kernel),
   slw (sn_none), trivial⟩
def ZL_3 : List (Option zI) := [none, some (zald0 122), some (zild 4 123), some (zic2 124), some (zoadd 125), none, some (zcallV 1 12 201 2 127 52), some (zist 6 128), some (zgo 777), some (zald1 130), some (zald0 131), some (zild 4 132), some (zic1 133), some (zoadd 134), none, some (zcallV 1 11 6 1 136 53), some (zopop 137), some (zald2 138), some (zald0 139), some (zild 4 140), some (zic1 141), some (zoadd 142), none, some (zcallV 1 12 202 1 144 56), some (zopop 145), some (zgo 777), some (zald1 147), some (zald0 148), some (zild 4 149), some (zic1 150), some (zoadd 151), none, some (zald0 153), some (zild 4 154), some (zic2 155), some (zoadd 156), none, some (zcallV 1 11 7 2 158 57), some (zopop 159), some (zald2 160)]
set_option maxRecDepth 100000 in
set_option maxHeartbeats 4000000 in
theorem SL_3 (L : Nat) (xs : Nat → Int32) : pAllL L xs 120 (lawp_3 L xs) := zallL L xs (D := ZL_3) (F := [s_lld L xs 121, s_lld L xs 126, s_lld L xs 135, s_lld L xs 143, s_lld L xs 152, s_lld L xs 157]) (by decide +kernel)
  ⟨sl_ild (dX_iaload (by decide +kernel)) (by decide +kernel),
   sl_ild (dX_iaload (by decide +kernel)) (by decide +kernel),
   sl_ild (dX_iaload (by decide +kernel)) (by decide +kernel),
   sl_ild (dX_iaload (by decide +kernel)) (by decide +kernel),
   sl_ild (dX_iaload (by decide +kernel)) (by decide +kernel),
   sl_ild (dX_iaload (by decide +kernel)) (by decide +kernel), trivial⟩
def ZL_4 : List (Option zI) := [some (zald0 161), some (zild 4 162), some (zic1 163), some (zoadd 164), none, some (zald0 166), some (zild 4 167), some (zic2 168), some (zoadd 169), none, some (zcallV 1 12 203 2 171 60), some (zopop 172), some (zgo 777), some (zald1 174), some (zald0 175), some (zild 4 176), some (zic1 177), some (zoadd 178), none, some (zald0 180), some (zild 4 181), some (zic2 182), some (zoadd 183), none, some (zald0 185), some (zild 4 186), some (zic3 187), some (zoadd 188), none, some (zcallV 1 11 8 3 190 61), some (zopop 191), some (zald2 192), some (zald0 193), some (zild 4 194), some (zic1 195), some (zoadd 196), none, some (zald0 198), some (zild 4 199), some (zic2 200)]
set_option maxRecDepth 100000 in
set_option maxHeartbeats 4000000 in
theorem SL_4 (L : Nat) (xs : Nat → Int32) : pAllL L xs 160 (lawp_4 L xs) := zallL L xs (D := ZL_4) (F := [s_lld L xs 165, s_lld L xs 170, s_lld L xs 179, s_lld L xs 184, s_lld L xs 189, s_lld L xs 197]) (by decide +kernel)
  ⟨sl_ild (dX_iaload (by decide +kernel)) (by decide +kernel),
   sl_ild (dX_iaload (by decide +kernel)) (by decide +kernel),
   sl_ild (dX_iaload (by decide +kernel)) (by decide +kernel),
   sl_ild (dX_iaload (by decide +kernel)) (by decide +kernel),
   sl_ild (dX_iaload (by decide +kernel)) (by decide +kernel),
   sl_ild (dX_iaload (by decide +kernel)) (by decide +kernel), trivial⟩
def ZL_5 : List (Option zI) := [some (zoadd 201), none, some (zald0 203), some (zild 4 204), some (zic3 205), some (zoadd 206), none, some (zcallV 1 12 204 3 208 65), some (zopop 209), some (zgo 777), some (zald1 211), some (zald0 212), some (zild 4 213), some (zic1 214), some (zoadd 215), none, some (zcallV 1 11 9 1 217 66), some (zopop 218), some (zald2 219), some (zald0 220), some (zild 4 221), some (zic1 222), some (zoadd 223), none, some (zcallV 1 12 205 1 225 69), some (zopop 226), some (zgo 777), some (zald1 228), some (zald0 229), some (zild 4 230), some (zic1 231), some (zoadd 232), none, some (zald0 234), some (zild 4 235), some (zic2 236), some (zoadd 237), none, some (zald0 239), some (zild 4 240)]
set_option maxRecDepth 100000 in
set_option maxHeartbeats 4000000 in
theorem SL_5 (L : Nat) (xs : Nat → Int32) : pAllL L xs 200 (lawp_5 L xs) := zallL L xs (D := ZL_5) (F := [s_lld L xs 202, s_lld L xs 207, s_lld L xs 216, s_lld L xs 224, s_lld L xs 233, s_lld L xs 238]) (by decide +kernel)
  ⟨sl_ild (dX_iaload (by decide +kernel)) (by decide +kernel),
   sl_ild (dX_iaload (by decide +kernel)) (by decide +kernel),
   sl_ild (dX_iaload (by decide +kernel)) (by decide +kernel),
   sl_ild (dX_iaload (by decide +kernel)) (by decide +kernel),
   sl_ild (dX_iaload (by decide +kernel)) (by decide +kernel),
   sl_ild (dX_iaload (by decide +kernel)) (by decide +kernel), trivial⟩
def ZL_6 : List (Option zI) := [some (zic3 241), some (zoadd 242), none, some (zald0 244), some (zild 4 245), some (zic4 246), some (zoadd 247), none, some (zcallV 1 11 10 4 249 70), some (zopop 250), some (zald2 251), some (zald0 252), some (zild 4 253), some (zic1 254), some (zoadd 255), none, some (zald0 257), some (zild 4 258), some (zic2 259), some (zoadd 260), none, some (zald0 262), some (zild 4 263), some (zic3 264), some (zoadd 265), none, some (zald0 267), some (zild 4 268), some (zic4 269), some (zoadd 270), none, some (zcallV 1 12 206 4 272 74), some (zopop 273), some (zgo 777), some (zald1 275), some (zald0 276), some (zild 4 277), some (zic1 278), some (zoadd 279), none]
set_option maxRecDepth 100000 in
set_option maxHeartbeats 4000000 in
theorem SL_6 (L : Nat) (xs : Nat → Int32) : pAllL L xs 240 (lawp_6 L xs) := zallL L xs (D := ZL_6) (F := [s_lld L xs 243, s_lld L xs 248, s_lld L xs 256, s_lld L xs 261, s_lld L xs 266, s_lld L xs 271, s_lld L xs 280]) (by decide +kernel)
  ⟨sl_ild (dX_iaload (by decide +kernel)) (by decide +kernel),
   sl_ild (dX_iaload (by decide +kernel)) (by decide +kernel),
   sl_ild (dX_iaload (by decide +kernel)) (by decide +kernel),
   sl_ild (dX_iaload (by decide +kernel)) (by decide +kernel),
   sl_ild (dX_iaload (by decide +kernel)) (by decide +kernel),
   sl_ild (dX_iaload (by decide +kernel)) (by decide +kernel),
   sl_ild (dX_iaload (by decide +kernel)) (by decide +kernel), trivial⟩
def ZL_7 : List (Option zI) := [some (zald0 281), some (zild 4 282), some (zic2 283), some (zoadd 284), none, some (zcallV 1 11 11 2 286 75), some (zopop 287), some (zald2 288), some (zald0 289), some (zild 4 290), some (zic1 291), some (zoadd 292), none, some (zald0 294), some (zild 4 295), some (zic2 296), some (zoadd 297), none, some (zcallV 1 12 216 2 299 78), some (zopop 300), some (zgo 777), some (zald1 302), some (zcallV 1 11 12 0 303 79), some (zopop 304), some (zald2 305), some (zcallV 1 12 218 0 306 82), some (zopop 307), some (zgo 777), some (zald1 309), some (zcallV 1 11 13 0 310 83), some (zopop 311), some (zald2 312), some (zcallV 1 12 219 0 313 86), some (zopop 314), some (zgo 777), some (zald1 316), some (zcallV 1 11 14 0 317 87), some (zopop 318), some (zald2 319), some (zcallV 1 12 220 0 320 90)]
set_option maxRecDepth 100000 in
set_option maxHeartbeats 4000000 in
theorem SL_7 (L : Nat) (xs : Nat → Int32) : pAllL L xs 280 (lawp_7 L xs) := zallL L xs (D := ZL_7) (F := [s_lld L xs 285, s_lld L xs 293, s_lld L xs 298]) (by decide +kernel)
  ⟨sl_ild (dX_iaload (by decide +kernel)) (by decide +kernel),
   sl_ild (dX_iaload (by decide +kernel)) (by decide +kernel),
   sl_ild (dX_iaload (by decide +kernel)) (by decide +kernel), trivial⟩
def ZL_8 : List (Option zI) := [some (zopop 321), some (zgo 777), some (zald1 323), some (zald0 324), some (zild 4 325), some (zic1 326), some (zoadd 327), none, some (zald0 329), some (zild 4 330), some (zic2 331), some (zoadd 332), none, some (zcallV 1 11 15 2 334 91), some (zopop 335), some (zald2 336), some (zald0 337), some (zild 4 338), some (zic1 339), some (zoadd 340), none, some (zald0 342), some (zild 4 343), some (zic2 344), some (zoadd 345), none, some (zcallV 1 12 221 2 347 94), some (zopop 348), some (zgo 777), some (zald1 350), some (zcallV 1 11 16 0 351 95), some (zopop 352), some (zald2 353), some (zcallV 1 12 222 0 354 98), some (zopop 355), some (zgo 777), some (zald1 357), some (zcallV 1 11 17 0 358 99), some (zopop 359), some (zald2 360)]
set_option maxRecDepth 100000 in
set_option maxHeartbeats 4000000 in
theorem SL_8 (L : Nat) (xs : Nat → Int32) : pAllL L xs 320 (lawp_8 L xs) := zallL L xs (D := ZL_8) (F := [s_lld L xs 328, s_lld L xs 333, s_lld L xs 341, s_lld L xs 346]) (by decide +kernel)
  ⟨sl_ild (dX_iaload (by decide +kernel)) (by decide +kernel),
   sl_ild (dX_iaload (by decide +kernel)) (by decide +kernel),
   sl_ild (dX_iaload (by decide +kernel)) (by decide +kernel),
   sl_ild (dX_iaload (by decide +kernel)) (by decide +kernel), trivial⟩
def ZL_9 : List (Option zI) := [some (zcallV 1 12 224 0 361 102), some (zopop 362), some (zgo 777), some (zald1 364), some (zald0 365), some (zild 4 366), some (zic1 367), some (zoadd 368), none, some (zcallV 1 11 18 1 370 103), some (zopop 371), some (zald2 372), some (zald0 373), some (zild 4 374), some (zic1 375), some (zoadd 376), none, some (zcallV 1 12 225 1 378 106), some (zopop 379), some (zgo 777), some (zald1 381), some (zald0 382), some (zild 4 383), some (zic1 384), some (zoadd 385), none, some (zcallV 1 11 19 1 387 107), some (zopop 388), some (zald2 389), some (zald0 390), some (zild 4 391), some (zic1 392), some (zoadd 393), none, some (zcallV 1 12 226 1 395 110), some (zopop 396), some (zgo 777), some (zald1 398), some (zcallV 1 11 20 0 399 111), some (zopop 400)]
set_option maxRecDepth 100000 in
set_option maxHeartbeats 4000000 in
theorem SL_9 (L : Nat) (xs : Nat → Int32) : pAllL L xs 360 (lawp_9 L xs) := zallL L xs (D := ZL_9) (F := [s_lld L xs 369, s_lld L xs 377, s_lld L xs 386, s_lld L xs 394]) (by decide +kernel)
  ⟨sl_ild (dX_iaload (by decide +kernel)) (by decide +kernel),
   sl_ild (dX_iaload (by decide +kernel)) (by decide +kernel),
   sl_ild (dX_iaload (by decide +kernel)) (by decide +kernel),
   sl_ild (dX_iaload (by decide +kernel)) (by decide +kernel), trivial⟩
def ZL_10 : List (Option zI) := [some (zald2 401), some (zcallV 1 12 227 0 402 114), some (zopop 403), some (zgo 777), some (zald1 405), some (zcallV 1 11 21 0 406 115), some (zopop 407), some (zald2 408), some (zcallV 1 12 234 0 409 118), some (zopop 410), some (zgo 777), some (zald1 412), some (zcallV 1 11 22 0 413 119), some (zopop 414), some (zald2 415), some (zcallV 1 12 235 0 416 122), some (zopop 417), some (zgo 777), some (zald1 419), some (zcallV 1 11 23 0 420 123), some (zopop 421), some (zald2 422), some (zcallV 1 12 236 0 423 126), some (zopop 424), some (zgo 777), some (zald1 426), some (zcallV 1 11 24 0 427 127), some (zopop 428), some (zald2 429), some (zcallV 1 12 238 0 430 130), some (zopop 431), some (zgo 777), some (zald1 433), some (zald0 434), some (zild 4 435), some (zic1 436), some (zoadd 437), none, some (zald0 439), some (zild 4 440)]
set_option maxRecDepth 100000 in
set_option maxHeartbeats 4000000 in
theorem SL_10 (L : Nat) (xs : Nat → Int32) : pAllL L xs 400 (lawp_10 L xs) := zallL L xs (D := ZL_10) (F := [s_lld L xs 438]) (by decide +kernel)
  ⟨sl_ild (dX_iaload (by decide +kernel)) (by decide +kernel), trivial⟩
def ZL_11 : List (Option zI) := [some (zic2 441), some (zoadd 442), none, some (zcallV 1 11 25 2 444 131), some (zopop 445), some (zald2 446), some (zald0 447), some (zild 4 448), some (zic1 449), some (zoadd 450), none, some (zald0 452), some (zild 4 453), some (zic2 454), some (zoadd 455), none, some (zcallV 1 12 239 2 457 134), some (zopop 458), some (zgo 777), some (zald1 460), some (zcallV 1 11 26 0 461 135), some (zopop 462), some (zald2 463), some (zcallV 1 12 240 0 464 138), some (zopop 465), some (zgo 777), some (zald1 467), some (zald0 468), some (zild 4 469), some (zic1 470), some (zoadd 471), none, some (zald0 473), some (zild 4 474), some (zic2 475), some (zoadd 476), none, some (zcallV 1 11 27 2 478 139), some (zopop 479), some (zald2 480)]
set_option maxRecDepth 100000 in
set_option maxHeartbeats 4000000 in
theorem SL_11 (L : Nat) (xs : Nat → Int32) : pAllL L xs 440 (lawp_11 L xs) := zallL L xs (D := ZL_11) (F := [s_lld L xs 443, s_lld L xs 451, s_lld L xs 456, s_lld L xs 472, s_lld L xs 477]) (by decide +kernel)
  ⟨sl_ild (dX_iaload (by decide +kernel)) (by decide +kernel),
   sl_ild (dX_iaload (by decide +kernel)) (by decide +kernel),
   sl_ild (dX_iaload (by decide +kernel)) (by decide +kernel),
   sl_ild (dX_iaload (by decide +kernel)) (by decide +kernel),
   sl_ild (dX_iaload (by decide +kernel)) (by decide +kernel), trivial⟩
def ZL_12 : List (Option zI) := [some (zald0 481), some (zild 4 482), some (zic1 483), some (zoadd 484), none, some (zald0 486), some (zild 4 487), some (zic2 488), some (zoadd 489), none, some (zcallV 1 12 241 2 491 142), some (zopop 492), some (zgo 777), some (zald1 494), some (zald0 495), some (zild 4 496), some (zic1 497), some (zoadd 498), none, some (zcallV 1 11 28 1 500 143), some (zopop 501), some (zald2 502), some (zald0 503), some (zild 4 504), some (zic1 505), some (zoadd 506), none, some (zcallV 1 12 242 1 508 146), some (zopop 509), some (zgo 777), some (zald1 511), some (zald0 512), some (zild 4 513), some (zic1 514), some (zoadd 515), none, some (zald0 517), some (zild 4 518), some (zic2 519), some (zoadd 520)]
set_option maxRecDepth 100000 in
set_option maxHeartbeats 4000000 in
theorem SL_12 (L : Nat) (xs : Nat → Int32) : pAllL L xs 480 (lawp_12 L xs) := zallL L xs (D := ZL_12) (F := [s_lld L xs 485, s_lld L xs 490, s_lld L xs 499, s_lld L xs 507, s_lld L xs 516]) (by decide +kernel)
  ⟨sl_ild (dX_iaload (by decide +kernel)) (by decide +kernel),
   sl_ild (dX_iaload (by decide +kernel)) (by decide +kernel),
   sl_ild (dX_iaload (by decide +kernel)) (by decide +kernel),
   sl_ild (dX_iaload (by decide +kernel)) (by decide +kernel),
   sl_ild (dX_iaload (by decide +kernel)) (by decide +kernel), trivial⟩
def ZL_13 : List (Option zI) := [none, some (zcallV 1 11 29 2 522 147), some (zopop 523), some (zald2 524), some (zald0 525), some (zild 4 526), some (zic1 527), some (zoadd 528), none, some (zald0 530), some (zild 4 531), some (zic2 532), some (zoadd 533), none, some (zcallV 1 12 243 2 535 150), some (zopop 536), some (zgo 777), some (zald1 538), some (zald0 539), some (zild 4 540), some (zic1 541), some (zoadd 542), none, some (zcallV 1 11 30 1 544 151), some (zopop 545), some (zald2 546), some (zald0 547), some (zild 4 548), some (zic1 549), some (zoadd 550), none, some (zcallV 1 12 244 1 552 154), some (zopop 553), some (zgo 777), some (zald1 555), some (zald0 556), some (zild 4 557), some (zic1 558), some (zoadd 559), none]
set_option maxRecDepth 100000 in
set_option maxHeartbeats 4000000 in
theorem SL_13 (L : Nat) (xs : Nat → Int32) : pAllL L xs 520 (lawp_13 L xs) := zallL L xs (D := ZL_13) (F := [s_lld L xs 521, s_lld L xs 529, s_lld L xs 534, s_lld L xs 543, s_lld L xs 551, s_lld L xs 560]) (by decide +kernel)
  ⟨sl_ild (dX_iaload (by decide +kernel)) (by decide +kernel),
   sl_ild (dX_iaload (by decide +kernel)) (by decide +kernel),
   sl_ild (dX_iaload (by decide +kernel)) (by decide +kernel),
   sl_ild (dX_iaload (by decide +kernel)) (by decide +kernel),
   sl_ild (dX_iaload (by decide +kernel)) (by decide +kernel),
   sl_ild (dX_iaload (by decide +kernel)) (by decide +kernel), trivial⟩
def ZL_14 : List (Option zI) := [some (zald0 561), some (zild 4 562), some (zic2 563), some (zoadd 564), none, some (zcallV 1 11 31 2 566 155), some (zopop 567), some (zald2 568), some (zald0 569), some (zild 4 570), some (zic1 571), some (zoadd 572), none, some (zald0 574), some (zild 4 575), some (zic2 576), some (zoadd 577), none, some (zcallV 1 12 245 2 579 158), some (zopop 580), some (zgo 777), some (zald1 582), some (zcallV 1 11 32 0 583 159), some (zopop 584), some (zald2 585), some (zcallV 1 12 246 0 586 162), some (zopop 587), some (zgo 777), some (zald1 589), some (zcallV 1 11 33 0 590 163), some (zopop 591), some (zald2 592), some (zcallV 1 12 248 0 593 166), some (zopop 594), some (zgo 777), some (zald1 596), some (zald0 597), some (zild 4 598), some (zic1 599), some (zoadd 600)]
set_option maxRecDepth 100000 in
set_option maxHeartbeats 4000000 in
theorem SL_14 (L : Nat) (xs : Nat → Int32) : pAllL L xs 560 (lawp_14 L xs) := zallL L xs (D := ZL_14) (F := [s_lld L xs 565, s_lld L xs 573, s_lld L xs 578]) (by decide +kernel)
  ⟨sl_ild (dX_iaload (by decide +kernel)) (by decide +kernel),
   sl_ild (dX_iaload (by decide +kernel)) (by decide +kernel),
   sl_ild (dX_iaload (by decide +kernel)) (by decide +kernel), trivial⟩
def ZL_15 : List (Option zI) := [none, some (zald0 602), some (zild 4 603), some (zic2 604), some (zoadd 605), none, some (zcallV 1 11 34 2 607 167), some (zopop 608), some (zald2 609), some (zald0 610), some (zild 4 611), some (zic1 612), some (zoadd 613), none, some (zald0 615), some (zild 4 616), some (zic2 617), some (zoadd 618), none, some (zcallV 1 12 250 2 620 170), some (zopop 621), some (zgo 777), some (zald1 623), some (zald0 624), some (zild 4 625), some (zic1 626), some (zoadd 627), none, some (zald0 629), some (zild 4 630), some (zic2 631), some (zoadd 632), none, some (zcallV 1 11 35 2 634 171), some (zopop 635), some (zald2 636), some (zald0 637), some (zild 4 638), some (zic1 639), some (zoadd 640)]
set_option maxRecDepth 100000 in
set_option maxHeartbeats 4000000 in
theorem SL_15 (L : Nat) (xs : Nat → Int32) : pAllL L xs 600 (lawp_15 L xs) := zallL L xs (D := ZL_15) (F := [s_lld L xs 601, s_lld L xs 606, s_lld L xs 614, s_lld L xs 619, s_lld L xs 628, s_lld L xs 633]) (by decide +kernel)
  ⟨sl_ild (dX_iaload (by decide +kernel)) (by decide +kernel),
   sl_ild (dX_iaload (by decide +kernel)) (by decide +kernel),
   sl_ild (dX_iaload (by decide +kernel)) (by decide +kernel),
   sl_ild (dX_iaload (by decide +kernel)) (by decide +kernel),
   sl_ild (dX_iaload (by decide +kernel)) (by decide +kernel),
   sl_ild (dX_iaload (by decide +kernel)) (by decide +kernel), trivial⟩
def ZL_16 : List (Option zI) := [none, some (zald0 642), some (zild 4 643), some (zic2 644), some (zoadd 645), none, some (zcallV 1 12 251 2 647 174), some (zopop 648), some (zgo 777), some (zald1 650), some (zcallV 1 11 36 0 651 175), some (zopop 652), some (zald2 653), some (zcallV 1 12 252 0 654 178), some (zopop 655), some (zgo 777), some (zald1 657), some (zald0 658), some (zild 4 659), some (zic1 660), some (zoadd 661), none, some (zcallV 1 11 37 1 663 179), some (zopop 664), some (zald2 665), some (zald0 666), some (zild 4 667), some (zic1 668), some (zoadd 669), none, some (zcallV 1 12 254 1 671 182), some (zopop 672), some (zgo 777), some (zald1 674), some (zcallV 1 11 38 0 675 183), some (zopop 676), some (zald2 677), some (zcallV 1 12 255 0 678 186), some (zopop 679), some (zgo 777)]
set_option maxRecDepth 100000 in
set_option maxHeartbeats 4000000 in
theorem SL_16 (L : Nat) (xs : Nat → Int32) : pAllL L xs 640 (lawp_16 L xs) := zallL L xs (D := ZL_16) (F := [s_lld L xs 641, s_lld L xs 646, s_lld L xs 662, s_lld L xs 670]) (by decide +kernel)
  ⟨sl_ild (dX_iaload (by decide +kernel)) (by decide +kernel),
   sl_ild (dX_iaload (by decide +kernel)) (by decide +kernel),
   sl_ild (dX_iaload (by decide +kernel)) (by decide +kernel),
   sl_ild (dX_iaload (by decide +kernel)) (by decide +kernel), trivial⟩
def ZL_17 : List (Option zI) := [some (zald1 681), some (zcallV 1 11 39 0 682 187), some (zopop 683), some (zald2 684), some (zcallV 1 12 257 0 685 190), some (zopop 686), some (zgo 777), some (zald1 688), some (zcallV 1 11 40 0 689 191), some (zopop 690), some (zald2 691), some (zcallV 1 12 259 0 692 194), some (zopop 693), some (zgo 777), some (zald1 695), some (zcallV 1 11 41 0 696 195), some (zopop 697), some (zald2 698), some (zcallV 1 12 263 0 699 198), some (zopop 700), some (zgo 777), some (zald1 702), some (zcallV 1 11 42 0 703 199), some (zopop 704), some (zald2 705), some (zcallV 1 12 264 0 706 202), some (zopop 707), some (zgo 777), some (zald1 709), some (zald0 710), some (zild 4 711), some (zic1 712), some (zoadd 713), none, some (zcallV 1 11 43 1 715 203), some (zopop 716), some (zald2 717), some (zald0 718), some (zild 4 719), some (zic1 720)]
set_option maxRecDepth 100000 in
set_option maxHeartbeats 4000000 in
theorem SL_17 (L : Nat) (xs : Nat → Int32) : pAllL L xs 680 (lawp_17 L xs) := zallL L xs (D := ZL_17) (F := [s_lld L xs 714]) (by decide +kernel)
  ⟨sl_ild (dX_iaload (by decide +kernel)) (by decide +kernel), trivial⟩
def ZL_18 : List (Option zI) := [some (zoadd 721), none, some (zcallV 1 12 266 1 723 206), some (zopop 724), some (zgo 777), some (zald1 726), some (zald0 727), some (zild 4 728), some (zic1 729), some (zoadd 730), none, some (zcallV 1 11 44 1 732 207), some (zald2 733), some (zald0 734), some (zild 4 735), some (zic1 736), some (zoadd 737), none, some (zcallV 1 12 267 1 739 210), some (ziceq 777 740), some (zic0 741), none, some (zald1 743), some (zald0 744), some (zild 4 745), some (zic1 746), some (zoadd 747), none, some (zcallV 1 11 45 1 749 211), some (zopop 750), some (zald2 751), some (zald0 752), some (zild 4 753), some (zic1 754), some (zoadd 755), none, some (zcallV 1 12 268 1 757 214), some (zopop 758), some (zgo 777), some (zald1 760)]
set_option maxRecDepth 100000 in
set_option maxHeartbeats 4000000 in
theorem SL_18 (L : Nat) (xs : Nat → Int32) : pAllL L xs 720 (lawp_18 L xs) := zallL L xs (D := ZL_18) (F := [s_lld L xs 722, s_lld L xs 731, s_lld L xs 738, s_zret, s_lld L xs 748, s_lld L xs 756]) (by decide +kernel)
  ⟨sl_ild (dX_iaload (by decide +kernel)) (by decide +kernel),
   sl_ild (dX_iaload (by decide +kernel)) (by decide +kernel),
   sl_ild (dX_iaload (by decide +kernel)) (by decide +kernel),
   slw (sn_zret (Or.inl rfl) (dX_ireturn (by decide +kernel))),
   sl_ild (dX_iaload (by decide +kernel)) (by decide +kernel),
   sl_ild (dX_iaload (by decide +kernel)) (by decide +kernel), trivial⟩
def ZL_19 : List (Option zI) := [some (zald0 761), some (zild 4 762), some (zic1 763), some (zoadd 764), none, some (zald3 766), none, some (zist 5 768), some (zald2 769), some (zald0 770), some (zild 4 771), some (zic1 772), some (zoadd 773), none, some (zcallV 1 12 269 1 775 218), some (zist 6 776), some (zgo 777), some (zinc 4 (5) 778), some (zgo 13), some (zic1 780), none]
set_option maxRecDepth 100000 in
set_option maxHeartbeats 4000000 in
theorem SL_19 (L : Nat) (xs : Nat → Int32) : pAllL L xs 760 (lawp_19 L xs) := zallL L xs (D := ZL_19) (F := [s_lld L xs 765, s_none, s_lld L xs 774, s_zret]) (by decide +kernel)
  ⟨sl_ild (dX_iaload (by decide +kernel)) (by decide +kernel),
   slw (sn_none),
   sl_ild (dX_iaload (by decide +kernel)) (by decide +kernel),
   slw (sn_zret (Or.inl rfl) (dX_ireturn (by decide +kernel))), trivial⟩
theorem law_at {L : Nat} {xs : Nat → Int32} {b : Nat} {l : List pS} (h : pAllL L xs b l) : ∀ n, b ≤ n → pSndL L xs pyn pwk RL code 7 ret lawpc (lawpc n) (l.getD (Nat.sub n b) s_none) := by
  intro n hn
  cases hi : l[Nat.sub n b]? with
  | none => rw [List.getD_eq_getElem?_getD, hi]; exact slw sn_none
  | some f =>
    rw [List.getD_eq_getElem?_getD, hi]
    have h2 := pAll_get h hi
    rw [show b + Nat.sub n b = n from Nat.add_sub_of_le hn] at h2
    exact h2
set_option maxRecDepth 100000 in
theorem SL_all (L : Nat) (xs : Nat → Int32) (m : Nat) : ra_P (fun a _ f => ∀ n, a ≤ n → pSndL L xs pyn pwk RL code 7 ret lawpc (lawpc n) (f n)) 0 m (lawRA L xs) := ⟨⟨⟨⟨law_at (SL_0 L xs), law_at (SL_1 L xs)⟩, ⟨law_at (SL_2 L xs), ⟨law_at (SL_3 L xs), law_at (SL_4 L xs)⟩⟩⟩, ⟨⟨law_at (SL_5 L xs), law_at (SL_6 L xs)⟩, ⟨law_at (SL_7 L xs), ⟨law_at (SL_8 L xs), law_at (SL_9 L xs)⟩⟩⟩⟩, ⟨⟨⟨law_at (SL_10 L xs), law_at (SL_11 L xs)⟩, ⟨law_at (SL_12 L xs), ⟨law_at (SL_13 L xs), law_at (SL_14 L xs)⟩⟩⟩, ⟨⟨law_at (SL_15 L xs), law_at (SL_16 L xs)⟩, ⟨law_at (SL_17 L xs), ⟨law_at (SL_18 L xs), law_at (SL_19 L xs)⟩⟩⟩⟩⟩
theorem lawc_snd (L : Nat) (xs : Nat → Int32) : ∀ i, pSndL L xs pyn pwk RL code 7 ret lawpc (lawpc i) (lawc L xs i) := by
  intro i
  obtain ⟨a, b, h1, -, h⟩ := ra_P_get (lawRA L xs) 0 (i + 1) (SL_all L xs (i + 1)) i (Nat.zero_le _) (Nat.lt_succ_self i)
  exact h i h1
