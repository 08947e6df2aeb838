/-! the law's own body in the pure machine: the script is object 93 (read only), the law's long[1] is object 90 -/
def s_lln (L nx : Nat) : pS := fun X _ ls st M => match st with
  | .inr 95 :: r => X nx ls (.inl (Int.ofNat L) :: r) M
  | _ => none
def s_lld (L : Nat) (xs : Nat → Int32) (nx : Nat) : pS := fun X _ ls st M => match st with
  | .inl i :: .inr 95 :: r => if 0 ≤ i ∧ i < Int.ofNat L then X nx ls (.inl (xs i.toNat).toInt :: r) M else none
  | _ => none
def isR92 : pV → Bool
  | .inr n => Nat.beq n 92
  | _ => false
theorem isR92_eq {v : pV} (h : isR92 v = true) : v = .inr 92 := by
  rcases v with z | n
  · cases h
  · exact congrArg Sum.inr (Nat.eq_of_beq_eq_true h)
def s_lout (i6 tgt nx : Nat) : pS := fun X _ ls st M => bif isR92 (ls.getD 3 (.inr 0)) then (match ls.getD i6 (.inr 0) with
    | .inl z => if Int64.ofInt (M 90 0) = (iI z).toInt64 then X tgt ls st M else X nx ls st M
    | .inr _ => none) else none
def pSc (ad : Nat → Nat) (A : Nat → Prop) (s : State) (L : Nat) (xs : Nat → Int32) : Prop := va_X (ad 93) L xs s s.heap ∧ ad 93 < s.heap.size ∧ ¬ A (ad 93) ∧ L ≤ 100000
def pSndL (L : Nat) (xs : Nat → Int32) (yn : Nat → MethodName) (wk : Nat → List Cond) (own : String) (cc : ByteArray) (nL : Nat) (ret : Option FieldType) (pcs : Nat → Nat) (bpc : Nat) (f : pS) : Prop :=
  ∀ (p : Program) (l : Launch) (e : Env) (R : Room) (s : State) (m : MethodId) (args : Array Value) (below : List Frame) (meth : Method) (c : Code) (G : va_G) (ad : Nat → Nat) (cA : Nat → ClassId) (A : Nat → Prop) (H0 : Heap) (kc ks : Nat) (Q : pR → State → Prop),
  pCx p R s m args meth c G ad cA A H0 own cc nL kc ks → pSc ad A s L xs → (∀ q : Nat, H0.size ≤ q → A q) → pRt p l e R s m args below meth c G ad cA A H0 kc ks Q cc ret →
  ∀ (X : pX) (Y : pY), pGd p l e R s m args below meth c G ad cA A H0 kc ks Q nL pcs X → pMt l G ad cA yn wk R Y →
  ∀ ls st M r, f X Y ls st M = some r → ∀ H locs arr, pWd G ad cA A H0 M H locs → pLs ad nL ls arr → W p l e R s m args below meth c H locs kc ks (Q r) (F0 m bpc arr (st.map (ptv ad)))
section SNL
variable {L : Nat} {xs : Nat → Int32} {yn : Nat → MethodName} {wk : Nat → List Cond} {own : String} {cc : ByteArray} {nL : Nat} {ret : Option FieldType} {pcs : Nat → Nat} {bpc : Nat}
theorem slw {f : pS} (h : pSnd yn wk own cc nL ret pcs bpc f) : pSndL L xs yn wk own cc nL ret pcs bpc f := by
  intro p l e R s m args below meth c G ad cA A H0 kc ks Q hC _ hA hR
  exact h p l e R s m args below meth c G ad cA A H0 kc ks Q hC hA hR
theorem sl_len {nx : Nat} (hd : decode cc bpc = .ok (.arraylength, 1)) (hn : pcs nx = bpc + 1) : pSndL L xs yn wk own cc nL ret pcs bpc (s_lln L nx) := by
  intro p l e R s m args below meth c G ad cA A H0 kc ks Q ⟨hx, hb, hml, hown, hts, hnw, hK, hkc, hks, hfr, hlo, hH0, hRO⟩ ⟨hX1, hX2, hX3, hX4⟩ hA hR X Y hX hY ls st M r h H locs arr hW hl
  by_cases hs : ∃ rest, st = .inr 95 :: rest
  · obtain ⟨rest, rfl⟩ := hs
    have h : X nx ls (.inl (Int.ofNat L) :: rest) M = some r := h
    subst hH0
    show W p l e R s m args below meth c H locs kc ks (Q r) (F0 m bpc arr (.ref (ad 93) :: rest.map (ptv ad)))
    refine va_slen hx hb hX1 hX2 hX3 hW.2.2 hd ?_
    rw [← hn]
    have e1 : Value.int (Int32.ofNat L) = ptv ad (.inl (Int.ofNat L)) := congrArg Value.int Int32.ofInt_eq_ofNat.symm
    rw [e1]
    exact hX _ _ _ _ _ h _ _ _ hW hl
  · exfalso
    unfold s_lln at h
    split at h
    · exact hs ⟨_, rfl⟩
    · cases h
theorem sl_ild {nx : Nat} (hd : decode cc bpc = .ok (.iaload, 1)) (hn : pcs nx = bpc + 1) : pSndL L xs yn wk own cc nL ret pcs bpc (s_lld L xs nx) := by
  intro p l e R s m args below meth c G ad cA A H0 kc ks Q ⟨hx, hb, hml, hown, hts, hnw, hK, hkc, hks, hfr, hlo, hH0, hRO⟩ ⟨hX1, hX2, hX3, hX4⟩ hA hR X Y hX hY ls st M r h H locs arr hW hl
  by_cases hs : ∃ i rest, st = .inl i :: .inr 95 :: rest
  · obtain ⟨i, rest, rfl⟩ := hs
    have h : (if 0 ≤ i ∧ i < Int.ofNat L then X nx ls (.inl (xs i.toNat).toInt :: rest) M else none) = some r := h
    split at h
    · rename_i hi
      obtain ⟨hin, hcl⟩ := iI_in hi.1 hi.2 hX4
      subst hH0
      show W p l e R s m args below meth c H locs kc ks (Q r) (F0 m bpc arr (.int (iI i) :: .ref (ad 93) :: rest.map (ptv ad)))
      refine va_sld hx hb hX1 hX2 hX3 hW.2.2 hin hd ?_
      rw [hcl, ← hn]
      have e1 : Value.int (xs i.toNat) = ptv ad (.inl (xs i.toNat).toInt) := congrArg Value.int (Int32.ofInt_toInt _).symm
      rw [e1]
      exact hX _ _ _ _ _ h _ _ _ hW hl
    · cases h
  · exfalso
    unfold s_lld at h
    split at h
    · exact hs ⟨_, _, rfl⟩
    · cases h
theorem lg_cmp_zero {x y : Int64} : lg_cmp x y = 0 ↔ x = y := by
  unfold lg_cmp
  constructor
  · intro h
    split at h
    · cases h
    · split at h
      · assumption
      · first | cases h | (exfalso; revert h; decide)
  · intro h; subst h
    simp
theorem pW_out {ad : Nat → Nat} {cA : Nat → ClassId} {M : pM} : (pW ad cA M)[90]? = some (ad 90, .inl (cA 90, 1, .inr (.inl fun i => Int64.ofInt (M 90 i)))) := by
  rw [pW_at ad cA M (by decide)]; rfl
theorem pty_out (cA : Nat → ClassId) : ∃ t0 : Nat, (ptys cA)[t0]? = some (cA 90, .long) := by
  obtain ⟨t0, h⟩ := ptys_at cA (o := 90) (by decide +kernel) (by decide +kernel)
  exact ⟨t0, h⟩
theorem sl_out {i6 tgt nx : Nat} {off : Int} (d0 : decode cc bpc = .ok (.aload_n 3, 1)) (d1 : decode cc (bpc + 1) = .ok (.iconst 0, 1)) (d2 : decode cc (bpc + 2) = .ok (.laload, 1)) (d3 : decode cc (bpc + 3) = .ok (.iload i6, 2)) (d5 : decode cc (bpc + 5) = .ok (.i2l, 1)) (d6 : decode cc (bpc + 6) = .ok (.lcmp, 1)) (d7 : decode cc (bpc + 7) = .ok (.ifCond .eq off, 3)) (ht : ((bpc + 7 : Nat) : Int) + off = (pcs tgt : Int)) (hn : pcs nx = bpc + 10) : pSndL L xs yn wk own cc nL ret pcs bpc (s_lout i6 tgt nx) := by
  intro p l e R s m args below meth c G ad cA A H0 kc ks Q ⟨hx, hb, hml, hown, hts, hnw, hK, hkc, hks, hfr, hlo, hH0, hRO⟩ ⟨hX1, hX2, hX3, hX4⟩ hA hR X Y hX hY ls st M r h H locs arr hW hl
  unfold s_lout at h
  cases hb9 : isR92 (ls.getD 3 (.inr 0)) with
  | false => rw [hb9] at h; cases h
  | true =>
    have h3 := isR92_eq hb9
    rw [hb9, cond_true] at h
    rcases h6 : ls.getD i6 (.inr 0) with z | k
    · rw [h6] at h
      dsimp only at h
      have a3 := pLs_at hl h3 (by intro q; cases q)
      have a6 := pLs_at hl h6 (by intro q; cases q)
      refine lv_aload_n (x := ad 90) hx hb d0 rfl a3.1 ?_
      refine lv_iconst (v := iI 0) hx hb d1 rfl ?_
      obtain ⟨t0, ht0⟩ := pty_out cA
      refine va_lald hx hb hK hW.1 90 t0 pW_out ht0 (by unfold vp_in; decide +kernel) d2 ?_
      refine lv_iload (x := iI z) hx hb d3 a6.1 ?_
      refine lv_i2l hx hb d5 rfl ?_
      refine W.lcmp hx hb d6 ?_
      refine lv_if_eq hx hb d7 ht (fun q => ?_) (fun q => ?_)
      · rw [if_pos (show Int64.ofInt (M 90 0) = (iI z).toInt64 from lg_cmp_zero.mp q)] at h
        exact hX _ _ _ _ _ h _ _ _ hW hl
      · rw [if_neg (show ¬ Int64.ofInt (M 90 0) = (iI z).toInt64 from fun e => q (lg_cmp_zero.mpr e))] at h
        rw [show bpc + 1 + 1 + 1 + 2 + 1 + 1 + 3 = pcs nx by rw [hn]]
        exact hX _ _ _ _ _ h _ _ _ hW hl
    · rw [h6] at h; cases h
end SNL
/-- many steps at once are sound, where what comes behind them is -/
theorem prun_snd {L : Nat} {xs : Nat → Int32} {yn : Nat → MethodName} {wk : Nat → List Cond} {own : String} {cc : ByteArray} {nL : Nat} {ret : Option FieldType} {pcs : Nat → Nat} {code : Nat → pS} (hS : ∀ i, pSndL L xs yn wk own cc nL ret pcs (pcs i) (code i))
    {p : Program} {l : Launch} {e : Env} {R : Room} {s : State} {m : MethodId} {args : Array Value} {below : List Frame} {meth : Method} {c : Code} {G : va_G} {ad : Nat → Nat} {cA : Nat → ClassId} {A : Nat → Prop} {H0 : Heap} {kc ks : Nat} {Q : pR → State → Prop}
    (hC : pCx p R s m args meth c G ad cA A H0 own cc nL kc ks) (hL : pSc ad A s L xs) (hA : ∀ q : Nat, H0.size ≤ q → A q) (hR : pRt p l e R s m args below meth c G ad cA A H0 kc ks Q cc ret) (stop : Nat → Bool)
    {X : pX} {Y : pY} (hX : pGd p l e R s m args below meth c G ad cA A H0 kc ks Q nL pcs X) (hY : pMt l G ad cA yn wk R Y) : ∀ n, pGd p l e R s m args below meth c G ad cA A H0 kc ks Q nL pcs (prun code stop X Y n) := by
  intro n
  induction n with
  | zero => exact hX
  | succ n ih =>
    intro i ls st M r h H locs arr hW hl
    refine hS i p l e R s m args below meth c G ad cA A H0 kc ks Q hC hL hA hR (fun i' ls' st' M' => bif stop i' then X i' ls' st' M' else prun code stop X Y n i' ls' st' M') Y ?_ hY ls st M r h H locs arr hW hl
    intro i' ls' st' M' r' h'
    dsimp only at h'
    cases hs : stop i' with
    | true => rw [hs] at h'; exact hX i' ls' st' M' r' h'
    | false => rw [hs] at h'; exact ih i' ls' st' M' r' h'
/-- the same for a method without a script -/
theorem prun_snd0 {yn : Nat → MethodName} {wk : Nat → List Cond} {own : String} {cc : ByteArray} {nL : Nat} {ret : Option FieldType} {pcs : Nat → Nat} {code : Nat → pS} (hS : ∀ i, pSnd yn wk own cc nL ret pcs (pcs i) (code i))
    {p : Program} {l : Launch} {e : Env} {R : Room} {s : State} {m : MethodId} {args : Array Value} {below : List Frame} {meth : Method} {c : Code} {G : va_G} {ad : Nat → Nat} {cA : Nat → ClassId} {A : Nat → Prop} {H0 : Heap} {kc ks : Nat} {Q : pR → State → Prop}
    (hC : pCx p R s m args meth c G ad cA A H0 own cc nL kc ks) (hA : ∀ q : Nat, H0.size ≤ q → A q) (hR : pRt p l e R s m args below meth c G ad cA A H0 kc ks Q cc ret) (stop : Nat → Bool)
    {X : pX} {Y : pY} (hX : pGd p l e R s m args below meth c G ad cA A H0 kc ks Q nL pcs X) (hY : pMt l G ad cA yn wk R Y) : ∀ n, pGd p l e R s m args below meth c G ad cA A H0 kc ks Q nL pcs (prun code stop X Y n) := by
  intro n
  induction n with
  | zero => exact hX
  | succ n ih =>
    intro i ls st M r h H locs arr hW hl
    refine hS i p l e R s m args below meth c G ad cA A H0 kc ks Q hC hA hR (fun i' ls' st' M' => bif stop i' then X i' ls' st' M' else prun code stop X Y n i' ls' st' M') Y ?_ hY ls st M r h H locs arr hW hl
    intro i' ls' st' M' r' h'
    dsimp only at h'
    cases hs : stop i' with
    | true => rw [hs] at h'; exact hX i' ls' st' M' r' h'
    | false => rw [hs] at h'; exact ih i' ls' st' M' r' h'
/-! the law as a list of steps (by program) -/
theorem cal_0 : pCal pyn pwk 0 1 2 cX11_sign (some .int) := ⟨rfl, pmt2 178 rfl rfl, by decide, pmt1 1 rfl rfl, ⟨by decide +kernel, by decide +kernel, by decide +kernel⟩⟩
theorem cal_1 : pCal pyn pwk 1 1 2 cX11_end (some .boolean) := ⟨rfl, pmt2 186 rfl rfl, by decide, pmt1 1 rfl rfl, ⟨by decide +kernel, by decide +kernel, by decide +kernel⟩⟩
theorem cal_2 : pCal pyn pwk 2 0 2 cX11_house (some .int) := ⟨rfl, pmt2 194 rfl rfl, by decide, pmt1 1 rfl rfl, ⟨by decide +kernel, by decide +kernel, by decide +kernel⟩⟩
theorem cal_3 : pCal pyn pwk 3 0 2 cX11_rule (some .int) := ⟨rfl, pmt3 87 rfl rfl, by decide, pmt1 1 rfl rfl, ⟨by decide +kernel, by decide +kernel, by decide +kernel⟩⟩
theorem cal_4 : pCal pyn pwk 4 2 3 cX11_room (some .int) := ⟨rfl, pmt6 47 rfl rfl, by decide, pmt1 1 rfl rfl, ⟨by decide +kernel, by decide +kernel, by decide +kernel⟩⟩
theorem cal_5 : pCal pyn pwk 5 2 3 cX11_thing (some .int) := ⟨rfl, pmt6 122 rfl rfl, by decide, pmt1 1 rfl rfl, ⟨by decide +kernel, by decide +kernel, by decide +kernel⟩⟩
theorem cal_6 : pCal pyn pwk 6 1 2 cX11_set (some .int) := ⟨rfl, pmt3 222 rfl rfl, by decide, pmt1 1 rfl rfl, ⟨by decide +kernel, by decide +kernel, by decide +kernel⟩⟩
theorem cal_7 : pCal pyn pwk 7 2 4 cX11_door (some .int) := ⟨rfl, pmt3 226 rfl rfl, by decide, pmt1 1 rfl rfl, ⟨by decide +kernel, by decide +kernel, by decide +kernel⟩⟩
theorem cal_8 : pCal pyn pwk 8 3 5 cX11_widen (some .int) := ⟨rfl, pmt3 235 rfl rfl, by decide, pmt1 1 rfl rfl, ⟨by decide +kernel, by decide +kernel, by decide +kernel⟩⟩
theorem cal_9 : pCal pyn pwk 9 1 3 cX11_strength (some .int) := ⟨rfl, pmt4 0 rfl rfl, by decide, pmt1 1 rfl rfl, ⟨by decide +kernel, by decide +kernel, by decide +kernel⟩⟩
theorem cal_10 : pCal pyn pwk 10 4 5 cX11_sheet (some .int) := ⟨rfl, pmt4 4 rfl rfl, by decide, pmt1 1 rfl rfl, ⟨by decide +kernel, by decide +kernel, by decide +kernel⟩⟩
theorem cal_12 : pCal pyn pwk 12 0 3 cX11_evening (some .int) := ⟨rfl, pmt4 55 rfl rfl, by decide, pmt1 1 rfl rfl, ⟨by decide +kernel, by decide +kernel, by decide +kernel⟩⟩
theorem cal_13 : pCal pyn pwk 13 0 7 cX11_day (some .int) := ⟨rfl, pmt4 96 rfl rfl, by decide, pmt1 1 rfl rfl, ⟨by decide +kernel, by decide +kernel, by decide +kernel⟩⟩
theorem cal_14 : pCal pyn pwk 14 0 2 cX11_undo (some .int) := ⟨rfl, pmt4 126 rfl rfl, by decide, pmt1 1 rfl rfl, ⟨by decide +kernel, by decide +kernel, by decide +kernel⟩⟩
theorem cal_15 : pCal pyn pwk 15 2 8 cX11_judge (some .int) := ⟨rfl, pmt4 130 rfl rfl, by decide, pmt1 1 rfl rfl, ⟨by decide +kernel, by decide +kernel, by decide +kernel⟩⟩
theorem cal_16 : pCal pyn pwk 16 0 2 cX11_clumps (some .int) := ⟨rfl, pmt4 135 rfl rfl, by decide, pmt1 1 rfl rfl, ⟨by decide +kernel, by decide +kernel, by decide +kernel⟩⟩
theorem cal_17 : pCal pyn pwk 17 0 3 cX11_heaviest (some .int) := ⟨rfl, pmt4 139 rfl rfl, by decide, pmt1 1 rfl rfl, ⟨by decide +kernel, by decide +kernel, by decide +kernel⟩⟩
theorem cal_18 : pCal pyn pwk 18 1 3 cX11_without (some .int) := ⟨rfl, pmt4 151 rfl rfl, by decide, pmt1 1 rfl rfl, ⟨by decide +kernel, by decide +kernel, by decide +kernel⟩⟩
theorem cal_19 : pCal pyn pwk 19 1 2 cX11_breaks (some .int) := ⟨rfl, pmt4 165 rfl rfl, by decide, pmt1 1 rfl rfl, ⟨by decide +kernel, by decide +kernel, by decide +kernel⟩⟩
theorem cal_20 : pCal pyn pwk 20 0 3 cX11_ties (some .int) := ⟨rfl, pmt4 173 rfl rfl, by decide, pmt1 1 rfl rfl, ⟨by decide +kernel, by decide +kernel, by decide +kernel⟩⟩
theorem cal_21 : pCal pyn pwk 21 0 1 cX11_fits (some .int) := ⟨rfl, pmt4 177 rfl rfl, by decide, pmt1 1 rfl rfl, ⟨by decide +kernel, by decide +kernel, by decide +kernel⟩⟩
theorem cal_22 : pCal pyn pwk 22 0 3 cX11_worth (some .int) := ⟨rfl, pmt4 224 rfl rfl, by decide, pmt1 1 rfl rfl, ⟨by decide +kernel, by decide +kernel, by decide +kernel⟩⟩
theorem cal_23 : pCal pyn pwk 23 0 3 cX11_best (some .int) := ⟨rfl, pmt5 11 rfl rfl, by decide, pmt1 1 rfl rfl, ⟨by decide +kernel, by decide +kernel, by decide +kernel⟩⟩
theorem cal_24 : pCal pyn pwk 24 0 1 cX11_near (some .int) := ⟨rfl, pmt5 19 rfl rfl, by decide, pmt1 1 rfl rfl, ⟨by decide +kernel, by decide +kernel, by decide +kernel⟩⟩
theorem cal_25 : pCal pyn pwk 25 2 3 cX11_guest (some .int) := ⟨rfl, pmt5 32 rfl rfl, by decide, pmt1 1 rfl rfl, ⟨by decide +kernel, by decide +kernel, by decide +kernel⟩⟩
theorem cal_26 : pCal pyn pwk 26 0 3 cX11_space (some .int) := ⟨rfl, pmt5 36 rfl rfl, by decide, pmt1 1 rfl rfl, ⟨by decide +kernel, by decide +kernel, by decide +kernel⟩⟩
theorem cal_27 : pCal pyn pwk 27 2 7 cX11_could (some .int) := ⟨rfl, pmt5 44 rfl rfl, by decide, pmt1 1 rfl rfl, ⟨by decide +kernel, by decide +kernel, by decide +kernel⟩⟩
theorem cal_28 : pCal pyn pwk 28 1 7 cX11_may (some .int) := ⟨rfl, pmt5 59 rfl rfl, by decide, pmt1 1 rfl rfl, ⟨by decide +kernel, by decide +kernel, by decide +kernel⟩⟩
theorem cal_29 : pCal pyn pwk 29 2 8 cX11_together (some .int) := ⟨rfl, pmt5 72 rfl rfl, by decide, pmt1 1 rfl rfl, ⟨by decide +kernel, by decide +kernel, by decide +kernel⟩⟩
theorem cal_30 : pCal pyn pwk 30 1 2 cX11_fullest (some .int) := ⟨rfl, pmt5 76 rfl rfl, by decide, pmt1 1 rfl rfl, ⟨by decide +kernel, by decide +kernel, by decide +kernel⟩⟩
theorem cal_31 : pCal pyn pwk 31 2 4 cX11_swap (some .int) := ⟨rfl, pmt5 80 rfl rfl, by decide, pmt1 1 rfl rfl, ⟨by decide +kernel, by decide +kernel, by decide +kernel⟩⟩
theorem cal_32 : pCal pyn pwk 32 0 4 cX11_sell (some .int) := ⟨rfl, pmt5 89 rfl rfl, by decide, pmt1 1 rfl rfl, ⟨by decide +kernel, by decide +kernel, by decide +kernel⟩⟩
theorem cal_33 : pCal pyn pwk 33 0 4 cX11_build (some .int) := ⟨rfl, pmt5 99 rfl rfl, by decide, pmt1 1 rfl rfl, ⟨by decide +kernel, by decide +kernel, by decide +kernel⟩⟩
theorem cal_34 : pCal pyn pwk 34 2 7 cX11_way (some .int) := ⟨rfl, pmt5 103 rfl rfl, by decide, pmt1 1 rfl rfl, ⟨by decide +kernel, by decide +kernel, by decide +kernel⟩⟩
theorem cal_35 : pCal pyn pwk 35 2 4 cX11_widest (some .int) := ⟨rfl, pmt5 112 rfl rfl, by decide, pmt1 1 rfl rfl, ⟨by decide +kernel, by decide +kernel, by decide +kernel⟩⟩
theorem cal_36 : pCal pyn pwk 36 0 3 cX11_stuck (some .int) := ⟨rfl, pmt5 116 rfl rfl, by decide, pmt1 1 rfl rfl, ⟨by decide +kernel, by decide +kernel, by decide +kernel⟩⟩
theorem cal_37 : pCal pyn pwk 37 1 8 cX11_hinge (some .int) := ⟨rfl, pmt5 128 rfl rfl, by decide, pmt1 1 rfl rfl, ⟨by decide +kernel, by decide +kernel, by decide +kernel⟩⟩
theorem cal_38 : pCal pyn pwk 38 0 4 cX11_aim (some .int) := ⟨rfl, pmt5 137 rfl rfl, by decide, pmt1 1 rfl rfl, ⟨by decide +kernel, by decide +kernel, by decide +kernel⟩⟩
theorem cal_39 : pCal pyn pwk 39 0 2 cX11_apart (some .int) := ⟨rfl, pmt5 145 rfl rfl, by decide, pmt1 1 rfl rfl, ⟨by decide +kernel, by decide +kernel, by decide +kernel⟩⟩
theorem cal_40 : pCal pyn pwk 40 0 2 cX11_queue (some .int) := ⟨rfl, pmt5 153 rfl rfl, by decide, pmt1 1 rfl rfl, ⟨by decide +kernel, by decide +kernel, by decide +kernel⟩⟩
theorem cal_41 : pCal pyn pwk 41 0 4 cX11_evenings (some .int) := ⟨rfl, pmt5 175 rfl rfl, by decide, pmt1 1 rfl rfl, ⟨by decide +kernel, by decide +kernel, by decide +kernel⟩⟩
theorem cal_42 : pCal pyn pwk 42 0 4 cX11_weakest (some .int) := ⟨rfl, pmt6 0 rfl rfl, by decide, pmt1 1 rfl rfl, ⟨by decide +kernel, by decide +kernel, by decide +kernel⟩⟩
theorem cal_43 : pCal pyn pwk 43 1 3 cX11_keep (some .boolean) := ⟨rfl, pmt6 13 rfl rfl, by decide, pmt1 1 rfl rfl, ⟨by decide +kernel, by decide +kernel, by decide +kernel⟩⟩
theorem cal_44 : pCal pyn pwk 44 1 3 cX11_again (some .boolean) := ⟨rfl, pmt6 26 rfl rfl, by decide, pmt1 1 rfl rfl, ⟨by decide +kernel, by decide +kernel, by decide +kernel⟩⟩
theorem cal_45 : pCal pyn pwk 45 1 2 cX11_count (some .int) := ⟨rfl, pmt6 34 rfl rfl, by decide, pmt1 1 rfl rfl, ⟨by decide +kernel, by decide +kernel, by decide +kernel⟩⟩
theorem cal_46 : pCal pyn pwk 46 1 2 cX11_row (some .int) := ⟨rfl, pmt6 131 rfl rfl, by decide, pmt1 1 rfl rfl, ⟨by decide +kernel, by decide +kernel, by decide +kernel⟩⟩
theorem cal_168 : pCal pyn pwk 168 0 1 cX12_thrown (some .int) := ⟨rfl, pmt7 72 rfl rfl, by decide, pmt1 13 rfl rfl, ⟨by decide +kernel, by decide +kernel, by decide +kernel⟩⟩
theorem cal_175 : pCal pyn pwk 175 1 3 cX12_sign (some .int) := ⟨rfl, pmt7 76 rfl rfl, by decide, pmt1 13 rfl rfl, ⟨by decide +kernel, by decide +kernel, by decide +kernel⟩⟩
theorem cal_176 : pCal pyn pwk 176 1 2 cX12_end (some .boolean) := ⟨rfl, pmt7 80 rfl rfl, by decide, pmt1 13 rfl rfl, ⟨by decide +kernel, by decide +kernel, by decide +kernel⟩⟩
theorem cal_184 : pCal pyn pwk 184 0 9 cX12_house (some .int) := ⟨rfl, pmt7 87 rfl rfl, by decide, pmt1 13 rfl rfl, ⟨by decide +kernel, by decide +kernel, by decide +kernel⟩⟩
theorem cal_193 : pCal pyn pwk 193 0 3 cX12_rule (some .int) := ⟨rfl, pmt7 131 rfl rfl, by decide, pmt1 13 rfl rfl, ⟨by decide +kernel, by decide +kernel, by decide +kernel⟩⟩
theorem cal_199 : pCal pyn pwk 199 2 5 cX12_room (some .int) := ⟨rfl, pmt7 167 rfl rfl, by decide, pmt1 13 rfl rfl, ⟨by decide +kernel, by decide +kernel, by decide +kernel⟩⟩
theorem cal_201 : pCal pyn pwk 201 2 3 cX12_thing (some .int) := ⟨rfl, pmt7 183 rfl rfl, by decide, pmt1 13 rfl rfl, ⟨by decide +kernel, by decide +kernel, by decide +kernel⟩⟩
theorem cal_202 : pCal pyn pwk 202 1 2 cX12_set (some .int) := ⟨rfl, pmt7 201 rfl rfl, by decide, pmt1 13 rfl rfl, ⟨by decide +kernel, by decide +kernel, by decide +kernel⟩⟩
theorem cal_203 : pCal pyn pwk 203 2 3 cX12_door (some .int) := ⟨rfl, pmt7 205 rfl rfl, by decide, pmt1 13 rfl rfl, ⟨by decide +kernel, by decide +kernel, by decide +kernel⟩⟩
theorem cal_204 : pCal pyn pwk 204 3 5 cX12_widen (some .int) := ⟨rfl, pmt7 209 rfl rfl, by decide, pmt1 13 rfl rfl, ⟨by decide +kernel, by decide +kernel, by decide +kernel⟩⟩
theorem cal_205 : pCal pyn pwk 205 1 3 cX12_strength (some .int) := ⟨rfl, pmt7 213 rfl rfl, by decide, pmt1 13 rfl rfl, ⟨by decide +kernel, by decide +kernel, by decide +kernel⟩⟩
theorem cal_206 : pCal pyn pwk 206 4 9 cX12_sheet (some .int) := ⟨rfl, pmt7 217 rfl rfl, by decide, pmt1 13 rfl rfl, ⟨by decide +kernel, by decide +kernel, by decide +kernel⟩⟩
theorem cal_216 : pCal pyn pwk 216 2 4 cX12_carry (some .int) := ⟨rfl, pmt7 221 rfl rfl, by decide, pmt1 13 rfl rfl, ⟨by decide +kernel, by decide +kernel, by decide +kernel⟩⟩
theorem cal_218 : pCal pyn pwk 218 0 3 cX12_evening (some .int) := ⟨rfl, pmt8 6 rfl rfl, by decide, pmt1 13 rfl rfl, ⟨by decide +kernel, by decide +kernel, by decide +kernel⟩⟩
theorem cal_219 : pCal pyn pwk 219 0 5 cX12_day (some .int) := ⟨rfl, pmt8 31 rfl rfl, by decide, pmt1 13 rfl rfl, ⟨by decide +kernel, by decide +kernel, by decide +kernel⟩⟩
theorem cal_220 : pCal pyn pwk 220 0 1 cX12_undo (some .int) := ⟨rfl, pmt8 35 rfl rfl, by decide, pmt1 13 rfl rfl, ⟨by decide +kernel, by decide +kernel, by decide +kernel⟩⟩
theorem cal_221 : pCal pyn pwk 221 2 8 cX12_judge (some .int) := ⟨rfl, pmt8 39 rfl rfl, by decide, pmt1 13 rfl rfl, ⟨by decide +kernel, by decide +kernel, by decide +kernel⟩⟩
theorem cal_222 : pCal pyn pwk 222 0 2 cX12_clumps (some .int) := ⟨rfl, pmt8 43 rfl rfl, by decide, pmt1 13 rfl rfl, ⟨by decide +kernel, by decide +kernel, by decide +kernel⟩⟩
theorem cal_224 : pCal pyn pwk 224 0 4 cX12_heaviest (some .int) := ⟨rfl, pmt8 47 rfl rfl, by decide, pmt1 13 rfl rfl, ⟨by decide +kernel, by decide +kernel, by decide +kernel⟩⟩
theorem cal_225 : pCal pyn pwk 225 1 4 cX12_without (some .int) := ⟨rfl, pmt8 55 rfl rfl, by decide, pmt1 13 rfl rfl, ⟨by decide +kernel, by decide +kernel, by decide +kernel⟩⟩
theorem cal_226 : pCal pyn pwk 226 1 3 cX12_breaks (some .int) := ⟨rfl, pmt8 59 rfl rfl, by decide, pmt1 13 rfl rfl, ⟨by decide +kernel, by decide +kernel, by decide +kernel⟩⟩
theorem cal_227 : pCal pyn pwk 227 0 4 cX12_ties (some .int) := ⟨rfl, pmt8 63 rfl rfl, by decide, pmt1 13 rfl rfl, ⟨by decide +kernel, by decide +kernel, by decide +kernel⟩⟩
theorem cal_234 : pCal pyn pwk 234 0 2 cX12_fits (some .int) := ⟨rfl, pmt8 67 rfl rfl, by decide, pmt1 13 rfl rfl, ⟨by decide +kernel, by decide +kernel, by decide +kernel⟩⟩
theorem cal_235 : pCal pyn pwk 235 0 1 cX12_worth (some .int) := ⟨rfl, pmt8 95 rfl rfl, by decide, pmt1 13 rfl rfl, ⟨by decide +kernel, by decide +kernel, by decide +kernel⟩⟩
theorem cal_236 : pCal pyn pwk 236 0 4 cX12_best (some .int) := ⟨rfl, pmt8 103 rfl rfl, by decide, pmt1 13 rfl rfl, ⟨by decide +kernel, by decide +kernel, by decide +kernel⟩⟩
theorem cal_238 : pCal pyn pwk 238 0 1 cX12_near (some .int) := ⟨rfl, pmt8 107 rfl rfl, by decide, pmt1 13 rfl rfl, ⟨by decide +kernel, by decide +kernel, by decide +kernel⟩⟩
theorem cal_239 : pCal pyn pwk 239 2 3 cX12_guest (some .int) := ⟨rfl, pmt8 119 rfl rfl, by decide, pmt1 13 rfl rfl, ⟨by decide +kernel, by decide +kernel, by decide +kernel⟩⟩
theorem cal_240 : pCal pyn pwk 240 0 5 cX12_space (some .int) := ⟨rfl, pmt8 123 rfl rfl, by decide, pmt1 13 rfl rfl, ⟨by decide +kernel, by decide +kernel, by decide +kernel⟩⟩
theorem cal_241 : pCal pyn pwk 241 2 8 cX12_could (some .int) := ⟨rfl, pmt8 127 rfl rfl, by decide, pmt1 13 rfl rfl, ⟨by decide +kernel, by decide +kernel, by decide +kernel⟩⟩
theorem cal_242 : pCal pyn pwk 242 1 5 cX12_may (some .int) := ⟨rfl, pmt8 131 rfl rfl, by decide, pmt1 13 rfl rfl, ⟨by decide +kernel, by decide +kernel, by decide +kernel⟩⟩
theorem cal_243 : pCal pyn pwk 243 2 5 cX12_together (some .int) := ⟨rfl, pmt8 135 rfl rfl, by decide, pmt1 13 rfl rfl, ⟨by decide +kernel, by decide +kernel, by decide +kernel⟩⟩
theorem cal_244 : pCal pyn pwk 244 1 4 cX12_fullest (some .int) := ⟨rfl, pmt8 139 rfl rfl, by decide, pmt1 13 rfl rfl, ⟨by decide +kernel, by decide +kernel, by decide +kernel⟩⟩
theorem cal_245 : pCal pyn pwk 245 2 4 cX12_swap (some .int) := ⟨rfl, pmt8 143 rfl rfl, by decide, pmt1 13 rfl rfl, ⟨by decide +kernel, by decide +kernel, by decide +kernel⟩⟩
theorem cal_246 : pCal pyn pwk 246 0 5 cX12_sell (some .int) := ⟨rfl, pmt8 147 rfl rfl, by decide, pmt1 13 rfl rfl, ⟨by decide +kernel, by decide +kernel, by decide +kernel⟩⟩
theorem cal_248 : pCal pyn pwk 248 0 7 cX12_build (some .int) := ⟨rfl, pmt8 155 rfl rfl, by decide, pmt1 13 rfl rfl, ⟨by decide +kernel, by decide +kernel, by decide +kernel⟩⟩
theorem cal_250 : pCal pyn pwk 250 2 7 cX12_way (some .int) := ⟨rfl, pmt8 163 rfl rfl, by decide, pmt1 13 rfl rfl, ⟨by decide +kernel, by decide +kernel, by decide +kernel⟩⟩
theorem cal_251 : pCal pyn pwk 251 2 4 cX12_widest (some .int) := ⟨rfl, pmt8 167 rfl rfl, by decide, pmt1 13 rfl rfl, ⟨by decide +kernel, by decide +kernel, by decide +kernel⟩⟩
theorem cal_252 : pCal pyn pwk 252 0 4 cX12_stuck (some .int) := ⟨rfl, pmt8 171 rfl rfl, by decide, pmt1 13 rfl rfl, ⟨by decide +kernel, by decide +kernel, by decide +kernel⟩⟩
theorem cal_254 : pCal pyn pwk 254 1 9 cX12_hinge (some .int) := ⟨rfl, pmt8 175 rfl rfl, by decide, pmt1 13 rfl rfl, ⟨by decide +kernel, by decide +kernel, by decide +kernel⟩⟩
theorem cal_255 : pCal pyn pwk 255 0 3 cX12_aim (some .int) := ⟨rfl, pmt8 183 rfl rfl, by decide, pmt1 13 rfl rfl, ⟨by decide +kernel, by decide +kernel, by decide +kernel⟩⟩
theorem cal_257 : pCal pyn pwk 257 0 2 cX12_apart (some .int) := ⟨rfl, pmt8 187 rfl rfl, by decide, pmt1 13 rfl rfl, ⟨by decide +kernel, by decide +kernel, by decide +kernel⟩⟩
theorem cal_259 : pCal pyn pwk 259 0 4 cX12_queue (some .int) := ⟨rfl, pmt8 195 rfl rfl, by decide, pmt1 13 rfl rfl, ⟨by decide +kernel, by decide +kernel, by decide +kernel⟩⟩
theorem cal_263 : pCal pyn pwk 263 0 3 cX12_evenings (some .int) := ⟨rfl, pmt8 203 rfl rfl, by decide, pmt1 13 rfl rfl, ⟨by decide +kernel, by decide +kernel, by decide +kernel⟩⟩
theorem cal_264 : pCal pyn pwk 264 0 2 cX12_weakest (some .int) := ⟨rfl, pmt8 219 rfl rfl, by decide, pmt1 13 rfl rfl, ⟨by decide +kernel, by decide +kernel, by decide +kernel⟩⟩
theorem cal_266 : pCal pyn pwk 266 1 3 cX12_keep (some .boolean) := ⟨rfl, pmt8 227 rfl rfl, by decide, pmt1 13 rfl rfl, ⟨by decide +kernel, by decide +kernel, by decide +kernel⟩⟩
theorem cal_267 : pCal pyn pwk 267 1 3 cX12_again (some .boolean) := ⟨rfl, pmt8 231 rfl rfl, by decide, pmt1 13 rfl rfl, ⟨by decide +kernel, by decide +kernel, by decide +kernel⟩⟩
theorem cal_268 : pCal pyn pwk 268 1 4 cX12_count (some .int) := ⟨rfl, pmt8 235 rfl rfl, by decide, pmt1 13 rfl rfl, ⟨by decide +kernel, by decide +kernel, by decide +kernel⟩⟩
theorem cal_269 : pCal pyn pwk 269 1 2 cX12_row (some .int) := ⟨rfl, pmt8 239 rfl rfl, by decide, pmt1 13 rfl rfl, ⟨by decide +kernel, by decide +kernel, by decide +kernel⟩⟩
def lawp (L : Nat) (xs : Nat → Int32) : List pS := [s_none, s_dup 2, s_none, s_ast 1 4, s_none, s_dup 6, s_none, s_ast 2 8, s_push (.inl (1)) 9, s_none, s_ast 3 11, s_push (.inl (0)) 12, s_ist 4 13, s_ild 4 14, s_ald 0 15, s_lln L 16, s_push (.inl (5)) 17, s_bin (fun x y => x - y) 18, s_if2 (fun x y => lt32 y x) (fun _ _ => inferInstance) 830 19, s_ald 0 20, s_ild 4 21, s_lld L xs 22, s_push (.inl (63)) 23, s_bin jand 24, s_sw [(0, 25), (1, 42), (2, 59), (3, 66), (4, 73), (5, 118), (6, 163), (7, 180), (8, 207), (9, 244), (10, 261), (11, 308), (12, 335), (13, 342), (14, 349), (15, 356), (16, 383), (17, 390), (18, 397), (19, 414), (20, 431), (21, 438), (22, 445), (23, 452), (24, 459), (25, 466), (26, 493), (27, 500), (28, 527), (29, 544), (30, 571), (31, 588), (32, 615), (33, 622), (34, 629), (35, 656), (36, 683), (37, 690), (38, 707), (39, 714), (40, 721), (41, 728), (42, 735), (43, 742), (44, 759), (45, 776), (46, 793)] 828, s_ald 1 26, s_ald 0 27, s_ild 4 28, s_push (.inl (1)) 29, s_bin (fun x y => x + y) 30, s_lld L xs 31, s_callV 1 11 0 1 32, s_ald 2 33, s_ald 0 34, s_ild 4 35, s_push (.inl (1)) 36, s_bin (fun x y => x + y) 37, s_lld L xs 38, s_callV 1 12 175 1 39, s_if2 (fun x y => eq32 x y) (fun _ _ => inferInstance) 828 40, s_push (.inl (0)) 41, s_zret, s_ald 1 43, s_ald 0 44, s_ild 4 45, s_push (.inl (1)) 46, s_bin (fun x y => x + y) 47, s_lld L xs 48, s_callV 1 11 1 1 49, s_ald 2 50, s_ald 0 51, s_ild 4 52, s_push (.inl (1)) 53, s_bin (fun x y => x + y) 54, s_lld L xs 55, s_callV 1 12 176 1 56, s_if2 (fun x y => eq32 x y) (fun _ _ => inferInstance) 828 57, s_push (.inl (0)) 58, s_zret, s_ald 1 60, s_callV 1 11 2 0 61, s_ald 2 62, s_callV 1 12 184 0 63, s_if2 (fun x y => eq32 x y) (fun _ _ => inferInstance) 828 64, s_push (.inl (0)) 65, s_zret, s_ald 1 67, s_callV 1 11 3 0 68, s_ald 2 69, s_callV 1 12 193 0 70, s_if2 (fun x y => eq32 x y) (fun _ _ => inferInstance) 828 71, s_push (.inl (0)) 72, s_zret, s_ald 1 74, s_ald 0 75, s_ild 4 76, s_push (.inl (1)) 77, s_bin (fun x y => x + y) 78, s_lld L xs 79, s_ald 0 80, s_ild 4 81, s_push (.inl (2)) 82, s_bin (fun x y => x + y) 83, s_lld L xs 84, s_ald 3 85, s_none, s_ist 5 87, s_ald 2 88, s_ald 0 89, s_ild 4 90, s_push (.inl (1)) 91, s_bin (fun x y => x + y) 92, s_lld L xs 93, s_ald 0 94, s_ild 4 95, s_push (.inl (2)) 96, s_bin (fun x y => x + y) 97, s_lld L xs 98, s_callV 1 12 199 2 99, s_ist 6 100, s_ald 2 101, s_callV 1 12 168 0 102, s_ild 5 103, s_if2 (fun x y => eq32 x y) (fun _ _ => inferInstance) 106 104, s_push (.inl (0)) 105, s_zret, s_ild 5 107, s_if (fun x => ¬ eq32 x 0) (fun _ => inferInstance) 117 108, s_lout 6 117 115, s_push (.inl (0)) 110, s_none, s_ild 6 112, s_none, s_none, s_if (fun x => eq32 x 0) (fun _ => inferInstance) 117 115, s_push (.inl (0)) 116, s_zret, s_goto 828, s_ald 1 119, s_ald 0 120, s_ild 4 121, s_push (.inl (1)) 122, s_bin (fun x y => x + y) 123, s_lld L xs 124, s_ald 0 125, s_ild 4 126, s_push (.inl (2)) 127, s_bin (fun x y => x + y) 128, s_lld L xs 129, s_ald 3 130, s_none, s_ist 5 132, s_ald 2 133, s_ald 0 134, s_ild 4 135, s_push (.inl (1)) 136, s_bin (fun x y => x + y) 137, s_lld L xs 138, s_ald 0 139, s_ild 4 140, s_push (.inl (2)) 141, s_bin (fun x y => x + y) 142, s_lld L xs 143, s_callV 1 12 201 2 144, s_ist 6 145, s_ald 2 146, s_callV 1 12 168 0 147, s_ild 5 148, s_if2 (fun x y => eq32 x y) (fun _ _ => inferInstance) 151 149, s_push (.inl (0)) 150, s_zret, s_ild 5 152, s_if (fun x => ¬ eq32 x 0) (fun _ => inferInstance) 162 153, s_lout 6 162 160, s_push (.inl (0)) 155, s_none, s_ild 6 157, s_none, s_none, s_if (fun x => eq32 x 0) (fun _ => inferInstance) 162 160, s_push (.inl (0)) 161, s_zret, s_goto 828, s_ald 1 164, s_ald 0 165, s_ild 4 166, s_push (.inl (1)) 167, s_bin (fun x y => x + y) 168, s_lld L xs 169, s_callV 1 11 6 1 170, s_ald 2 171, s_ald 0 172, s_ild 4 173, s_push (.inl (1)) 174, s_bin (fun x y => x + y) 175, s_lld L xs 176, s_callV 1 12 202 1 177, s_if2 (fun x y => eq32 x y) (fun _ _ => inferInstance) 828 178, s_push (.inl (0)) 179, s_zret, s_ald 1 181, s_ald 0 182, s_ild 4 183, s_push (.inl (1)) 184, s_bin (fun x y => x + y) 185, s_lld L xs 186, s_ald 0 187, s_ild 4 188, s_push (.inl (2)) 189, s_bin (fun x y => x + y) 190, s_lld L xs 191, s_callV 1 11 7 2 192, s_ald 2 193, s_ald 0 194, s_ild 4 195, s_push (.inl (1)) 196, s_bin (fun x y => x + y) 197, s_lld L xs 198, s_ald 0 199, s_ild 4 200, s_push (.inl (2)) 201, s_bin (fun x y => x + y) 202, s_lld L xs 203, s_callV 1 12 203 2 204, s_if2 (fun x y => eq32 x y) (fun _ _ => inferInstance) 828 205, s_push (.inl (0)) 206, s_zret, s_ald 1 208, s_ald 0 209, s_ild 4 210, s_push (.inl (1)) 211, s_bin (fun x y => x + y) 212, s_lld L xs 213, s_ald 0 214, s_ild 4 215, s_push (.inl (2)) 216, s_bin (fun x y => x + y) 217, s_lld L xs 218, s_ald 0 219, s_ild 4 220, s_push (.inl (3)) 221, s_bin (fun x y => x + y) 222, s_lld L xs 223, s_callV 1 11 8 3 224, s_ald 2 225, s_ald 0 226, s_ild 4 227, s_push (.inl (1)) 228, s_bin (fun x y => x + y) 229, s_lld L xs 230, s_ald 0 231, s_ild 4 232, s_push (.inl (2)) 233, s_bin (fun x y => x + y) 234, s_lld L xs 235, s_ald 0 236, s_ild 4 237, s_push (.inl (3)) 238, s_bin (fun x y => x + y) 239, s_lld L xs 240, s_callV 1 12 204 3 241, s_if2 (fun x y => eq32 x y) (fun _ _ => inferInstance) 828 242, s_push (.inl (0)) 243, s_zret, s_ald 1 245, s_ald 0 246, s_ild 4 247, s_push (.inl (1)) 248, s_bin (fun x y => x + y) 249, s_lld L xs 250, s_callV 1 11 9 1 251, s_ald 2 252, s_ald 0 253, s_ild 4 254, s_push (.inl (1)) 255, s_bin (fun x y => x + y) 256, s_lld L xs 257, s_callV 1 12 205 1 258, s_if2 (fun x y => eq32 x y) (fun _ _ => inferInstance) 828 259, s_push (.inl (0)) 260, s_zret, s_ald 1 262, s_ald 0 263, s_ild 4 264, s_push (.inl (1)) 265, s_bin (fun x y => x + y) 266, s_lld L xs 267, s_ald 0 268, s_ild 4 269, s_push (.inl (2)) 270, s_bin (fun x y => x + y) 271, s_lld L xs 272, s_ald 0 273, s_ild 4 274, s_push (.inl (3)) 275, s_bin (fun x y => x + y) 276, s_lld L xs 277, s_ald 0 278, s_ild 4 279, s_push (.inl (4)) 280, s_bin (fun x y => x + y) 281, s_lld L xs 282, s_callV 1 11 10 4 283, s_ald 2 284, s_ald 0 285, s_ild 4 286, s_push (.inl (1)) 287, s_bin (fun x y => x + y) 288, s_lld L xs 289, s_ald 0 290, s_ild 4 291, s_push (.inl (2)) 292, s_bin (fun x y => x + y) 293, s_lld L xs 294, s_ald 0 295, s_ild 4 296, s_push (.inl (3)) 297, s_bin (fun x y => x + y) 298, s_lld L xs 299, s_ald 0 300, s_ild 4 301, s_push (.inl (4)) 302, s_bin (fun x y => x + y) 303, s_lld L xs 304, s_callV 1 12 206 4 305, s_if2 (fun x y => eq32 x y) (fun _ _ => inferInstance) 828 306, s_push (.inl (0)) 307, s_zret, s_ald 1 309, s_ald 0 310, s_ild 4 311, s_push (.inl (1)) 312, s_bin (fun x y => x + y) 313, s_lld L xs 314, s_ald 0 315, s_ild 4 316, s_push (.inl (2)) 317, s_bin (fun x y => x + y) 318, s_lld L xs 319, s_callV 1 11 11 2 320, s_ald 2 321, s_ald 0 322, s_ild 4 323, s_push (.inl (1)) 324, s_bin (fun x y => x + y) 325, s_lld L xs 326, s_ald 0 327, s_ild 4 328, s_push (.inl (2)) 329, s_bin (fun x y => x + y) 330, s_lld L xs 331, s_callV 1 12 216 2 332, s_if2 (fun x y => eq32 x y) (fun _ _ => inferInstance) 828 333, s_push (.inl (0)) 334, s_zret, s_ald 1 336, s_callV 1 11 12 0 337, s_ald 2 338, s_callV 1 12 218 0 339, s_if2 (fun x y => eq32 x y) (fun _ _ => inferInstance) 828 340, s_push (.inl (0)) 341, s_zret, s_ald 1 343, s_callV 1 11 13 0 344, s_ald 2 345, s_callV 1 12 219 0 346, s_if2 (fun x y => eq32 x y) (fun _ _ => inferInstance) 828 347, s_push (.inl (0)) 348, s_zret, s_ald 1 350, s_callV 1 11 14 0 351, s_ald 2 352, s_callV 1 12 220 0 353, s_if2 (fun x y => eq32 x y) (fun _ _ => inferInstance) 828 354, s_push (.inl (0)) 355, s_zret, s_ald 1 357, s_ald 0 358, s_ild 4 359, s_push (.inl (1)) 360, s_bin (fun x y => x + y) 361, s_lld L xs 362, s_ald 0 363, s_ild 4 364, s_push (.inl (2)) 365, s_bin (fun x y => x + y) 366, s_lld L xs 367, s_callV 1 11 15 2 368, s_ald 2 369, s_ald 0 370, s_ild 4 371, s_push (.inl (1)) 372, s_bin (fun x y => x + y) 373, s_lld L xs 374, s_ald 0 375, s_ild 4 376, s_push (.inl (2)) 377, s_bin (fun x y => x + y) 378, s_lld L xs 379, s_callV 1 12 221 2 380, s_if2 (fun x y => eq32 x y) (fun _ _ => inferInstance) 828 381, s_push (.inl (0)) 382, s_zret, s_ald 1 384, s_callV 1 11 16 0 385, s_ald 2 386, s_callV 1 12 222 0 387, s_if2 (fun x y => eq32 x y) (fun _ _ => inferInstance) 828 388, s_push (.inl (0)) 389, s_zret, s_ald 1 391, s_callV 1 11 17 0 392, s_ald 2 393, s_callV 1 12 224 0 394, s_if2 (fun x y => eq32 x y) (fun _ _ => inferInstance) 828 395, s_push (.inl (0)) 396, s_zret, s_ald 1 398, s_ald 0 399, s_ild 4 400, s_push (.inl (1)) 401, s_bin (fun x y => x + y) 402, s_lld L xs 403, s_callV 1 11 18 1 404, s_ald 2 405, s_ald 0 406, s_ild 4 407, s_push (.inl (1)) 408, s_bin (fun x y => x + y) 409, s_lld L xs 410, s_callV 1 12 225 1 411, s_if2 (fun x y => eq32 x y) (fun _ _ => inferInstance) 828 412, s_push (.inl (0)) 413, s_zret, s_ald 1 415, s_ald 0 416, s_ild 4 417, s_push (.inl (1)) 418, s_bin (fun x y => x + y) 419, s_lld L xs 420, s_callV 1 11 19 1 421, s_ald 2 422, s_ald 0 423, s_ild 4 424, s_push (.inl (1)) 425, s_bin (fun x y => x + y) 426, s_lld L xs 427, s_callV 1 12 226 1 428, s_if2 (fun x y => eq32 x y) (fun _ _ => inferInstance) 828 429, s_push (.inl (0)) 430, s_zret, s_ald 1 432, s_callV 1 11 20 0 433, s_ald 2 434, s_callV 1 12 227 0 435, s_if2 (fun x y => eq32 x y) (fun _ _ => inferInstance) 828 436, s_push (.inl (0)) 437, s_zret, s_ald 1 439, s_callV 1 11 21 0 440, s_ald 2 441, s_callV 1 12 234 0 442, s_if2 (fun x y => eq32 x y) (fun _ _ => inferInstance) 828 443, s_push (.inl (0)) 444, s_zret, s_ald 1 446, s_callV 1 11 22 0 447, s_ald 2 448, s_callV 1 12 235 0 449, s_if2 (fun x y => eq32 x y) (fun _ _ => inferInstance) 828 450, s_push (.inl (0)) 451, s_zret, s_ald 1 453, s_callV 1 11 23 0 454, s_ald 2 455, s_callV 1 12 236 0 456, s_if2 (fun x y => eq32 x y) (fun _ _ => inferInstance) 828 457, s_push (.inl (0)) 458, s_zret, s_ald 1 460, s_callV 1 11 24 0 461, s_ald 2 462, s_callV 1 12 238 0 463, s_if2 (fun x y => eq32 x y) (fun _ _ => inferInstance) 828 464, s_push (.inl (0)) 465, s_zret, s_ald 1 467, s_ald 0 468, s_ild 4 469, s_push (.inl (1)) 470, s_bin (fun x y => x + y) 471, s_lld L xs 472, s_ald 0 473, s_ild 4 474, s_push (.inl (2)) 475, s_bin (fun x y => x + y) 476, s_lld L xs 477, s_callV 1 11 25 2 478, s_ald 2 479, s_ald 0 480, s_ild 4 481, s_push (.inl (1)) 482, s_bin (fun x y => x + y) 483, s_lld L xs 484, s_ald 0 485, s_ild 4 486, s_push (.inl (2)) 487, s_bin (fun x y => x + y) 488, s_lld L xs 489, s_callV 1 12 239 2 490, s_if2 (fun x y => eq32 x y) (fun _ _ => inferInstance) 828 491, s_push (.inl (0)) 492, s_zret, s_ald 1 494, s_callV 1 11 26 0 495, s_ald 2 496, s_callV 1 12 240 0 497, s_if2 (fun x y => eq32 x y) (fun _ _ => inferInstance) 828 498, s_push (.inl (0)) 499, s_zret, s_ald 1 501, s_ald 0 502, s_ild 4 503, s_push (.inl (1)) 504, s_bin (fun x y => x + y) 505, s_lld L xs 506, s_ald 0 507, s_ild 4 508, s_push (.inl (2)) 509, s_bin (fun x y => x + y) 510, s_lld L xs 511, s_callV 1 11 27 2 512, s_ald 2 513, s_ald 0 514, s_ild 4 515, s_push (.inl (1)) 516, s_bin (fun x y => x + y) 517, s_lld L xs 518, s_ald 0 519, s_ild 4 520, s_push (.inl (2)) 521, s_bin (fun x y => x + y) 522, s_lld L xs 523, s_callV 1 12 241 2 524, s_if2 (fun x y => eq32 x y) (fun _ _ => inferInstance) 828 525, s_push (.inl (0)) 526, s_zret, s_ald 1 528, s_ald 0 529, s_ild 4 530, s_push (.inl (1)) 531, s_bin (fun x y => x + y) 532, s_lld L xs 533, s_callV 1 11 28 1 534, s_ald 2 535, s_ald 0 536, s_ild 4 537, s_push (.inl (1)) 538, s_bin (fun x y => x + y) 539, s_lld L xs 540, s_callV 1 12 242 1 541, s_if2 (fun x y => eq32 x y) (fun _ _ => inferInstance) 828 542, s_push (.inl (0)) 543, s_zret, s_ald 1 545, s_ald 0 546, s_ild 4 547, s_push (.inl (1)) 548, s_bin (fun x y => x + y) 549, s_lld L xs 550, s_ald 0 551, s_ild 4 552, s_push (.inl (2)) 553, s_bin (fun x y => x + y) 554, s_lld L xs 555, s_callV 1 11 29 2 556, s_ald 2 557, s_ald 0 558, s_ild 4 559, s_push (.inl (1)) 560, s_bin (fun x y => x + y) 561, s_lld L xs 562, s_ald 0 563, s_ild 4 564, s_push (.inl (2)) 565, s_bin (fun x y => x + y) 566, s_lld L xs 567, s_callV 1 12 243 2 568, s_if2 (fun x y => eq32 x y) (fun _ _ => inferInstance) 828 569, s_push (.inl (0)) 570, s_zret, s_ald 1 572, s_ald 0 573, s_ild 4 574, s_push (.inl (1)) 575, s_bin (fun x y => x + y) 576, s_lld L xs 577, s_callV 1 11 30 1 578, s_ald 2 579, s_ald 0 580, s_ild 4 581, s_push (.inl (1)) 582, s_bin (fun x y => x + y) 583, s_lld L xs 584, s_callV 1 12 244 1 585, s_if2 (fun x y => eq32 x y) (fun _ _ => inferInstance) 828 586, s_push (.inl (0)) 587, s_zret, s_ald 1 589, s_ald 0 590, s_ild 4 591, s_push (.inl (1)) 592, s_bin (fun x y => x + y) 593, s_lld L xs 594, s_ald 0 595, s_ild 4 596, s_push (.inl (2)) 597, s_bin (fun x y => x + y) 598, s_lld L xs 599, s_callV 1 11 31 2 600, s_ald 2 601, s_ald 0 602, s_ild 4 603, s_push (.inl (1)) 604, s_bin (fun x y => x + y) 605, s_lld L xs 606, s_ald 0 607, s_ild 4 608, s_push (.inl (2)) 609, s_bin (fun x y => x + y) 610, s_lld L xs 611, s_callV 1 12 245 2 612, s_if2 (fun x y => eq32 x y) (fun _ _ => inferInstance) 828 613, s_push (.inl (0)) 614, s_zret, s_ald 1 616, s_callV 1 11 32 0 617, s_ald 2 618, s_callV 1 12 246 0 619, s_if2 (fun x y => eq32 x y) (fun _ _ => inferInstance) 828 620, s_push (.inl (0)) 621, s_zret, s_ald 1 623, s_callV 1 11 33 0 624, s_ald 2 625, s_callV 1 12 248 0 626, s_if2 (fun x y => eq32 x y) (fun _ _ => inferInstance) 828 627, s_push (.inl (0)) 628, s_zret, s_ald 1 630, s_ald 0 631, s_ild 4 632, s_push (.inl (1)) 633, s_bin (fun x y => x + y) 634, s_lld L xs 635, s_ald 0 636, s_ild 4 637, s_push (.inl (2)) 638, s_bin (fun x y => x + y) 639, s_lld L xs 640, s_callV 1 11 34 2 641, s_ald 2 642, s_ald 0 643, s_ild 4 644, s_push (.inl (1)) 645, s_bin (fun x y => x + y) 646, s_lld L xs 647, s_ald 0 648, s_ild 4 649, s_push (.inl (2)) 650, s_bin (fun x y => x + y) 651, s_lld L xs 652, s_callV 1 12 250 2 653, s_if2 (fun x y => eq32 x y) (fun _ _ => inferInstance) 828 654, s_push (.inl (0)) 655, s_zret, s_ald 1 657, s_ald 0 658, s_ild 4 659, s_push (.inl (1)) 660, s_bin (fun x y => x + y) 661, s_lld L xs 662, s_ald 0 663, s_ild 4 664, s_push (.inl (2)) 665, s_bin (fun x y => x + y) 666, s_lld L xs 667, s_callV 1 11 35 2 668, s_ald 2 669, s_ald 0 670, s_ild 4 671, s_push (.inl (1)) 672, s_bin (fun x y => x + y) 673, s_lld L xs 674, s_ald 0 675, s_ild 4 676, s_push (.inl (2)) 677, s_bin (fun x y => x + y) 678, s_lld L xs 679, s_callV 1 12 251 2 680, s_if2 (fun x y => eq32 x y) (fun _ _ => inferInstance) 828 681, s_push (.inl (0)) 682, s_zret, s_ald 1 684, s_callV 1 11 36 0 685, s_ald 2 686, s_callV 1 12 252 0 687, s_if2 (fun x y => eq32 x y) (fun _ _ => inferInstance) 828 688, s_push (.inl (0)) 689, s_zret, s_ald 1 691, s_ald 0 692, s_ild 4 693, s_push (.inl (1)) 694, s_bin (fun x y => x + y) 695, s_lld L xs 696, s_callV 1 11 37 1 697, s_ald 2 698, s_ald 0 699, s_ild 4 700, s_push (.inl (1)) 701, s_bin (fun x y => x + y) 702, s_lld L xs 703, s_callV 1 12 254 1 704, s_if2 (fun x y => eq32 x y) (fun _ _ => inferInstance) 828 705, s_push (.inl (0)) 706, s_zret, s_ald 1 708, s_callV 1 11 38 0 709, s_ald 2 710, s_callV 1 12 255 0 711, s_if2 (fun x y => eq32 x y) (fun _ _ => inferInstance) 828 712, s_push (.inl (0)) 713, s_zret, s_ald 1 715, s_callV 1 11 39 0 716, s_ald 2 717, s_callV 1 12 257 0 718, s_if2 (fun x y => eq32 x y) (fun _ _ => inferInstance) 828 719, s_push (.inl (0)) 720, s_zret, s_ald 1 722, s_callV 1 11 40 0 723, s_ald 2 724, s_callV 1 12 259 0 725, s_if2 (fun x y => eq32 x y) (fun _ _ => inferInstance) 828 726, s_push (.inl (0)) 727, s_zret, s_ald 1 729, s_callV 1 11 41 0 730, s_ald 2 731, s_callV 1 12 263 0 732, s_if2 (fun x y => eq32 x y) (fun _ _ => inferInstance) 828 733, s_push (.inl (0)) 734, s_zret, s_ald 1 736, s_callV 1 11 42 0 737, s_ald 2 738, s_callV 1 12 264 0 739, s_if2 (fun x y => eq32 x y) (fun _ _ => inferInstance) 828 740, s_push (.inl (0)) 741, s_zret, s_ald 1 743, s_ald 0 744, s_ild 4 745, s_push (.inl (1)) 746, s_bin (fun x y => x + y) 747, s_lld L xs 748, s_callV 1 11 43 1 749, s_ald 2 750, s_ald 0 751, s_ild 4 752, s_push (.inl (1)) 753, s_bin (fun x y => x + y) 754, s_lld L xs 755, s_callV 1 12 266 1 756, s_if2 (fun x y => eq32 x y) (fun _ _ => inferInstance) 828 757, s_push (.inl (0)) 758, s_zret, s_ald 1 760, s_ald 0 761, s_ild 4 762, s_push (.inl (1)) 763, s_bin (fun x y => x + y) 764, s_lld L xs 765, s_callV 1 11 44 1 766, s_ald 2 767, s_ald 0 768, s_ild 4 769, s_push (.inl (1)) 770, s_bin (fun x y => x + y) 771, s_lld L xs 772, s_callV 1 12 267 1 773, s_if2 (fun x y => eq32 x y) (fun _ _ => inferInstance) 828 774, s_push (.inl (0)) 775, s_zret, s_ald 1 777, s_ald 0 778, s_ild 4 779, s_push (.inl (1)) 780, s_bin (fun x y => x + y) 781, s_lld L xs 782, s_callV 1 11 45 1 783, s_ald 2 784, s_ald 0 785, s_ild 4 786, s_push (.inl (1)) 787, s_bin (fun x y => x + y) 788, s_lld L xs 789, s_callV 1 12 268 1 790, s_if2 (fun x y => eq32 x y) (fun _ _ => inferInstance) 828 791, s_push (.inl (0)) 792, s_zret, s_ald 1 794, s_ald 0 795, s_ild 4 796, s_push (.inl (1)) 797, s_bin (fun x y => x + y) 798, s_lld L xs 799, s_ald 3 800, s_none, s_ist 5 802, s_ald 2 803, s_ald 0 804, s_ild 4 805, s_push (.inl (1)) 806, s_bin (fun x y => x + y) 807, s_lld L xs 808, s_callV 1 12 269 1 809, s_ist 6 810, s_ald 2 811, s_callV 1 12 168 0 812, s_ild 5 813, s_if2 (fun x y => eq32 x y) (fun _ _ => inferInstance) 816 814, s_push (.inl (0)) 815, s_zret, s_ild 5 817, s_if (fun x => ¬ eq32 x 0) (fun _ => inferInstance) 827 818, s_lout 6 827 825, s_push (.inl (0)) 820, s_none, s_ild 6 822, s_none, s_none, s_if (fun x => eq32 x 0) (fun _ => inferInstance) 827 825, s_push (.inl (0)) 826, s_zret, s_goto 828, s_inc 4 (5) 829, s_goto 13, s_push (.inl (1)) 831, s_zret]
def lawc (L : Nat) (xs : Nat → Int32) (i : Nat) : pS := (lawp L xs).getD i s_none
def lawPC : List Nat := [0, 3, 4, 7, 8, 11, 12, 15, 16, 17, 19, 20, 21, 23, 25, 26, 27, 28, 29, 32, 33, 35, 36, 38, 39, 240, 241, 242, 244, 245, 246, 247, 250, 251, 252, 254, 255, 256, 257, 260, 263, 264, 265, 266, 267, 269, 270, 271, 272, 275, 276, 277, 279, 280, 281, 282, 285, 288, 289, 290, 291, 294, 295, 298, 301, 302, 303, 304, 307, 308, 311, 314, 315, 316, 317, 318, 320, 321, 322, 323, 324, 326, 327, 328, 329, 330, 333, 335, 336, 337, 339, 340, 341, 342, 343, 345, 346, 347, 348, 351, 353, 354, 357, 359, 362, 363, 364, 366, 369, 370, 371, 372, 374, 375, 376, 379, 380, 381, 384, 385, 386, 388, 389, 390, 391, 392, 394, 395, 396, 397, 398, 401, 403, 404, 405, 407, 408, 409, 410, 411, 413, 414, 415, 416, 419, 421, 422, 425, 427, 430, 431, 432, 434, 437, 438, 439, 440, 442, 443, 444, 447, 448, 449, 452, 453, 454, 456, 457, 458, 459, 462, 463, 464, 466, 467, 468, 469, 472, 475, 476, 477, 478, 479, 481, 482, 483, 484, 485, 487, 488, 489, 490, 493, 494, 495, 497, 498, 499, 500, 501, 503, 504, 505, 506, 509, 512, 513, 514, 515, 516, 518, 519, 520, 521, 522, 524, 525, 526, 527, 528, 530, 531, 532, 533, 536, 537, 538, 540, 541, 542, 543, 544, 546, 547, 548, 549, 550, 552, 553, 554, 555, 558, 561, 562, 563, 564, 565, 567, 568, 569, 570, 573, 574, 575, 577, 578, 579, 580, 583, 586, 587, 588, 589, 590, 592, 593, 594, 595, 596, 598, 599, 600, 601, 602, 604, 605, 606, 607, 608, 610, 611, 612, 613, 616, 617, 618, 620, 621, 622, 623, 624, 626, 627, 628, 629, 630, 632, 633, 634, 635, 636, 638, 639, 640, 641, 644, 647, 648, 649, 650, 651, 653, 654, 655, 656, 657, 659, 660, 661, 662, 665, 666, 667, 669, 670, 671, 672, 673, 675, 676, 677, 678, 681, 684, 685, 686, 687, 690, 691, 694, 697, 698, 699, 700, 703, 704, 707, 710, 711, 712, 713, 716, 717, 720, 723, 724, 725, 726, 727, 729, 730, 731, 732, 733, 735, 736, 737, 738, 741, 742, 743, 745, 746, 747, 748, 749, 751, 752, 753, 754, 757, 760, 761, 762, 763, 766, 767, 770, 773, 774, 775, 776, 779, 780, 783, 786, 787, 788, 789, 790, 792, 793, 794, 795, 798, 799, 800, 802, 803, 804, 805, 808, 811, 812, 813, 814, 815, 817, 818, 819, 820, 823, 824, 825, 827, 828, 829, 830, 833, 836, 837, 838, 839, 842, 843, 846, 849, 850, 851, 852, 855, 856, 859, 862, 863, 864, 865, 868, 869, 872, 875, 876, 877, 878, 881, 882, 885, 888, 889, 890, 891, 894, 895, 898, 901, 902, 903, 904, 905, 907, 908, 909, 910, 911, 913, 914, 915, 916, 919, 920, 921, 923, 924, 925, 926, 927, 929, 930, 931, 932, 935, 938, 939, 940, 941, 944, 945, 948, 951, 952, 953, 954, 955, 957, 958, 959, 960, 961, 963, 964, 965, 966, 969, 970, 971, 973, 974, 975, 976, 977, 979, 980, 981, 982, 985, 988, 989, 990, 991, 992, 994, 995, 996, 997, 1000, 1001, 1002, 1004, 1005, 1006, 1007, 1010, 1013, 1014, 1015, 1016, 1017, 1019, 1020, 1021, 1022, 1023, 1025, 1026, 1027, 1028, 1031, 1032, 1033, 1035, 1036, 1037, 1038, 1039, 1041, 1042, 1043, 1044, 1047, 1050, 1051, 1052, 1053, 1054, 1056, 1057, 1058, 1059, 1062, 1063, 1064, 1066, 1067, 1068, 1069, 1072, 1075, 1076, 1077, 1078, 1079, 1081, 1082, 1083, 1084, 1085, 1087, 1088, 1089, 1090, 1093, 1094, 1095, 1097, 1098, 1099, 1100, 1101, 1103, 1104, 1105, 1106, 1109, 1112, 1113, 1114, 1115, 1118, 1119, 1122, 1125, 1126, 1127, 1128, 1131, 1132, 1135, 1138, 1139, 1140, 1141, 1142, 1144, 1145, 1146, 1147, 1148, 1150, 1151, 1152, 1153, 1156, 1157, 1158, 1160, 1161, 1162, 1163, 1164, 1166, 1167, 1168, 1169, 1172, 1175, 1176, 1177, 1178, 1179, 1181, 1182, 1183, 1184, 1185, 1187, 1188, 1189, 1190, 1193, 1194, 1195, 1197, 1198, 1199, 1200, 1201, 1203, 1204, 1205, 1206, 1209, 1212, 1213, 1214, 1215, 1218, 1219, 1222, 1225, 1226, 1227, 1228, 1229, 1231, 1232, 1233, 1234, 1237, 1238, 1239, 1241, 1242, 1243, 1244, 1247, 1250, 1251, 1252, 1253, 1256, 1257, 1260, 1263, 1264, 1265, 1266, 1269, 1270, 1273, 1276, 1277, 1278, 1279, 1282, 1283, 1286, 1289, 1290, 1291, 1292, 1295, 1296, 1299, 1302, 1303, 1304, 1305, 1308, 1309, 1312, 1315, 1316, 1317, 1318, 1319, 1321, 1322, 1323, 1324, 1327, 1328, 1329, 1331, 1332, 1333, 1334, 1337, 1340, 1341, 1342, 1343, 1344, 1346, 1347, 1348, 1349, 1352, 1353, 1354, 1356, 1357, 1358, 1359, 1362, 1365, 1366, 1367, 1368, 1369, 1371, 1372, 1373, 1374, 1377, 1378, 1379, 1381, 1382, 1383, 1384, 1387, 1390, 1391, 1392, 1393, 1394, 1396, 1397, 1398, 1399, 1400, 1403, 1405, 1406, 1407, 1409, 1410, 1411, 1412, 1415, 1417, 1418, 1421, 1423, 1426, 1427, 1428, 1430, 1433, 1434, 1435, 1436, 1438, 1439, 1440, 1443, 1444, 1445, 1448, 1451, 1454, 1455]
abbrev lawpc (i : Nat) : Nat := lawPC.getD i 0
def pAllL (L : Nat) (xs : Nat → Int32) : Nat → List pS → Prop := pAll fun i f => pSndL L xs pyn pwk RL code 7 ret lawpc (lawpc i) f
def lawp_0 (L : Nat) (xs : Nat → Int32) : List pS := [s_none, s_dup 2, s_none, s_ast 1 4, s_none, s_dup 6, s_none, s_ast 2 8, s_push (.inl (1)) 9, s_none, s_ast 3 11, s_push (.inl (0)) 12, s_ist 4 13, s_ild 4 14, s_ald 0 15, s_lln L 16, s_push (.inl (5)) 17, s_bin (fun x y => x - y) 18, s_if2 (fun x y => lt32 y x) (fun _ _ => inferInstance) 830 19, s_ald 0 20, s_ild 4 21, s_lld L xs 22, s_push (.inl (63)) 23, s_bin jand 24, s_sw [(0, 25), (1, 42), (2, 59), (3, 66), (4, 73), (5, 118), (6, 163), (7, 180), (8, 207), (9, 244), (10, 261), (11, 308), (12, 335), (13, 342), (14, 349), (15, 356), (16, 383), (17, 390), (18, 397), (19, 414), (20, 431), (21, 438), (22, 445), (23, 452), (24, 459), (25, 466), (26, 493), (27, 500), (28, 527), (29, 544), (30, 571), (31, 588), (32, 615), (33, 622), (34, 629), (35, 656), (36, 683), (37, 690), (38, 707), (39, 714), (40, 721), (41, 728), (42, 735), (43, 742), (44, 759), (45, 776), (46, 793)] 828, s_ald 1 26, s_ald 0 27, s_ild 4 28, s_push (.inl (1)) 29, s_bin (fun x y => x + y) 30, s_lld L xs 31, s_callV 1 11 0 1 32, s_ald 2 33, s_ald 0 34, s_ild 4 35, s_push (.inl (1)) 36, s_bin (fun x y => x + y) 37, s_lld L xs 38, s_callV 1 12 175 1 39, s_if2 (fun x y => eq32 x y) (fun _ _ => inferInstance) 828 40]
set_option maxRecDepth 100000 in
set_option maxHeartbeats 4000000 in
theorem SL_0 (L : Nat) (xs : Nat → Int32) : pAllL L xs 0 (lawp_0 L xs) := by
  refine ⟨slw (sn_none), ?_⟩
  refine ⟨slw (sn_dup (by decide +kernel) rfl), ?_⟩
  refine ⟨slw (sn_none), ?_⟩
  refine ⟨slw (sn_astore_n (k := 1) (by decide +kernel) rfl (by decide) rfl), ?_⟩
  refine ⟨slw (sn_none), ?_⟩
  refine ⟨slw (sn_dup (by decide +kernel) rfl), ?_⟩
  refine ⟨slw (sn_none), ?_⟩
  refine ⟨slw (sn_astore_n (k := 2) (by decide +kernel) rfl (by decide) rfl), ?_⟩
  refine ⟨slw (sn_iconst (by decide +kernel) rfl), ?_⟩
  refine ⟨slw (sn_none), ?_⟩
  refine ⟨slw (sn_astore_n (k := 3) (by decide +kernel) rfl (by decide) rfl), ?_⟩
  refine ⟨slw (sn_iconst (by decide +kernel) rfl), ?_⟩
  refine ⟨slw (sn_istore (by decide +kernel) (by decide) rfl), ?_⟩
  refine ⟨slw (sn_iload (by decide +kernel) rfl), ?_⟩
  refine ⟨slw (sn_aload_n (k := 0) (by decide +kernel) rfl rfl), ?_⟩
  refine ⟨sl_len (by decide +kernel) rfl, ?_⟩
  refine ⟨slw (sn_iconst (by decide +kernel) rfl), ?_⟩
  refine ⟨slw (sn_isub (by decide +kernel) rfl), ?_⟩
  refine ⟨slw (sn_icmp_gt (off := 1425) (by decide +kernel) (by decide +kernel) rfl), ?_⟩
  refine ⟨slw (sn_aload_n (k := 0) (by decide +kernel) rfl rfl), ?_⟩
  refine ⟨slw (sn_iload (by decide +kernel) rfl), ?_⟩
  refine ⟨sl_ild (by decide +kernel) rfl, ?_⟩
  refine ⟨slw (sn_bipush (by decide +kernel) (by decide +kernel) rfl), ?_⟩
  refine ⟨slw (sn_iand (by decide +kernel) rfl), ?_⟩
  refine ⟨slw (sn_sw (dflt := 1409) (lo := 0) (hi := 46) (offs := #[201, 226, 251, 264, 277, 345, 413, 438, 475, 524, 549, 610, 647, 660, 673, 686, 723, 736, 749, 774, 799, 812, 825, 838, 851, 864, 901, 914, 951, 976, 1013, 1038, 1075, 1088, 1101, 1138, 1175, 1188, 1213, 1226, 1239, 1252, 1265, 1278, 1303, 1328, 1353]) (len := 201) (by decide +kernel) (by decide) (by decide +kernel) (p_sw_all (by decide +kernel)) (by decide +kernel)), ?_⟩
  refine ⟨slw (sn_aload_n (k := 1) (by decide +kernel) rfl rfl), ?_⟩
  refine ⟨slw (sn_aload_n (k := 0) (by decide +kernel) rfl rfl), ?_⟩
  refine ⟨slw (sn_iload (by decide +kernel) rfl), ?_⟩
  refine ⟨slw (sn_iconst (by decide +kernel) rfl), ?_⟩
  refine ⟨slw (sn_iadd (by decide +kernel) rfl), ?_⟩
  refine ⟨sl_ild (by decide +kernel) rfl, ?_⟩
  refine ⟨slw (sn_callV (idx := 26) (C := RX11) (T := TX11) (N := 18) rfl (by decide) cal_0 (pmt2 175 rfl rfl) (pmt2 176 rfl rfl) (pmt2 177 rfl rfl) (by decide +kernel) rfl), ?_⟩
  refine ⟨slw (sn_aload_n (k := 2) (by decide +kernel) rfl rfl), ?_⟩
  refine ⟨slw (sn_aload_n (k := 0) (by decide +kernel) rfl rfl), ?_⟩
  refine ⟨slw (sn_iload (by decide +kernel) rfl), ?_⟩
  refine ⟨slw (sn_iconst (by decide +kernel) rfl), ?_⟩
  refine ⟨slw (sn_iadd (by decide +kernel) rfl), ?_⟩
  refine ⟨sl_ild (by decide +kernel) rfl, ?_⟩
  refine ⟨slw (sn_callV (idx := 29) (C := RX12) (T := TX12) (N := 56) rfl (by decide) cal_175 (pmt7 73 rfl rfl) (pmt7 74 rfl rfl) (pmt7 75 rfl rfl) (by decide +kernel) rfl), ?_⟩
  refine ⟨slw (sn_icmp_eq (off := 1188) (by decide +kernel) (by decide +kernel) rfl), ?_⟩
  trivial
def lawp_1 (L : Nat) (xs : Nat → Int32) : List pS := [s_push (.inl (0)) 41, s_zret, s_ald 1 43, s_ald 0 44, s_ild 4 45, s_push (.inl (1)) 46, s_bin (fun x y => x + y) 47, s_lld L xs 48, s_callV 1 11 1 1 49, s_ald 2 50, s_ald 0 51, s_ild 4 52, s_push (.inl (1)) 53, s_bin (fun x y => x + y) 54, s_lld L xs 55, s_callV 1 12 176 1 56, s_if2 (fun x y => eq32 x y) (fun _ _ => inferInstance) 828 57, s_push (.inl (0)) 58, s_zret, s_ald 1 60, s_callV 1 11 2 0 61, s_ald 2 62, s_callV 1 12 184 0 63, s_if2 (fun x y => eq32 x y) (fun _ _ => inferInstance) 828 64, s_push (.inl (0)) 65, s_zret, s_ald 1 67, s_callV 1 11 3 0 68, s_ald 2 69, s_callV 1 12 193 0 70, s_if2 (fun x y => eq32 x y) (fun _ _ => inferInstance) 828 71, s_push (.inl (0)) 72, s_zret, s_ald 1 74, s_ald 0 75, s_ild 4 76, s_push (.inl (1)) 77, s_bin (fun x y => x + y) 78, s_lld L xs 79, s_ald 0 80]
set_option maxRecDepth 100000 in
set_option maxHeartbeats 4000000 in
theorem SL_1 (L : Nat) (xs : Nat → Int32) : pAllL L xs 40 (lawp_1 L xs) := by
  refine ⟨slw (sn_iconst (by decide +kernel) rfl), ?_⟩
  refine ⟨slw (sn_zret (Or.inl rfl) (by decide +kernel)), ?_⟩
  refine ⟨slw (sn_aload_n (k := 1) (by decide +kernel) rfl rfl), ?_⟩
  refine ⟨slw (sn_aload_n (k := 0) (by decide +kernel) rfl rfl), ?_⟩
  refine ⟨slw (sn_iload (by decide +kernel) rfl), ?_⟩
  refine ⟨slw (sn_iconst (by decide +kernel) rfl), ?_⟩
  refine ⟨slw (sn_iadd (by decide +kernel) rfl), ?_⟩
  refine ⟨sl_ild (by decide +kernel) rfl, ?_⟩
  refine ⟨slw (sn_callV (idx := 30) (C := RX11) (T := TX11) (N := 18) rfl (by decide) cal_1 (pmt2 183 rfl rfl) (pmt2 184 rfl rfl) (pmt2 185 rfl rfl) (by decide +kernel) rfl), ?_⟩
  refine ⟨slw (sn_aload_n (k := 2) (by decide +kernel) rfl rfl), ?_⟩
  refine ⟨slw (sn_aload_n (k := 0) (by decide +kernel) rfl rfl), ?_⟩
  refine ⟨slw (sn_iload (by decide +kernel) rfl), ?_⟩
  refine ⟨slw (sn_iconst (by decide +kernel) rfl), ?_⟩
  refine ⟨slw (sn_iadd (by decide +kernel) rfl), ?_⟩
  refine ⟨sl_ild (by decide +kernel) rfl, ?_⟩
  refine ⟨slw (sn_callV (idx := 34) (C := RX12) (T := TX12) (N := 56) rfl (by decide) cal_176 (pmt7 77 rfl rfl) (pmt7 78 rfl rfl) (pmt7 79 rfl rfl) (by decide +kernel) rfl), ?_⟩
  refine ⟨slw (sn_icmp_eq (off := 1163) (by decide +kernel) (by decide +kernel) rfl), ?_⟩
  refine ⟨slw (sn_iconst (by decide +kernel) rfl), ?_⟩
  refine ⟨slw (sn_zret (Or.inl rfl) (by decide +kernel)), ?_⟩
  refine ⟨slw (sn_aload_n (k := 1) (by decide +kernel) rfl rfl), ?_⟩
  refine ⟨slw (sn_callV (idx := 35) (C := RX11) (T := TX11) (N := 18) rfl (by decide) cal_2 (pmt2 191 rfl rfl) (pmt2 192 rfl rfl) (pmt2 193 rfl rfl) (by decide +kernel) rfl), ?_⟩
  refine ⟨slw (sn_aload_n (k := 2) (by decide +kernel) rfl rfl), ?_⟩
  refine ⟨slw (sn_callV (idx := 39) (C := RX12) (T := TX12) (N := 56) rfl (by decide) cal_184 (pmt7 84 rfl rfl) (pmt7 85 rfl rfl) (pmt7 86 rfl rfl) (by decide +kernel) rfl), ?_⟩
  refine ⟨slw (sn_icmp_eq (off := 1150) (by decide +kernel) (by decide +kernel) rfl), ?_⟩
  refine ⟨slw (sn_iconst (by decide +kernel) rfl), ?_⟩
  refine ⟨slw (sn_zret (Or.inl rfl) (by decide +kernel)), ?_⟩
  refine ⟨slw (sn_aload_n (k := 1) (by decide +kernel) rfl rfl), ?_⟩
  refine ⟨slw (sn_callV (idx := 40) (C := RX11) (T := TX11) (N := 18) rfl (by decide) cal_3 (pmt3 84 rfl rfl) (pmt3 85 rfl rfl) (pmt3 86 rfl rfl) (by decide +kernel) rfl), ?_⟩
  refine ⟨slw (sn_aload_n (k := 2) (by decide +kernel) rfl rfl), ?_⟩
  refine ⟨slw (sn_callV (idx := 43) (C := RX12) (T := TX12) (N := 56) rfl (by decide) cal_193 (pmt7 128 rfl rfl) (pmt7 129 rfl rfl) (pmt7 130 rfl rfl) (by decide +kernel) rfl), ?_⟩
  refine ⟨slw (sn_icmp_eq (off := 1137) (by decide +kernel) (by decide +kernel) rfl), ?_⟩
  refine ⟨slw (sn_iconst (by decide +kernel) rfl), ?_⟩
  refine ⟨slw (sn_zret (Or.inl rfl) (by decide +kernel)), ?_⟩
  refine ⟨slw (sn_aload_n (k := 1) (by decide +kernel) rfl rfl), ?_⟩
  refine ⟨slw (sn_aload_n (k := 0) (by decide +kernel) rfl rfl), ?_⟩
  refine ⟨slw (sn_iload (by decide +kernel) rfl), ?_⟩
  refine ⟨slw (sn_iconst (by decide +kernel) rfl), ?_⟩
  refine ⟨slw (sn_iadd (by decide +kernel) rfl), ?_⟩
  refine ⟨sl_ild (by decide +kernel) rfl, ?_⟩
  refine ⟨slw (sn_aload_n (k := 0) (by decide +kernel) rfl rfl), ?_⟩
  trivial
def lawp_2 (L : Nat) (xs : Nat → Int32) : List pS := [s_ild 4 81, s_push (.inl (2)) 82, s_bin (fun x y => x + y) 83, s_lld L xs 84, s_ald 3 85, s_none, s_ist 5 87, s_ald 2 88, s_ald 0 89, s_ild 4 90, s_push (.inl (1)) 91, s_bin (fun x y => x + y) 92, s_lld L xs 93, s_ald 0 94, s_ild 4 95, s_push (.inl (2)) 96, s_bin (fun x y => x + y) 97, s_lld L xs 98, s_callV 1 12 199 2 99, s_ist 6 100, s_ald 2 101, s_callV 1 12 168 0 102, s_ild 5 103, s_if2 (fun x y => eq32 x y) (fun _ _ => inferInstance) 106 104, s_push (.inl (0)) 105, s_zret, s_ild 5 107, s_if (fun x => ¬ eq32 x 0) (fun _ => inferInstance) 117 108, s_lout 6 117 115, s_push (.inl (0)) 110, s_none, s_ild 6 112, s_none, s_none, s_if (fun x => eq32 x 0) (fun _ => inferInstance) 117 115, s_push (.inl (0)) 116, s_zret, s_goto 828, s_ald 1 119, s_ald 0 120]
set_option maxRecDepth 100000 in
set_option maxHeartbeats 4000000 in
theorem SL_2 (L : Nat) (xs : Nat → Int32) : pAllL L xs 80 (lawp_2 L xs) := by
  refine ⟨slw (sn_iload (by decide +kernel) rfl), ?_⟩
  refine ⟨slw (sn_iconst (by decide +kernel) rfl), ?_⟩
  refine ⟨slw (sn_iadd (by decide +kernel) rfl), ?_⟩
  refine ⟨sl_ild (by decide +kernel) rfl, ?_⟩
  refine ⟨slw (sn_aload_n (k := 3) (by decide +kernel) rfl rfl), ?_⟩
  refine ⟨slw (sn_none), ?_⟩
  refine ⟨slw (sn_istore (by decide +kernel) (by decide) rfl), ?_⟩
  refine ⟨slw (sn_aload_n (k := 2) (by decide +kernel) rfl rfl), ?_⟩
  refine ⟨slw (sn_aload_n (k := 0) (by decide +kernel) rfl rfl), ?_⟩
  refine ⟨slw (sn_iload (by decide +kernel) rfl), ?_⟩
  refine ⟨slw (sn_iconst (by decide +kernel) rfl), ?_⟩
  refine ⟨slw (sn_iadd (by decide +kernel) rfl), ?_⟩
  refine ⟨sl_ild (by decide +kernel) rfl, ?_⟩
  refine ⟨slw (sn_aload_n (k := 0) (by decide +kernel) rfl rfl), ?_⟩
  refine ⟨slw (sn_iload (by decide +kernel) rfl), ?_⟩
  refine ⟨slw (sn_iconst (by decide +kernel) rfl), ?_⟩
  refine ⟨slw (sn_iadd (by decide +kernel) rfl), ?_⟩
  refine ⟨sl_ild (by decide +kernel) rfl, ?_⟩
  refine ⟨slw (sn_callV (idx := 49) (C := RX12) (T := TX12) (N := 56) rfl (by decide) cal_199 (pmt7 164 rfl rfl) (pmt7 165 rfl rfl) (pmt7 166 rfl rfl) (by decide +kernel) rfl), ?_⟩
  refine ⟨slw (sn_istore (by decide +kernel) (by decide) rfl), ?_⟩
  refine ⟨slw (sn_aload_n (k := 2) (by decide +kernel) rfl rfl), ?_⟩
  refine ⟨slw (sn_callV (idx := 50) (C := RX12) (T := TX12) (N := 56) rfl (by decide) cal_168 (pmt7 69 rfl rfl) (pmt7 70 rfl rfl) (pmt7 71 rfl rfl) (by decide +kernel) rfl), ?_⟩
  refine ⟨slw (sn_iload (by decide +kernel) rfl), ?_⟩
  refine ⟨slw (sn_icmp_eq (off := 5) (by decide +kernel) (by decide +kernel) rfl), ?_⟩
  refine ⟨slw (sn_iconst (by decide +kernel) rfl), ?_⟩
  refine ⟨slw (sn_zret (Or.inl rfl) (by decide +kernel)), ?_⟩
  refine ⟨slw (sn_iload (by decide +kernel) rfl), ?_⟩
  refine ⟨slw (sn_if_ne (off := 15) (by decide +kernel) (by decide +kernel) rfl), ?_⟩
  refine ⟨sl_out (off := 5) (by decide +kernel) (by decide +kernel) (by decide +kernel) (by decide +kernel) (by decide +kernel) (by decide +kernel) (by decide +kernel) (by decide +kernel) rfl, ?_⟩
  refine ⟨slw (sn_iconst (by decide +kernel) rfl), ?_⟩
  refine ⟨slw (sn_none), ?_⟩
  refine ⟨slw (sn_iload (by decide +kernel) rfl), ?_⟩
  refine ⟨slw (sn_none), ?_⟩
  refine ⟨slw (sn_none), ?_⟩
  refine ⟨slw (sn_if_eq (off := 5) (by decide +kernel) (by decide +kernel) rfl), ?_⟩
  refine ⟨slw (sn_iconst (by decide +kernel) rfl), ?_⟩
  refine ⟨slw (sn_zret (Or.inl rfl) (by decide +kernel)), ?_⟩
  refine ⟨slw (sn_goto (off := 1067) (by decide +kernel) (by decide +kernel)), ?_⟩
  refine ⟨slw (sn_aload_n (k := 1) (by decide +kernel) rfl rfl), ?_⟩
  refine ⟨slw (sn_aload_n (k := 0) (by decide +kernel) rfl rfl), ?_⟩
  trivial
def lawp_3 (L : Nat) (xs : Nat → Int32) : List pS := [s_ild 4 121, s_push (.inl (1)) 122, s_bin (fun x y => x + y) 123, s_lld L xs 124, s_ald 0 125, s_ild 4 126, s_push (.inl (2)) 127, s_bin (fun x y => x + y) 128, s_lld L xs 129, s_ald 3 130, s_none, s_ist 5 132, s_ald 2 133, s_ald 0 134, s_ild 4 135, s_push (.inl (1)) 136, s_bin (fun x y => x + y) 137, s_lld L xs 138, s_ald 0 139, s_ild 4 140, s_push (.inl (2)) 141, s_bin (fun x y => x + y) 142, s_lld L xs 143, s_callV 1 12 201 2 144, s_ist 6 145, s_ald 2 146, s_callV 1 12 168 0 147, s_ild 5 148, s_if2 (fun x y => eq32 x y) (fun _ _ => inferInstance) 151 149, s_push (.inl (0)) 150, s_zret, s_ild 5 152, s_if (fun x => ¬ eq32 x 0) (fun _ => inferInstance) 162 153, s_lout 6 162 160, s_push (.inl (0)) 155, s_none, s_ild 6 157, s_none, s_none, s_if (fun x => eq32 x 0) (fun _ => inferInstance) 162 160]
set_option maxRecDepth 100000 in
set_option maxHeartbeats 4000000 in
theorem SL_3 (L : Nat) (xs : Nat → Int32) : pAllL L xs 120 (lawp_3 L xs) := by
  refine ⟨slw (sn_iload (by decide +kernel) rfl), ?_⟩
  refine ⟨slw (sn_iconst (by decide +kernel) rfl), ?_⟩
  refine ⟨slw (sn_iadd (by decide +kernel) rfl), ?_⟩
  refine ⟨sl_ild (by decide +kernel) rfl, ?_⟩
  refine ⟨slw (sn_aload_n (k := 0) (by decide +kernel) rfl rfl), ?_⟩
  refine ⟨slw (sn_iload (by decide +kernel) rfl), ?_⟩
  refine ⟨slw (sn_iconst (by decide +kernel) rfl), ?_⟩
  refine ⟨slw (sn_iadd (by decide +kernel) rfl), ?_⟩
  refine ⟨sl_ild (by decide +kernel) rfl, ?_⟩
  refine ⟨slw (sn_aload_n (k := 3) (by decide +kernel) rfl rfl), ?_⟩
  refine ⟨slw (sn_none), ?_⟩
  refine ⟨slw (sn_istore (by decide +kernel) (by decide) rfl), ?_⟩
  refine ⟨slw (sn_aload_n (k := 2) (by decide +kernel) rfl rfl), ?_⟩
  refine ⟨slw (sn_aload_n (k := 0) (by decide +kernel) rfl rfl), ?_⟩
  refine ⟨slw (sn_iload (by decide +kernel) rfl), ?_⟩
  refine ⟨slw (sn_iconst (by decide +kernel) rfl), ?_⟩
  refine ⟨slw (sn_iadd (by decide +kernel) rfl), ?_⟩
  refine ⟨sl_ild (by decide +kernel) rfl, ?_⟩
  refine ⟨slw (sn_aload_n (k := 0) (by decide +kernel) rfl rfl), ?_⟩
  refine ⟨slw (sn_iload (by decide +kernel) rfl), ?_⟩
  refine ⟨slw (sn_iconst (by decide +kernel) rfl), ?_⟩
  refine ⟨slw (sn_iadd (by decide +kernel) rfl), ?_⟩
  refine ⟨sl_ild (by decide +kernel) rfl, ?_⟩
  refine ⟨slw (sn_callV (idx := 55) (C := RX12) (T := TX12) (N := 56) rfl (by decide) cal_201 (pmt7 180 rfl rfl) (pmt7 181 rfl rfl) (pmt7 182 rfl rfl) (by decide +kernel) rfl), ?_⟩
  refine ⟨slw (sn_istore (by decide +kernel) (by decide) rfl), ?_⟩
  refine ⟨slw (sn_aload_n (k := 2) (by decide +kernel) rfl rfl), ?_⟩
  refine ⟨slw (sn_callV (idx := 50) (C := RX12) (T := TX12) (N := 56) rfl (by decide) cal_168 (pmt7 69 rfl rfl) (pmt7 70 rfl rfl) (pmt7 71 rfl rfl) (by decide +kernel) rfl), ?_⟩
  refine ⟨slw (sn_iload (by decide +kernel) rfl), ?_⟩
  refine ⟨slw (sn_icmp_eq (off := 5) (by decide +kernel) (by decide +kernel) rfl), ?_⟩
  refine ⟨slw (sn_iconst (by decide +kernel) rfl), ?_⟩
  refine ⟨slw (sn_zret (Or.inl rfl) (by decide +kernel)), ?_⟩
  refine ⟨slw (sn_iload (by decide +kernel) rfl), ?_⟩
  refine ⟨slw (sn_if_ne (off := 15) (by decide +kernel) (by decide +kernel) rfl), ?_⟩
  refine ⟨sl_out (off := 5) (by decide +kernel) (by decide +kernel) (by decide +kernel) (by decide +kernel) (by decide +kernel) (by decide +kernel) (by decide +kernel) (by decide +kernel) rfl, ?_⟩
  refine ⟨slw (sn_iconst (by decide +kernel) rfl), ?_⟩
  refine ⟨slw (sn_none), ?_⟩
  refine ⟨slw (sn_iload (by decide +kernel) rfl), ?_⟩
  refine ⟨slw (sn_none), ?_⟩
  refine ⟨slw (sn_none), ?_⟩
  refine ⟨slw (sn_if_eq (off := 5) (by decide +kernel) (by decide +kernel) rfl), ?_⟩
  trivial
def lawp_4 (L : Nat) (xs : Nat → Int32) : List pS := [s_push (.inl (0)) 161, s_zret, s_goto 828, s_ald 1 164, s_ald 0 165, s_ild 4 166, s_push (.inl (1)) 167, s_bin (fun x y => x + y) 168, s_lld L xs 169, s_callV 1 11 6 1 170, s_ald 2 171, s_ald 0 172, s_ild 4 173, s_push (.inl (1)) 174, s_bin (fun x y => x + y) 175, s_lld L xs 176, s_callV 1 12 202 1 177, s_if2 (fun x y => eq32 x y) (fun _ _ => inferInstance) 828 178, s_push (.inl (0)) 179, s_zret, s_ald 1 181, s_ald 0 182, s_ild 4 183, s_push (.inl (1)) 184, s_bin (fun x y => x + y) 185, s_lld L xs 186, s_ald 0 187, s_ild 4 188, s_push (.inl (2)) 189, s_bin (fun x y => x + y) 190, s_lld L xs 191, s_callV 1 11 7 2 192, s_ald 2 193, s_ald 0 194, s_ild 4 195, s_push (.inl (1)) 196, s_bin (fun x y => x + y) 197, s_lld L xs 198, s_ald 0 199, s_ild 4 200]
set_option maxRecDepth 100000 in
set_option maxHeartbeats 4000000 in
theorem SL_4 (L : Nat) (xs : Nat → Int32) : pAllL L xs 160 (lawp_4 L xs) := by
  refine ⟨slw (sn_iconst (by decide +kernel) rfl), ?_⟩
  refine ⟨slw (sn_zret (Or.inl rfl) (by decide +kernel)), ?_⟩
  refine ⟨slw (sn_goto (off := 999) (by decide +kernel) (by decide +kernel)), ?_⟩
  refine ⟨slw (sn_aload_n (k := 1) (by decide +kernel) rfl rfl), ?_⟩
  refine ⟨slw (sn_aload_n (k := 0) (by decide +kernel) rfl rfl), ?_⟩
  refine ⟨slw (sn_iload (by decide +kernel) rfl), ?_⟩
  refine ⟨slw (sn_iconst (by decide +kernel) rfl), ?_⟩
  refine ⟨slw (sn_iadd (by decide +kernel) rfl), ?_⟩
  refine ⟨sl_ild (by decide +kernel) rfl, ?_⟩
  refine ⟨slw (sn_callV (idx := 56) (C := RX11) (T := TX11) (N := 18) rfl (by decide) cal_6 (pmt3 219 rfl rfl) (pmt3 220 rfl rfl) (pmt3 221 rfl rfl) (by decide +kernel) rfl), ?_⟩
  refine ⟨slw (sn_aload_n (k := 2) (by decide +kernel) rfl rfl), ?_⟩
  refine ⟨slw (sn_aload_n (k := 0) (by decide +kernel) rfl rfl), ?_⟩
  refine ⟨slw (sn_iload (by decide +kernel) rfl), ?_⟩
  refine ⟨slw (sn_iconst (by decide +kernel) rfl), ?_⟩
  refine ⟨slw (sn_iadd (by decide +kernel) rfl), ?_⟩
  refine ⟨sl_ild (by decide +kernel) rfl, ?_⟩
  refine ⟨slw (sn_callV (idx := 59) (C := RX12) (T := TX12) (N := 56) rfl (by decide) cal_202 (pmt7 198 rfl rfl) (pmt7 199 rfl rfl) (pmt7 200 rfl rfl) (by decide +kernel) rfl), ?_⟩
  refine ⟨slw (sn_icmp_eq (off := 976) (by decide +kernel) (by decide +kernel) rfl), ?_⟩
  refine ⟨slw (sn_iconst (by decide +kernel) rfl), ?_⟩
  refine ⟨slw (sn_zret (Or.inl rfl) (by decide +kernel)), ?_⟩
  refine ⟨slw (sn_aload_n (k := 1) (by decide +kernel) rfl rfl), ?_⟩
  refine ⟨slw (sn_aload_n (k := 0) (by decide +kernel) rfl rfl), ?_⟩
  refine ⟨slw (sn_iload (by decide +kernel) rfl), ?_⟩
  refine ⟨slw (sn_iconst (by decide +kernel) rfl), ?_⟩
  refine ⟨slw (sn_iadd (by decide +kernel) rfl), ?_⟩
  refine ⟨sl_ild (by decide +kernel) rfl, ?_⟩
  refine ⟨slw (sn_aload_n (k := 0) (by decide +kernel) rfl rfl), ?_⟩
  refine ⟨slw (sn_iload (by decide +kernel) rfl), ?_⟩
  refine ⟨slw (sn_iconst (by decide +kernel) rfl), ?_⟩
  refine ⟨slw (sn_iadd (by decide +kernel) rfl), ?_⟩
  refine ⟨sl_ild (by decide +kernel) rfl, ?_⟩
  refine ⟨slw (sn_callV (idx := 60) (C := RX11) (T := TX11) (N := 18) rfl (by decide) cal_7 (pmt3 223 rfl rfl) (pmt3 224 rfl rfl) (pmt3 225 rfl rfl) (by decide +kernel) rfl), ?_⟩
  refine ⟨slw (sn_aload_n (k := 2) (by decide +kernel) rfl rfl), ?_⟩
  refine ⟨slw (sn_aload_n (k := 0) (by decide +kernel) rfl rfl), ?_⟩
  refine ⟨slw (sn_iload (by decide +kernel) rfl), ?_⟩
  refine ⟨slw (sn_iconst (by decide +kernel) rfl), ?_⟩
  refine ⟨slw (sn_iadd (by decide +kernel) rfl), ?_⟩
  refine ⟨sl_ild (by decide +kernel) rfl, ?_⟩
  refine ⟨slw (sn_aload_n (k := 0) (by decide +kernel) rfl rfl), ?_⟩
  refine ⟨slw (sn_iload (by decide +kernel) rfl), ?_⟩
  trivial
def lawp_5 (L : Nat) (xs : Nat → Int32) : List pS := [s_push (.inl (2)) 201, s_bin (fun x y => x + y) 202, s_lld L xs 203, s_callV 1 12 203 2 204, s_if2 (fun x y => eq32 x y) (fun _ _ => inferInstance) 828 205, s_push (.inl (0)) 206, s_zret, s_ald 1 208, s_ald 0 209, s_ild 4 210, s_push (.inl (1)) 211, s_bin (fun x y => x + y) 212, s_lld L xs 213, s_ald 0 214, s_ild 4 215, s_push (.inl (2)) 216, s_bin (fun x y => x + y) 217, s_lld L xs 218, s_ald 0 219, s_ild 4 220, s_push (.inl (3)) 221, s_bin (fun x y => x + y) 222, s_lld L xs 223, s_callV 1 11 8 3 224, s_ald 2 225, s_ald 0 226, s_ild 4 227, s_push (.inl (1)) 228, s_bin (fun x y => x + y) 229, s_lld L xs 230, s_ald 0 231, s_ild 4 232, s_push (.inl (2)) 233, s_bin (fun x y => x + y) 234, s_lld L xs 235, s_ald 0 236, s_ild 4 237, s_push (.inl (3)) 238, s_bin (fun x y => x + y) 239, s_lld L xs 240]
set_option maxRecDepth 100000 in
set_option maxHeartbeats 4000000 in
theorem SL_5 (L : Nat) (xs : Nat → Int32) : pAllL L xs 200 (lawp_5 L xs) := by
  refine ⟨slw (sn_iconst (by decide +kernel) rfl), ?_⟩
  refine ⟨slw (sn_iadd (by decide +kernel) rfl), ?_⟩
  refine ⟨sl_ild (by decide +kernel) rfl, ?_⟩
  refine ⟨slw (sn_callV (idx := 63) (C := RX12) (T := TX12) (N := 56) rfl (by decide) cal_203 (pmt7 202 rfl rfl) (pmt7 203 rfl rfl) (pmt7 204 rfl rfl) (by decide +kernel) rfl), ?_⟩
  refine ⟨slw (sn_icmp_eq (off := 939) (by decide +kernel) (by decide +kernel) rfl), ?_⟩
  refine ⟨slw (sn_iconst (by decide +kernel) rfl), ?_⟩
  refine ⟨slw (sn_zret (Or.inl rfl) (by decide +kernel)), ?_⟩
  refine ⟨slw (sn_aload_n (k := 1) (by decide +kernel) rfl rfl), ?_⟩
  refine ⟨slw (sn_aload_n (k := 0) (by decide +kernel) rfl rfl), ?_⟩
  refine ⟨slw (sn_iload (by decide +kernel) rfl), ?_⟩
  refine ⟨slw (sn_iconst (by decide +kernel) rfl), ?_⟩
  refine ⟨slw (sn_iadd (by decide +kernel) rfl), ?_⟩
  refine ⟨sl_ild (by decide +kernel) rfl, ?_⟩
  refine ⟨slw (sn_aload_n (k := 0) (by decide +kernel) rfl rfl), ?_⟩
  refine ⟨slw (sn_iload (by decide +kernel) rfl), ?_⟩
  refine ⟨slw (sn_iconst (by decide +kernel) rfl), ?_⟩
  refine ⟨slw (sn_iadd (by decide +kernel) rfl), ?_⟩
  refine ⟨sl_ild (by decide +kernel) rfl, ?_⟩
  refine ⟨slw (sn_aload_n (k := 0) (by decide +kernel) rfl rfl), ?_⟩
  refine ⟨slw (sn_iload (by decide +kernel) rfl), ?_⟩
  refine ⟨slw (sn_iconst (by decide +kernel) rfl), ?_⟩
  refine ⟨slw (sn_iadd (by decide +kernel) rfl), ?_⟩
  refine ⟨sl_ild (by decide +kernel) rfl, ?_⟩
  refine ⟨slw (sn_callV (idx := 64) (C := RX11) (T := TX11) (N := 18) rfl (by decide) cal_8 (pmt3 232 rfl rfl) (pmt3 233 rfl rfl) (pmt3 234 rfl rfl) (by decide +kernel) rfl), ?_⟩
  refine ⟨slw (sn_aload_n (k := 2) (by decide +kernel) rfl rfl), ?_⟩
  refine ⟨slw (sn_aload_n (k := 0) (by decide +kernel) rfl rfl), ?_⟩
  refine ⟨slw (sn_iload (by decide +kernel) rfl), ?_⟩
  refine ⟨slw (sn_iconst (by decide +kernel) rfl), ?_⟩
  refine ⟨slw (sn_iadd (by decide +kernel) rfl), ?_⟩
  refine ⟨sl_ild (by decide +kernel) rfl, ?_⟩
  refine ⟨slw (sn_aload_n (k := 0) (by decide +kernel) rfl rfl), ?_⟩
  refine ⟨slw (sn_iload (by decide +kernel) rfl), ?_⟩
  refine ⟨slw (sn_iconst (by decide +kernel) rfl), ?_⟩
  refine ⟨slw (sn_iadd (by decide +kernel) rfl), ?_⟩
  refine ⟨sl_ild (by decide +kernel) rfl, ?_⟩
  refine ⟨slw (sn_aload_n (k := 0) (by decide +kernel) rfl rfl), ?_⟩
  refine ⟨slw (sn_iload (by decide +kernel) rfl), ?_⟩
  refine ⟨slw (sn_iconst (by decide +kernel) rfl), ?_⟩
  refine ⟨slw (sn_iadd (by decide +kernel) rfl), ?_⟩
  refine ⟨sl_ild (by decide +kernel) rfl, ?_⟩
  trivial
def lawp_6 (L : Nat) (xs : Nat → Int32) : List pS := [s_callV 1 12 204 3 241, s_if2 (fun x y => eq32 x y) (fun _ _ => inferInstance) 828 242, s_push (.inl (0)) 243, s_zret, s_ald 1 245, s_ald 0 246, s_ild 4 247, s_push (.inl (1)) 248, s_bin (fun x y => x + y) 249, s_lld L xs 250, s_callV 1 11 9 1 251, s_ald 2 252, s_ald 0 253, s_ild 4 254, s_push (.inl (1)) 255, s_bin (fun x y => x + y) 256, s_lld L xs 257, s_callV 1 12 205 1 258, s_if2 (fun x y => eq32 x y) (fun _ _ => inferInstance) 828 259, s_push (.inl (0)) 260, s_zret, s_ald 1 262, s_ald 0 263, s_ild 4 264, s_push (.inl (1)) 265, s_bin (fun x y => x + y) 266, s_lld L xs 267, s_ald 0 268, s_ild 4 269, s_push (.inl (2)) 270, s_bin (fun x y => x + y) 271, s_lld L xs 272, s_ald 0 273, s_ild 4 274, s_push (.inl (3)) 275, s_bin (fun x y => x + y) 276, s_lld L xs 277, s_ald 0 278, s_ild 4 279, s_push (.inl (4)) 280]
set_option maxRecDepth 100000 in
set_option maxHeartbeats 4000000 in
theorem SL_6 (L : Nat) (xs : Nat → Int32) : pAllL L xs 240 (lawp_6 L xs) := by
  refine ⟨slw (sn_callV (idx := 68) (C := RX12) (T := TX12) (N := 56) rfl (by decide) cal_204 (pmt7 206 rfl rfl) (pmt7 207 rfl rfl) (pmt7 208 rfl rfl) (by decide +kernel) rfl), ?_⟩
  refine ⟨slw (sn_icmp_eq (off := 890) (by decide +kernel) (by decide +kernel) rfl), ?_⟩
  refine ⟨slw (sn_iconst (by decide +kernel) rfl), ?_⟩
  refine ⟨slw (sn_zret (Or.inl rfl) (by decide +kernel)), ?_⟩
  refine ⟨slw (sn_aload_n (k := 1) (by decide +kernel) rfl rfl), ?_⟩
  refine ⟨slw (sn_aload_n (k := 0) (by decide +kernel) rfl rfl), ?_⟩
  refine ⟨slw (sn_iload (by decide +kernel) rfl), ?_⟩
  refine ⟨slw (sn_iconst (by decide +kernel) rfl), ?_⟩
  refine ⟨slw (sn_iadd (by decide +kernel) rfl), ?_⟩
  refine ⟨sl_ild (by decide +kernel) rfl, ?_⟩
  refine ⟨slw (sn_callV (idx := 69) (C := RX11) (T := TX11) (N := 18) rfl (by decide) cal_9 (pmt3 237 rfl rfl) (pmt3 238 rfl rfl) (pmt3 239 rfl rfl) (by decide +kernel) rfl), ?_⟩
  refine ⟨slw (sn_aload_n (k := 2) (by decide +kernel) rfl rfl), ?_⟩
  refine ⟨slw (sn_aload_n (k := 0) (by decide +kernel) rfl rfl), ?_⟩
  refine ⟨slw (sn_iload (by decide +kernel) rfl), ?_⟩
  refine ⟨slw (sn_iconst (by decide +kernel) rfl), ?_⟩
  refine ⟨slw (sn_iadd (by decide +kernel) rfl), ?_⟩
  refine ⟨sl_ild (by decide +kernel) rfl, ?_⟩
  refine ⟨slw (sn_callV (idx := 72) (C := RX12) (T := TX12) (N := 56) rfl (by decide) cal_205 (pmt7 210 rfl rfl) (pmt7 211 rfl rfl) (pmt7 212 rfl rfl) (by decide +kernel) rfl), ?_⟩
  refine ⟨slw (sn_icmp_eq (off := 865) (by decide +kernel) (by decide +kernel) rfl), ?_⟩
  refine ⟨slw (sn_iconst (by decide +kernel) rfl), ?_⟩
  refine ⟨slw (sn_zret (Or.inl rfl) (by decide +kernel)), ?_⟩
  refine ⟨slw (sn_aload_n (k := 1) (by decide +kernel) rfl rfl), ?_⟩
  refine ⟨slw (sn_aload_n (k := 0) (by decide +kernel) rfl rfl), ?_⟩
  refine ⟨slw (sn_iload (by decide +kernel) rfl), ?_⟩
  refine ⟨slw (sn_iconst (by decide +kernel) rfl), ?_⟩
  refine ⟨slw (sn_iadd (by decide +kernel) rfl), ?_⟩
  refine ⟨sl_ild (by decide +kernel) rfl, ?_⟩
  refine ⟨slw (sn_aload_n (k := 0) (by decide +kernel) rfl rfl), ?_⟩
  refine ⟨slw (sn_iload (by decide +kernel) rfl), ?_⟩
  refine ⟨slw (sn_iconst (by decide +kernel) rfl), ?_⟩
  refine ⟨slw (sn_iadd (by decide +kernel) rfl), ?_⟩
  refine ⟨sl_ild (by decide +kernel) rfl, ?_⟩
  refine ⟨slw (sn_aload_n (k := 0) (by decide +kernel) rfl rfl), ?_⟩
  refine ⟨slw (sn_iload (by decide +kernel) rfl), ?_⟩
  refine ⟨slw (sn_iconst (by decide +kernel) rfl), ?_⟩
  refine ⟨slw (sn_iadd (by decide +kernel) rfl), ?_⟩
  refine ⟨sl_ild (by decide +kernel) rfl, ?_⟩
  refine ⟨slw (sn_aload_n (k := 0) (by decide +kernel) rfl rfl), ?_⟩
  refine ⟨slw (sn_iload (by decide +kernel) rfl), ?_⟩
  refine ⟨slw (sn_iconst (by decide +kernel) rfl), ?_⟩
  trivial
def lawp_7 (L : Nat) (xs : Nat → Int32) : List pS := [s_bin (fun x y => x + y) 281, s_lld L xs 282, s_callV 1 11 10 4 283, s_ald 2 284, s_ald 0 285, s_ild 4 286, s_push (.inl (1)) 287, s_bin (fun x y => x + y) 288, s_lld L xs 289, s_ald 0 290, s_ild 4 291, s_push (.inl (2)) 292, s_bin (fun x y => x + y) 293, s_lld L xs 294, s_ald 0 295, s_ild 4 296, s_push (.inl (3)) 297, s_bin (fun x y => x + y) 298, s_lld L xs 299, s_ald 0 300, s_ild 4 301, s_push (.inl (4)) 302, s_bin (fun x y => x + y) 303, s_lld L xs 304, s_callV 1 12 206 4 305, s_if2 (fun x y => eq32 x y) (fun _ _ => inferInstance) 828 306, s_push (.inl (0)) 307, s_zret, s_ald 1 309, s_ald 0 310, s_ild 4 311, s_push (.inl (1)) 312, s_bin (fun x y => x + y) 313, s_lld L xs 314, s_ald 0 315, s_ild 4 316, s_push (.inl (2)) 317, s_bin (fun x y => x + y) 318, s_lld L xs 319, s_callV 1 11 11 2 320]
set_option maxRecDepth 100000 in
set_option maxHeartbeats 4000000 in
theorem SL_7 (L : Nat) (xs : Nat → Int32) : pAllL L xs 280 (lawp_7 L xs) := by
  refine ⟨slw (sn_iadd (by decide +kernel) rfl), ?_⟩
  refine ⟨sl_ild (by decide +kernel) rfl, ?_⟩
  refine ⟨slw (sn_callV (idx := 73) (C := RX11) (T := TX11) (N := 18) rfl (by decide) cal_10 (pmt4 1 rfl rfl) (pmt4 2 rfl rfl) (pmt4 3 rfl rfl) (by decide +kernel) rfl), ?_⟩
  refine ⟨slw (sn_aload_n (k := 2) (by decide +kernel) rfl rfl), ?_⟩
  refine ⟨slw (sn_aload_n (k := 0) (by decide +kernel) rfl rfl), ?_⟩
  refine ⟨slw (sn_iload (by decide +kernel) rfl), ?_⟩
  refine ⟨slw (sn_iconst (by decide +kernel) rfl), ?_⟩
  refine ⟨slw (sn_iadd (by decide +kernel) rfl), ?_⟩
  refine ⟨sl_ild (by decide +kernel) rfl, ?_⟩
  refine ⟨slw (sn_aload_n (k := 0) (by decide +kernel) rfl rfl), ?_⟩
  refine ⟨slw (sn_iload (by decide +kernel) rfl), ?_⟩
  refine ⟨slw (sn_iconst (by decide +kernel) rfl), ?_⟩
  refine ⟨slw (sn_iadd (by decide +kernel) rfl), ?_⟩
  refine ⟨sl_ild (by decide +kernel) rfl, ?_⟩
  refine ⟨slw (sn_aload_n (k := 0) (by decide +kernel) rfl rfl), ?_⟩
  refine ⟨slw (sn_iload (by decide +kernel) rfl), ?_⟩
  refine ⟨slw (sn_iconst (by decide +kernel) rfl), ?_⟩
  refine ⟨slw (sn_iadd (by decide +kernel) rfl), ?_⟩
  refine ⟨sl_ild (by decide +kernel) rfl, ?_⟩
  refine ⟨slw (sn_aload_n (k := 0) (by decide +kernel) rfl rfl), ?_⟩
  refine ⟨slw (sn_iload (by decide +kernel) rfl), ?_⟩
  refine ⟨slw (sn_iconst (by decide +kernel) rfl), ?_⟩
  refine ⟨slw (sn_iadd (by decide +kernel) rfl), ?_⟩
  refine ⟨sl_ild (by decide +kernel) rfl, ?_⟩
  refine ⟨slw (sn_callV (idx := 77) (C := RX12) (T := TX12) (N := 56) rfl (by decide) cal_206 (pmt7 214 rfl rfl) (pmt7 215 rfl rfl) (pmt7 216 rfl rfl) (by decide +kernel) rfl), ?_⟩
  refine ⟨slw (sn_icmp_eq (off := 804) (by decide +kernel) (by decide +kernel) rfl), ?_⟩
  refine ⟨slw (sn_iconst (by decide +kernel) rfl), ?_⟩
  refine ⟨slw (sn_zret (Or.inl rfl) (by decide +kernel)), ?_⟩
  refine ⟨slw (sn_aload_n (k := 1) (by decide +kernel) rfl rfl), ?_⟩
  refine ⟨slw (sn_aload_n (k := 0) (by decide +kernel) rfl rfl), ?_⟩
  refine ⟨slw (sn_iload (by decide +kernel) rfl), ?_⟩
  refine ⟨slw (sn_iconst (by decide +kernel) rfl), ?_⟩
  refine ⟨slw (sn_iadd (by decide +kernel) rfl), ?_⟩
  refine ⟨sl_ild (by decide +kernel) rfl, ?_⟩
  refine ⟨slw (sn_aload_n (k := 0) (by decide +kernel) rfl rfl), ?_⟩
  refine ⟨slw (sn_iload (by decide +kernel) rfl), ?_⟩
  refine ⟨slw (sn_iconst (by decide +kernel) rfl), ?_⟩
  refine ⟨slw (sn_iadd (by decide +kernel) rfl), ?_⟩
  refine ⟨sl_ild (by decide +kernel) rfl, ?_⟩
  refine ⟨slw (sn_callV (idx := 78) (C := RX11) (T := TX11) (N := 18) rfl (by decide) cal_11 (pmt4 11 rfl rfl) (pmt4 12 rfl rfl) (pmt4 13 rfl rfl) (by decide +kernel) rfl), ?_⟩
  trivial
def lawp_8 (L : Nat) (xs : Nat → Int32) : List pS := [s_ald 2 321, s_ald 0 322, s_ild 4 323, s_push (.inl (1)) 324, s_bin (fun x y => x + y) 325, s_lld L xs 326, s_ald 0 327, s_ild 4 328, s_push (.inl (2)) 329, s_bin (fun x y => x + y) 330, s_lld L xs 331, s_callV 1 12 216 2 332, s_if2 (fun x y => eq32 x y) (fun _ _ => inferInstance) 828 333, s_push (.inl (0)) 334, s_zret, s_ald 1 336, s_callV 1 11 12 0 337, s_ald 2 338, s_callV 1 12 218 0 339, s_if2 (fun x y => eq32 x y) (fun _ _ => inferInstance) 828 340, s_push (.inl (0)) 341, s_zret, s_ald 1 343, s_callV 1 11 13 0 344, s_ald 2 345, s_callV 1 12 219 0 346, s_if2 (fun x y => eq32 x y) (fun _ _ => inferInstance) 828 347, s_push (.inl (0)) 348, s_zret, s_ald 1 350, s_callV 1 11 14 0 351, s_ald 2 352, s_callV 1 12 220 0 353, s_if2 (fun x y => eq32 x y) (fun _ _ => inferInstance) 828 354, s_push (.inl (0)) 355, s_zret, s_ald 1 357, s_ald 0 358, s_ild 4 359, s_push (.inl (1)) 360]
set_option maxRecDepth 100000 in
set_option maxHeartbeats 4000000 in
theorem SL_8 (L : Nat) (xs : Nat → Int32) : pAllL L xs 320 (lawp_8 L xs) := by
  refine ⟨slw (sn_aload_n (k := 2) (by decide +kernel) rfl rfl), ?_⟩
  refine ⟨slw (sn_aload_n (k := 0) (by decide +kernel) rfl rfl), ?_⟩
  refine ⟨slw (sn_iload (by decide +kernel) rfl), ?_⟩
  refine ⟨slw (sn_iconst (by decide +kernel) rfl), ?_⟩
  refine ⟨slw (sn_iadd (by decide +kernel) rfl), ?_⟩
  refine ⟨sl_ild (by decide +kernel) rfl, ?_⟩
  refine ⟨slw (sn_aload_n (k := 0) (by decide +kernel) rfl rfl), ?_⟩
  refine ⟨slw (sn_iload (by decide +kernel) rfl), ?_⟩
  refine ⟨slw (sn_iconst (by decide +kernel) rfl), ?_⟩
  refine ⟨slw (sn_iadd (by decide +kernel) rfl), ?_⟩
  refine ⟨sl_ild (by decide +kernel) rfl, ?_⟩
  refine ⟨slw (sn_callV (idx := 81) (C := RX12) (T := TX12) (N := 56) rfl (by decide) cal_216 (pmt7 218 rfl rfl) (pmt7 219 rfl rfl) (pmt7 220 rfl rfl) (by decide +kernel) rfl), ?_⟩
  refine ⟨slw (sn_icmp_eq (off := 767) (by decide +kernel) (by decide +kernel) rfl), ?_⟩
  refine ⟨slw (sn_iconst (by decide +kernel) rfl), ?_⟩
  refine ⟨slw (sn_zret (Or.inl rfl) (by decide +kernel)), ?_⟩
  refine ⟨slw (sn_aload_n (k := 1) (by decide +kernel) rfl rfl), ?_⟩
  refine ⟨slw (sn_callV (idx := 82) (C := RX11) (T := TX11) (N := 18) rfl (by decide) cal_12 (pmt4 52 rfl rfl) (pmt4 53 rfl rfl) (pmt4 54 rfl rfl) (by decide +kernel) rfl), ?_⟩
  refine ⟨slw (sn_aload_n (k := 2) (by decide +kernel) rfl rfl), ?_⟩
  refine ⟨slw (sn_callV (idx := 85) (C := RX12) (T := TX12) (N := 56) rfl (by decide) cal_218 (pmt8 3 rfl rfl) (pmt8 4 rfl rfl) (pmt8 5 rfl rfl) (by decide +kernel) rfl), ?_⟩
  refine ⟨slw (sn_icmp_eq (off := 754) (by decide +kernel) (by decide +kernel) rfl), ?_⟩
  refine ⟨slw (sn_iconst (by decide +kernel) rfl), ?_⟩
  refine ⟨slw (sn_zret (Or.inl rfl) (by decide +kernel)), ?_⟩
  refine ⟨slw (sn_aload_n (k := 1) (by decide +kernel) rfl rfl), ?_⟩
  refine ⟨slw (sn_callV (idx := 86) (C := RX11) (T := TX11) (N := 18) rfl (by decide) cal_13 (pmt4 93 rfl rfl) (pmt4 94 rfl rfl) (pmt4 95 rfl rfl) (by decide +kernel) rfl), ?_⟩
  refine ⟨slw (sn_aload_n (k := 2) (by decide +kernel) rfl rfl), ?_⟩
  refine ⟨slw (sn_callV (idx := 89) (C := RX12) (T := TX12) (N := 56) rfl (by decide) cal_219 (pmt8 28 rfl rfl) (pmt8 29 rfl rfl) (pmt8 30 rfl rfl) (by decide +kernel) rfl), ?_⟩
  refine ⟨slw (sn_icmp_eq (off := 741) (by decide +kernel) (by decide +kernel) rfl), ?_⟩
  refine ⟨slw (sn_iconst (by decide +kernel) rfl), ?_⟩
  refine ⟨slw (sn_zret (Or.inl rfl) (by decide +kernel)), ?_⟩
  refine ⟨slw (sn_aload_n (k := 1) (by decide +kernel) rfl rfl), ?_⟩
  refine ⟨slw (sn_callV (idx := 90) (C := RX11) (T := TX11) (N := 18) rfl (by decide) cal_14 (pmt4 123 rfl rfl) (pmt4 124 rfl rfl) (pmt4 125 rfl rfl) (by decide +kernel) rfl), ?_⟩
  refine ⟨slw (sn_aload_n (k := 2) (by decide +kernel) rfl rfl), ?_⟩
  refine ⟨slw (sn_callV (idx := 93) (C := RX12) (T := TX12) (N := 56) rfl (by decide) cal_220 (pmt8 32 rfl rfl) (pmt8 33 rfl rfl) (pmt8 34 rfl rfl) (by decide +kernel) rfl), ?_⟩
  refine ⟨slw (sn_icmp_eq (off := 728) (by decide +kernel) (by decide +kernel) rfl), ?_⟩
  refine ⟨slw (sn_iconst (by decide +kernel) rfl), ?_⟩
  refine ⟨slw (sn_zret (Or.inl rfl) (by decide +kernel)), ?_⟩
  refine ⟨slw (sn_aload_n (k := 1) (by decide +kernel) rfl rfl), ?_⟩
  refine ⟨slw (sn_aload_n (k := 0) (by decide +kernel) rfl rfl), ?_⟩
  refine ⟨slw (sn_iload (by decide +kernel) rfl), ?_⟩
  refine ⟨slw (sn_iconst (by decide +kernel) rfl), ?_⟩
  trivial
def lawp_9 (L : Nat) (xs : Nat → Int32) : List pS := [s_bin (fun x y => x + y) 361, s_lld L xs 362, s_ald 0 363, s_ild 4 364, s_push (.inl (2)) 365, s_bin (fun x y => x + y) 366, s_lld L xs 367, s_callV 1 11 15 2 368, s_ald 2 369, s_ald 0 370, s_ild 4 371, s_push (.inl (1)) 372, s_bin (fun x y => x + y) 373, s_lld L xs 374, s_ald 0 375, s_ild 4 376, s_push (.inl (2)) 377, s_bin (fun x y => x + y) 378, s_lld L xs 379, s_callV 1 12 221 2 380, s_if2 (fun x y => eq32 x y) (fun _ _ => inferInstance) 828 381, s_push (.inl (0)) 382, s_zret, s_ald 1 384, s_callV 1 11 16 0 385, s_ald 2 386, s_callV 1 12 222 0 387, s_if2 (fun x y => eq32 x y) (fun _ _ => inferInstance) 828 388, s_push (.inl (0)) 389, s_zret, s_ald 1 391, s_callV 1 11 17 0 392, s_ald 2 393, s_callV 1 12 224 0 394, s_if2 (fun x y => eq32 x y) (fun _ _ => inferInstance) 828 395, s_push (.inl (0)) 396, s_zret, s_ald 1 398, s_ald 0 399, s_ild 4 400]
set_option maxRecDepth 100000 in
set_option maxHeartbeats 4000000 in
theorem SL_9 (L : Nat) (xs : Nat → Int32) : pAllL L xs 360 (lawp_9 L xs) := by
  refine ⟨slw (sn_iadd (by decide +kernel) rfl), ?_⟩
  refine ⟨sl_ild (by decide +kernel) rfl, ?_⟩
  refine ⟨slw (sn_aload_n (k := 0) (by decide +kernel) rfl rfl), ?_⟩
  refine ⟨slw (sn_iload (by decide +kernel) rfl), ?_⟩
  refine ⟨slw (sn_iconst (by decide +kernel) rfl), ?_⟩
  refine ⟨slw (sn_iadd (by decide +kernel) rfl), ?_⟩
  refine ⟨sl_ild (by decide +kernel) rfl, ?_⟩
  refine ⟨slw (sn_callV (idx := 94) (C := RX11) (T := TX11) (N := 18) rfl (by decide) cal_15 (pmt4 127 rfl rfl) (pmt4 128 rfl rfl) (pmt4 129 rfl rfl) (by decide +kernel) rfl), ?_⟩
  refine ⟨slw (sn_aload_n (k := 2) (by decide +kernel) rfl rfl), ?_⟩
  refine ⟨slw (sn_aload_n (k := 0) (by decide +kernel) rfl rfl), ?_⟩
  refine ⟨slw (sn_iload (by decide +kernel) rfl), ?_⟩
  refine ⟨slw (sn_iconst (by decide +kernel) rfl), ?_⟩
  refine ⟨slw (sn_iadd (by decide +kernel) rfl), ?_⟩
  refine ⟨sl_ild (by decide +kernel) rfl, ?_⟩
  refine ⟨slw (sn_aload_n (k := 0) (by decide +kernel) rfl rfl), ?_⟩
  refine ⟨slw (sn_iload (by decide +kernel) rfl), ?_⟩
  refine ⟨slw (sn_iconst (by decide +kernel) rfl), ?_⟩
  refine ⟨slw (sn_iadd (by decide +kernel) rfl), ?_⟩
  refine ⟨sl_ild (by decide +kernel) rfl, ?_⟩
  refine ⟨slw (sn_callV (idx := 97) (C := RX12) (T := TX12) (N := 56) rfl (by decide) cal_221 (pmt8 36 rfl rfl) (pmt8 37 rfl rfl) (pmt8 38 rfl rfl) (by decide +kernel) rfl), ?_⟩
  refine ⟨slw (sn_icmp_eq (off := 691) (by decide +kernel) (by decide +kernel) rfl), ?_⟩
  refine ⟨slw (sn_iconst (by decide +kernel) rfl), ?_⟩
  refine ⟨slw (sn_zret (Or.inl rfl) (by decide +kernel)), ?_⟩
  refine ⟨slw (sn_aload_n (k := 1) (by decide +kernel) rfl rfl), ?_⟩
  refine ⟨slw (sn_callV (idx := 98) (C := RX11) (T := TX11) (N := 18) rfl (by decide) cal_16 (pmt4 132 rfl rfl) (pmt4 133 rfl rfl) (pmt4 134 rfl rfl) (by decide +kernel) rfl), ?_⟩
  refine ⟨slw (sn_aload_n (k := 2) (by decide +kernel) rfl rfl), ?_⟩
  refine ⟨slw (sn_callV (idx := 101) (C := RX12) (T := TX12) (N := 56) rfl (by decide) cal_222 (pmt8 40 rfl rfl) (pmt8 41 rfl rfl) (pmt8 42 rfl rfl) (by decide +kernel) rfl), ?_⟩
  refine ⟨slw (sn_icmp_eq (off := 678) (by decide +kernel) (by decide +kernel) rfl), ?_⟩
  refine ⟨slw (sn_iconst (by decide +kernel) rfl), ?_⟩
  refine ⟨slw (sn_zret (Or.inl rfl) (by decide +kernel)), ?_⟩
  refine ⟨slw (sn_aload_n (k := 1) (by decide +kernel) rfl rfl), ?_⟩
  refine ⟨slw (sn_callV (idx := 102) (C := RX11) (T := TX11) (N := 18) rfl (by decide) cal_17 (pmt4 136 rfl rfl) (pmt4 137 rfl rfl) (pmt4 138 rfl rfl) (by decide +kernel) rfl), ?_⟩
  refine ⟨slw (sn_aload_n (k := 2) (by decide +kernel) rfl rfl), ?_⟩
  refine ⟨slw (sn_callV (idx := 105) (C := RX12) (T := TX12) (N := 56) rfl (by decide) cal_224 (pmt8 44 rfl rfl) (pmt8 45 rfl rfl) (pmt8 46 rfl rfl) (by decide +kernel) rfl), ?_⟩
  refine ⟨slw (sn_icmp_eq (off := 665) (by decide +kernel) (by decide +kernel) rfl), ?_⟩
  refine ⟨slw (sn_iconst (by decide +kernel) rfl), ?_⟩
  refine ⟨slw (sn_zret (Or.inl rfl) (by decide +kernel)), ?_⟩
  refine ⟨slw (sn_aload_n (k := 1) (by decide +kernel) rfl rfl), ?_⟩
  refine ⟨slw (sn_aload_n (k := 0) (by decide +kernel) rfl rfl), ?_⟩
  refine ⟨slw (sn_iload (by decide +kernel) rfl), ?_⟩
  trivial
def lawp_10 (L : Nat) (xs : Nat → Int32) : List pS := [s_push (.inl (1)) 401, s_bin (fun x y => x + y) 402, s_lld L xs 403, s_callV 1 11 18 1 404, s_ald 2 405, s_ald 0 406, s_ild 4 407, s_push (.inl (1)) 408, s_bin (fun x y => x + y) 409, s_lld L xs 410, s_callV 1 12 225 1 411, s_if2 (fun x y => eq32 x y) (fun _ _ => inferInstance) 828 412, s_push (.inl (0)) 413, s_zret, s_ald 1 415, s_ald 0 416, s_ild 4 417, s_push (.inl (1)) 418, s_bin (fun x y => x + y) 419, s_lld L xs 420, s_callV 1 11 19 1 421, s_ald 2 422, s_ald 0 423, s_ild 4 424, s_push (.inl (1)) 425, s_bin (fun x y => x + y) 426, s_lld L xs 427, s_callV 1 12 226 1 428, s_if2 (fun x y => eq32 x y) (fun _ _ => inferInstance) 828 429, s_push (.inl (0)) 430, s_zret, s_ald 1 432, s_callV 1 11 20 0 433, s_ald 2 434, s_callV 1 12 227 0 435, s_if2 (fun x y => eq32 x y) (fun _ _ => inferInstance) 828 436, s_push (.inl (0)) 437, s_zret, s_ald 1 439, s_callV 1 11 21 0 440]
set_option maxRecDepth 100000 in
set_option maxHeartbeats 4000000 in
theorem SL_10 (L : Nat) (xs : Nat → Int32) : pAllL L xs 400 (lawp_10 L xs) := by
  refine ⟨slw (sn_iconst (by decide +kernel) rfl), ?_⟩
  refine ⟨slw (sn_iadd (by decide +kernel) rfl), ?_⟩
  refine ⟨sl_ild (by decide +kernel) rfl, ?_⟩
  refine ⟨slw (sn_callV (idx := 106) (C := RX11) (T := TX11) (N := 18) rfl (by decide) cal_18 (pmt4 148 rfl rfl) (pmt4 149 rfl rfl) (pmt4 150 rfl rfl) (by decide +kernel) rfl), ?_⟩
  refine ⟨slw (sn_aload_n (k := 2) (by decide +kernel) rfl rfl), ?_⟩
  refine ⟨slw (sn_aload_n (k := 0) (by decide +kernel) rfl rfl), ?_⟩
  refine ⟨slw (sn_iload (by decide +kernel) rfl), ?_⟩
  refine ⟨slw (sn_iconst (by decide +kernel) rfl), ?_⟩
  refine ⟨slw (sn_iadd (by decide +kernel) rfl), ?_⟩
  refine ⟨sl_ild (by decide +kernel) rfl, ?_⟩
  refine ⟨slw (sn_callV (idx := 109) (C := RX12) (T := TX12) (N := 56) rfl (by decide) cal_225 (pmt8 52 rfl rfl) (pmt8 53 rfl rfl) (pmt8 54 rfl rfl) (by decide +kernel) rfl), ?_⟩
  refine ⟨slw (sn_icmp_eq (off := 640) (by decide +kernel) (by decide +kernel) rfl), ?_⟩
  refine ⟨slw (sn_iconst (by decide +kernel) rfl), ?_⟩
  refine ⟨slw (sn_zret (Or.inl rfl) (by decide +kernel)), ?_⟩
  refine ⟨slw (sn_aload_n (k := 1) (by decide +kernel) rfl rfl), ?_⟩
  refine ⟨slw (sn_aload_n (k := 0) (by decide +kernel) rfl rfl), ?_⟩
  refine ⟨slw (sn_iload (by decide +kernel) rfl), ?_⟩
  refine ⟨slw (sn_iconst (by decide +kernel) rfl), ?_⟩
  refine ⟨slw (sn_iadd (by decide +kernel) rfl), ?_⟩
  refine ⟨sl_ild (by decide +kernel) rfl, ?_⟩
  refine ⟨slw (sn_callV (idx := 110) (C := RX11) (T := TX11) (N := 18) rfl (by decide) cal_19 (pmt4 162 rfl rfl) (pmt4 163 rfl rfl) (pmt4 164 rfl rfl) (by decide +kernel) rfl), ?_⟩
  refine ⟨slw (sn_aload_n (k := 2) (by decide +kernel) rfl rfl), ?_⟩
  refine ⟨slw (sn_aload_n (k := 0) (by decide +kernel) rfl rfl), ?_⟩
  refine ⟨slw (sn_iload (by decide +kernel) rfl), ?_⟩
  refine ⟨slw (sn_iconst (by decide +kernel) rfl), ?_⟩
  refine ⟨slw (sn_iadd (by decide +kernel) rfl), ?_⟩
  refine ⟨sl_ild (by decide +kernel) rfl, ?_⟩
  refine ⟨slw (sn_callV (idx := 113) (C := RX12) (T := TX12) (N := 56) rfl (by decide) cal_226 (pmt8 56 rfl rfl) (pmt8 57 rfl rfl) (pmt8 58 rfl rfl) (by decide +kernel) rfl), ?_⟩
  refine ⟨slw (sn_icmp_eq (off := 615) (by decide +kernel) (by decide +kernel) rfl), ?_⟩
  refine ⟨slw (sn_iconst (by decide +kernel) rfl), ?_⟩
  refine ⟨slw (sn_zret (Or.inl rfl) (by decide +kernel)), ?_⟩
  refine ⟨slw (sn_aload_n (k := 1) (by decide +kernel) rfl rfl), ?_⟩
  refine ⟨slw (sn_callV (idx := 114) (C := RX11) (T := TX11) (N := 18) rfl (by decide) cal_20 (pmt4 170 rfl rfl) (pmt4 171 rfl rfl) (pmt4 172 rfl rfl) (by decide +kernel) rfl), ?_⟩
  refine ⟨slw (sn_aload_n (k := 2) (by decide +kernel) rfl rfl), ?_⟩
  refine ⟨slw (sn_callV (idx := 117) (C := RX12) (T := TX12) (N := 56) rfl (by decide) cal_227 (pmt8 60 rfl rfl) (pmt8 61 rfl rfl) (pmt8 62 rfl rfl) (by decide +kernel) rfl), ?_⟩
  refine ⟨slw (sn_icmp_eq (off := 602) (by decide +kernel) (by decide +kernel) rfl), ?_⟩
  refine ⟨slw (sn_iconst (by decide +kernel) rfl), ?_⟩
  refine ⟨slw (sn_zret (Or.inl rfl) (by decide +kernel)), ?_⟩
  refine ⟨slw (sn_aload_n (k := 1) (by decide +kernel) rfl rfl), ?_⟩
  refine ⟨slw (sn_callV (idx := 118) (C := RX11) (T := TX11) (N := 18) rfl (by decide) cal_21 (pmt4 174 rfl rfl) (pmt4 175 rfl rfl) (pmt4 176 rfl rfl) (by decide +kernel) rfl), ?_⟩
  trivial
def lawp_11 (L : Nat) (xs : Nat → Int32) : List pS := [s_ald 2 441, s_callV 1 12 234 0 442, s_if2 (fun x y => eq32 x y) (fun _ _ => inferInstance) 828 443, s_push (.inl (0)) 444, s_zret, s_ald 1 446, s_callV 1 11 22 0 447, s_ald 2 448, s_callV 1 12 235 0 449, s_if2 (fun x y => eq32 x y) (fun _ _ => inferInstance) 828 450, s_push (.inl (0)) 451, s_zret, s_ald 1 453, s_callV 1 11 23 0 454, s_ald 2 455, s_callV 1 12 236 0 456, s_if2 (fun x y => eq32 x y) (fun _ _ => inferInstance) 828 457, s_push (.inl (0)) 458, s_zret, s_ald 1 460, s_callV 1 11 24 0 461, s_ald 2 462, s_callV 1 12 238 0 463, s_if2 (fun x y => eq32 x y) (fun _ _ => inferInstance) 828 464, s_push (.inl (0)) 465, s_zret, s_ald 1 467, s_ald 0 468, s_ild 4 469, s_push (.inl (1)) 470, s_bin (fun x y => x + y) 471, s_lld L xs 472, s_ald 0 473, s_ild 4 474, s_push (.inl (2)) 475, s_bin (fun x y => x + y) 476, s_lld L xs 477, s_callV 1 11 25 2 478, s_ald 2 479, s_ald 0 480]
set_option maxRecDepth 100000 in
set_option maxHeartbeats 4000000 in
theorem SL_11 (L : Nat) (xs : Nat → Int32) : pAllL L xs 440 (lawp_11 L xs) := by
  refine ⟨slw (sn_aload_n (k := 2) (by decide +kernel) rfl rfl), ?_⟩
  refine ⟨slw (sn_callV (idx := 121) (C := RX12) (T := TX12) (N := 56) rfl (by decide) cal_234 (pmt8 64 rfl rfl) (pmt8 65 rfl rfl) (pmt8 66 rfl rfl) (by decide +kernel) rfl), ?_⟩
  refine ⟨slw (sn_icmp_eq (off := 589) (by decide +kernel) (by decide +kernel) rfl), ?_⟩
  refine ⟨slw (sn_iconst (by decide +kernel) rfl), ?_⟩
  refine ⟨slw (sn_zret (Or.inl rfl) (by decide +kernel)), ?_⟩
  refine ⟨slw (sn_aload_n (k := 1) (by decide +kernel) rfl rfl), ?_⟩
  refine ⟨slw (sn_callV (idx := 122) (C := RX11) (T := TX11) (N := 18) rfl (by decide) cal_22 (pmt4 221 rfl rfl) (pmt4 222 rfl rfl) (pmt4 223 rfl rfl) (by decide +kernel) rfl), ?_⟩
  refine ⟨slw (sn_aload_n (k := 2) (by decide +kernel) rfl rfl), ?_⟩
  refine ⟨slw (sn_callV (idx := 125) (C := RX12) (T := TX12) (N := 56) rfl (by decide) cal_235 (pmt8 92 rfl rfl) (pmt8 93 rfl rfl) (pmt8 94 rfl rfl) (by decide +kernel) rfl), ?_⟩
  refine ⟨slw (sn_icmp_eq (off := 576) (by decide +kernel) (by decide +kernel) rfl), ?_⟩
  refine ⟨slw (sn_iconst (by decide +kernel) rfl), ?_⟩
  refine ⟨slw (sn_zret (Or.inl rfl) (by decide +kernel)), ?_⟩
  refine ⟨slw (sn_aload_n (k := 1) (by decide +kernel) rfl rfl), ?_⟩
  refine ⟨slw (sn_callV (idx := 126) (C := RX11) (T := TX11) (N := 18) rfl (by decide) cal_23 (pmt5 8 rfl rfl) (pmt5 9 rfl rfl) (pmt5 10 rfl rfl) (by decide +kernel) rfl), ?_⟩
  refine ⟨slw (sn_aload_n (k := 2) (by decide +kernel) rfl rfl), ?_⟩
  refine ⟨slw (sn_callV (idx := 129) (C := RX12) (T := TX12) (N := 56) rfl (by decide) cal_236 (pmt8 100 rfl rfl) (pmt8 101 rfl rfl) (pmt8 102 rfl rfl) (by decide +kernel) rfl), ?_⟩
  refine ⟨slw (sn_icmp_eq (off := 563) (by decide +kernel) (by decide +kernel) rfl), ?_⟩
  refine ⟨slw (sn_iconst (by decide +kernel) rfl), ?_⟩
  refine ⟨slw (sn_zret (Or.inl rfl) (by decide +kernel)), ?_⟩
  refine ⟨slw (sn_aload_n (k := 1) (by decide +kernel) rfl rfl), ?_⟩
  refine ⟨slw (sn_callV (idx := 130) (C := RX11) (T := TX11) (N := 18) rfl (by decide) cal_24 (pmt5 16 rfl rfl) (pmt5 17 rfl rfl) (pmt5 18 rfl rfl) (by decide +kernel) rfl), ?_⟩
  refine ⟨slw (sn_aload_n (k := 2) (by decide +kernel) rfl rfl), ?_⟩
  refine ⟨slw (sn_callV (idx := 133) (C := RX12) (T := TX12) (N := 56) rfl (by decide) cal_238 (pmt8 104 rfl rfl) (pmt8 105 rfl rfl) (pmt8 106 rfl rfl) (by decide +kernel) rfl), ?_⟩
  refine ⟨slw (sn_icmp_eq (off := 550) (by decide +kernel) (by decide +kernel) rfl), ?_⟩
  refine ⟨slw (sn_iconst (by decide +kernel) rfl), ?_⟩
  refine ⟨slw (sn_zret (Or.inl rfl) (by decide +kernel)), ?_⟩
  refine ⟨slw (sn_aload_n (k := 1) (by decide +kernel) rfl rfl), ?_⟩
  refine ⟨slw (sn_aload_n (k := 0) (by decide +kernel) rfl rfl), ?_⟩
  refine ⟨slw (sn_iload (by decide +kernel) rfl), ?_⟩
  refine ⟨slw (sn_iconst (by decide +kernel) rfl), ?_⟩
  refine ⟨slw (sn_iadd (by decide +kernel) rfl), ?_⟩
  refine ⟨sl_ild (by decide +kernel) rfl, ?_⟩
  refine ⟨slw (sn_aload_n (k := 0) (by decide +kernel) rfl rfl), ?_⟩
  refine ⟨slw (sn_iload (by decide +kernel) rfl), ?_⟩
  refine ⟨slw (sn_iconst (by decide +kernel) rfl), ?_⟩
  refine ⟨slw (sn_iadd (by decide +kernel) rfl), ?_⟩
  refine ⟨sl_ild (by decide +kernel) rfl, ?_⟩
  refine ⟨slw (sn_callV (idx := 134) (C := RX11) (T := TX11) (N := 18) rfl (by decide) cal_25 (pmt5 29 rfl rfl) (pmt5 30 rfl rfl) (pmt5 31 rfl rfl) (by decide +kernel) rfl), ?_⟩
  refine ⟨slw (sn_aload_n (k := 2) (by decide +kernel) rfl rfl), ?_⟩
  refine ⟨slw (sn_aload_n (k := 0) (by decide +kernel) rfl rfl), ?_⟩
  trivial
def lawp_12 (L : Nat) (xs : Nat → Int32) : List pS := [s_ild 4 481, s_push (.inl (1)) 482, s_bin (fun x y => x + y) 483, s_lld L xs 484, s_ald 0 485, s_ild 4 486, s_push (.inl (2)) 487, s_bin (fun x y => x + y) 488, s_lld L xs 489, s_callV 1 12 239 2 490, s_if2 (fun x y => eq32 x y) (fun _ _ => inferInstance) 828 491, s_push (.inl (0)) 492, s_zret, s_ald 1 494, s_callV 1 11 26 0 495, s_ald 2 496, s_callV 1 12 240 0 497, s_if2 (fun x y => eq32 x y) (fun _ _ => inferInstance) 828 498, s_push (.inl (0)) 499, s_zret, s_ald 1 501, s_ald 0 502, s_ild 4 503, s_push (.inl (1)) 504, s_bin (fun x y => x + y) 505, s_lld L xs 506, s_ald 0 507, s_ild 4 508, s_push (.inl (2)) 509, s_bin (fun x y => x + y) 510, s_lld L xs 511, s_callV 1 11 27 2 512, s_ald 2 513, s_ald 0 514, s_ild 4 515, s_push (.inl (1)) 516, s_bin (fun x y => x + y) 517, s_lld L xs 518, s_ald 0 519, s_ild 4 520]
set_option maxRecDepth 100000 in
set_option maxHeartbeats 4000000 in
theorem SL_12 (L : Nat) (xs : Nat → Int32) : pAllL L xs 480 (lawp_12 L xs) := by
  refine ⟨slw (sn_iload (by decide +kernel) rfl), ?_⟩
  refine ⟨slw (sn_iconst (by decide +kernel) rfl), ?_⟩
  refine ⟨slw (sn_iadd (by decide +kernel) rfl), ?_⟩
  refine ⟨sl_ild (by decide +kernel) rfl, ?_⟩
  refine ⟨slw (sn_aload_n (k := 0) (by decide +kernel) rfl rfl), ?_⟩
  refine ⟨slw (sn_iload (by decide +kernel) rfl), ?_⟩
  refine ⟨slw (sn_iconst (by decide +kernel) rfl), ?_⟩
  refine ⟨slw (sn_iadd (by decide +kernel) rfl), ?_⟩
  refine ⟨sl_ild (by decide +kernel) rfl, ?_⟩
  refine ⟨slw (sn_callV (idx := 137) (C := RX12) (T := TX12) (N := 56) rfl (by decide) cal_239 (pmt8 116 rfl rfl) (pmt8 117 rfl rfl) (pmt8 118 rfl rfl) (by decide +kernel) rfl), ?_⟩
  refine ⟨slw (sn_icmp_eq (off := 513) (by decide +kernel) (by decide +kernel) rfl), ?_⟩
  refine ⟨slw (sn_iconst (by decide +kernel) rfl), ?_⟩
  refine ⟨slw (sn_zret (Or.inl rfl) (by decide +kernel)), ?_⟩
  refine ⟨slw (sn_aload_n (k := 1) (by decide +kernel) rfl rfl), ?_⟩
  refine ⟨slw (sn_callV (idx := 138) (C := RX11) (T := TX11) (N := 18) rfl (by decide) cal_26 (pmt5 33 rfl rfl) (pmt5 34 rfl rfl) (pmt5 35 rfl rfl) (by decide +kernel) rfl), ?_⟩
  refine ⟨slw (sn_aload_n (k := 2) (by decide +kernel) rfl rfl), ?_⟩
  refine ⟨slw (sn_callV (idx := 141) (C := RX12) (T := TX12) (N := 56) rfl (by decide) cal_240 (pmt8 120 rfl rfl) (pmt8 121 rfl rfl) (pmt8 122 rfl rfl) (by decide +kernel) rfl), ?_⟩
  refine ⟨slw (sn_icmp_eq (off := 500) (by decide +kernel) (by decide +kernel) rfl), ?_⟩
  refine ⟨slw (sn_iconst (by decide +kernel) rfl), ?_⟩
  refine ⟨slw (sn_zret (Or.inl rfl) (by decide +kernel)), ?_⟩
  refine ⟨slw (sn_aload_n (k := 1) (by decide +kernel) rfl rfl), ?_⟩
  refine ⟨slw (sn_aload_n (k := 0) (by decide +kernel) rfl rfl), ?_⟩
  refine ⟨slw (sn_iload (by decide +kernel) rfl), ?_⟩
  refine ⟨slw (sn_iconst (by decide +kernel) rfl), ?_⟩
  refine ⟨slw (sn_iadd (by decide +kernel) rfl), ?_⟩
  refine ⟨sl_ild (by decide +kernel) rfl, ?_⟩
  refine ⟨slw (sn_aload_n (k := 0) (by decide +kernel) rfl rfl), ?_⟩
  refine ⟨slw (sn_iload (by decide +kernel) rfl), ?_⟩
  refine ⟨slw (sn_iconst (by decide +kernel) rfl), ?_⟩
  refine ⟨slw (sn_iadd (by decide +kernel) rfl), ?_⟩
  refine ⟨sl_ild (by decide +kernel) rfl, ?_⟩
  refine ⟨slw (sn_callV (idx := 142) (C := RX11) (T := TX11) (N := 18) rfl (by decide) cal_27 (pmt5 41 rfl rfl) (pmt5 42 rfl rfl) (pmt5 43 rfl rfl) (by decide +kernel) rfl), ?_⟩
  refine ⟨slw (sn_aload_n (k := 2) (by decide +kernel) rfl rfl), ?_⟩
  refine ⟨slw (sn_aload_n (k := 0) (by decide +kernel) rfl rfl), ?_⟩
  refine ⟨slw (sn_iload (by decide +kernel) rfl), ?_⟩
  refine ⟨slw (sn_iconst (by decide +kernel) rfl), ?_⟩
  refine ⟨slw (sn_iadd (by decide +kernel) rfl), ?_⟩
  refine ⟨sl_ild (by decide +kernel) rfl, ?_⟩
  refine ⟨slw (sn_aload_n (k := 0) (by decide +kernel) rfl rfl), ?_⟩
  refine ⟨slw (sn_iload (by decide +kernel) rfl), ?_⟩
  trivial
def lawp_13 (L : Nat) (xs : Nat → Int32) : List pS := [s_push (.inl (2)) 521, s_bin (fun x y => x + y) 522, s_lld L xs 523, s_callV 1 12 241 2 524, s_if2 (fun x y => eq32 x y) (fun _ _ => inferInstance) 828 525, s_push (.inl (0)) 526, s_zret, s_ald 1 528, s_ald 0 529, s_ild 4 530, s_push (.inl (1)) 531, s_bin (fun x y => x + y) 532, s_lld L xs 533, s_callV 1 11 28 1 534, s_ald 2 535, s_ald 0 536, s_ild 4 537, s_push (.inl (1)) 538, s_bin (fun x y => x + y) 539, s_lld L xs 540, s_callV 1 12 242 1 541, s_if2 (fun x y => eq32 x y) (fun _ _ => inferInstance) 828 542, s_push (.inl (0)) 543, s_zret, s_ald 1 545, s_ald 0 546, s_ild 4 547, s_push (.inl (1)) 548, s_bin (fun x y => x + y) 549, s_lld L xs 550, s_ald 0 551, s_ild 4 552, s_push (.inl (2)) 553, s_bin (fun x y => x + y) 554, s_lld L xs 555, s_callV 1 11 29 2 556, s_ald 2 557, s_ald 0 558, s_ild 4 559, s_push (.inl (1)) 560]
set_option maxRecDepth 100000 in
set_option maxHeartbeats 4000000 in
theorem SL_13 (L : Nat) (xs : Nat → Int32) : pAllL L xs 520 (lawp_13 L xs) := by
  refine ⟨slw (sn_iconst (by decide +kernel) rfl), ?_⟩
  refine ⟨slw (sn_iadd (by decide +kernel) rfl), ?_⟩
  refine ⟨sl_ild (by decide +kernel) rfl, ?_⟩
  refine ⟨slw (sn_callV (idx := 145) (C := RX12) (T := TX12) (N := 56) rfl (by decide) cal_241 (pmt8 124 rfl rfl) (pmt8 125 rfl rfl) (pmt8 126 rfl rfl) (by decide +kernel) rfl), ?_⟩
  refine ⟨slw (sn_icmp_eq (off := 463) (by decide +kernel) (by decide +kernel) rfl), ?_⟩
  refine ⟨slw (sn_iconst (by decide +kernel) rfl), ?_⟩
  refine ⟨slw (sn_zret (Or.inl rfl) (by decide +kernel)), ?_⟩
  refine ⟨slw (sn_aload_n (k := 1) (by decide +kernel) rfl rfl), ?_⟩
  refine ⟨slw (sn_aload_n (k := 0) (by decide +kernel) rfl rfl), ?_⟩
  refine ⟨slw (sn_iload (by decide +kernel) rfl), ?_⟩
  refine ⟨slw (sn_iconst (by decide +kernel) rfl), ?_⟩
  refine ⟨slw (sn_iadd (by decide +kernel) rfl), ?_⟩
  refine ⟨sl_ild (by decide +kernel) rfl, ?_⟩
  refine ⟨slw (sn_callV (idx := 146) (C := RX11) (T := TX11) (N := 18) rfl (by decide) cal_28 (pmt5 56 rfl rfl) (pmt5 57 rfl rfl) (pmt5 58 rfl rfl) (by decide +kernel) rfl), ?_⟩
  refine ⟨slw (sn_aload_n (k := 2) (by decide +kernel) rfl rfl), ?_⟩
  refine ⟨slw (sn_aload_n (k := 0) (by decide +kernel) rfl rfl), ?_⟩
  refine ⟨slw (sn_iload (by decide +kernel) rfl), ?_⟩
  refine ⟨slw (sn_iconst (by decide +kernel) rfl), ?_⟩
  refine ⟨slw (sn_iadd (by decide +kernel) rfl), ?_⟩
  refine ⟨sl_ild (by decide +kernel) rfl, ?_⟩
  refine ⟨slw (sn_callV (idx := 149) (C := RX12) (T := TX12) (N := 56) rfl (by decide) cal_242 (pmt8 128 rfl rfl) (pmt8 129 rfl rfl) (pmt8 130 rfl rfl) (by decide +kernel) rfl), ?_⟩
  refine ⟨slw (sn_icmp_eq (off := 438) (by decide +kernel) (by decide +kernel) rfl), ?_⟩
  refine ⟨slw (sn_iconst (by decide +kernel) rfl), ?_⟩
  refine ⟨slw (sn_zret (Or.inl rfl) (by decide +kernel)), ?_⟩
  refine ⟨slw (sn_aload_n (k := 1) (by decide +kernel) rfl rfl), ?_⟩
  refine ⟨slw (sn_aload_n (k := 0) (by decide +kernel) rfl rfl), ?_⟩
  refine ⟨slw (sn_iload (by decide +kernel) rfl), ?_⟩
  refine ⟨slw (sn_iconst (by decide +kernel) rfl), ?_⟩
  refine ⟨slw (sn_iadd (by decide +kernel) rfl), ?_⟩
  refine ⟨sl_ild (by decide +kernel) rfl, ?_⟩
  refine ⟨slw (sn_aload_n (k := 0) (by decide +kernel) rfl rfl), ?_⟩
  refine ⟨slw (sn_iload (by decide +kernel) rfl), ?_⟩
  refine ⟨slw (sn_iconst (by decide +kernel) rfl), ?_⟩
  refine ⟨slw (sn_iadd (by decide +kernel) rfl), ?_⟩
  refine ⟨sl_ild (by decide +kernel) rfl, ?_⟩
  refine ⟨slw (sn_callV (idx := 150) (C := RX11) (T := TX11) (N := 18) rfl (by decide) cal_29 (pmt5 69 rfl rfl) (pmt5 70 rfl rfl) (pmt5 71 rfl rfl) (by decide +kernel) rfl), ?_⟩
  refine ⟨slw (sn_aload_n (k := 2) (by decide +kernel) rfl rfl), ?_⟩
  refine ⟨slw (sn_aload_n (k := 0) (by decide +kernel) rfl rfl), ?_⟩
  refine ⟨slw (sn_iload (by decide +kernel) rfl), ?_⟩
  refine ⟨slw (sn_iconst (by decide +kernel) rfl), ?_⟩
  trivial
def lawp_14 (L : Nat) (xs : Nat → Int32) : List pS := [s_bin (fun x y => x + y) 561, s_lld L xs 562, s_ald 0 563, s_ild 4 564, s_push (.inl (2)) 565, s_bin (fun x y => x + y) 566, s_lld L xs 567, s_callV 1 12 243 2 568, s_if2 (fun x y => eq32 x y) (fun _ _ => inferInstance) 828 569, s_push (.inl (0)) 570, s_zret, s_ald 1 572, s_ald 0 573, s_ild 4 574, s_push (.inl (1)) 575, s_bin (fun x y => x + y) 576, s_lld L xs 577, s_callV 1 11 30 1 578, s_ald 2 579, s_ald 0 580, s_ild 4 581, s_push (.inl (1)) 582, s_bin (fun x y => x + y) 583, s_lld L xs 584, s_callV 1 12 244 1 585, s_if2 (fun x y => eq32 x y) (fun _ _ => inferInstance) 828 586, s_push (.inl (0)) 587, s_zret, s_ald 1 589, s_ald 0 590, s_ild 4 591, s_push (.inl (1)) 592, s_bin (fun x y => x + y) 593, s_lld L xs 594, s_ald 0 595, s_ild 4 596, s_push (.inl (2)) 597, s_bin (fun x y => x + y) 598, s_lld L xs 599, s_callV 1 11 31 2 600]
set_option maxRecDepth 100000 in
set_option maxHeartbeats 4000000 in
theorem SL_14 (L : Nat) (xs : Nat → Int32) : pAllL L xs 560 (lawp_14 L xs) := by
  refine ⟨slw (sn_iadd (by decide +kernel) rfl), ?_⟩
  refine ⟨sl_ild (by decide +kernel) rfl, ?_⟩
  refine ⟨slw (sn_aload_n (k := 0) (by decide +kernel) rfl rfl), ?_⟩
  refine ⟨slw (sn_iload (by decide +kernel) rfl), ?_⟩
  refine ⟨slw (sn_iconst (by decide +kernel) rfl), ?_⟩
  refine ⟨slw (sn_iadd (by decide +kernel) rfl), ?_⟩
  refine ⟨sl_ild (by decide +kernel) rfl, ?_⟩
  refine ⟨slw (sn_callV (idx := 153) (C := RX12) (T := TX12) (N := 56) rfl (by decide) cal_243 (pmt8 132 rfl rfl) (pmt8 133 rfl rfl) (pmt8 134 rfl rfl) (by decide +kernel) rfl), ?_⟩
  refine ⟨slw (sn_icmp_eq (off := 401) (by decide +kernel) (by decide +kernel) rfl), ?_⟩
  refine ⟨slw (sn_iconst (by decide +kernel) rfl), ?_⟩
  refine ⟨slw (sn_zret (Or.inl rfl) (by decide +kernel)), ?_⟩
  refine ⟨slw (sn_aload_n (k := 1) (by decide +kernel) rfl rfl), ?_⟩
  refine ⟨slw (sn_aload_n (k := 0) (by decide +kernel) rfl rfl), ?_⟩
  refine ⟨slw (sn_iload (by decide +kernel) rfl), ?_⟩
  refine ⟨slw (sn_iconst (by decide +kernel) rfl), ?_⟩
  refine ⟨slw (sn_iadd (by decide +kernel) rfl), ?_⟩
  refine ⟨sl_ild (by decide +kernel) rfl, ?_⟩
  refine ⟨slw (sn_callV (idx := 154) (C := RX11) (T := TX11) (N := 18) rfl (by decide) cal_30 (pmt5 73 rfl rfl) (pmt5 74 rfl rfl) (pmt5 75 rfl rfl) (by decide +kernel) rfl), ?_⟩
  refine ⟨slw (sn_aload_n (k := 2) (by decide +kernel) rfl rfl), ?_⟩
  refine ⟨slw (sn_aload_n (k := 0) (by decide +kernel) rfl rfl), ?_⟩
  refine ⟨slw (sn_iload (by decide +kernel) rfl), ?_⟩
  refine ⟨slw (sn_iconst (by decide +kernel) rfl), ?_⟩
  refine ⟨slw (sn_iadd (by decide +kernel) rfl), ?_⟩
  refine ⟨sl_ild (by decide +kernel) rfl, ?_⟩
  refine ⟨slw (sn_callV (idx := 157) (C := RX12) (T := TX12) (N := 56) rfl (by decide) cal_244 (pmt8 136 rfl rfl) (pmt8 137 rfl rfl) (pmt8 138 rfl rfl) (by decide +kernel) rfl), ?_⟩
  refine ⟨slw (sn_icmp_eq (off := 376) (by decide +kernel) (by decide +kernel) rfl), ?_⟩
  refine ⟨slw (sn_iconst (by decide +kernel) rfl), ?_⟩
  refine ⟨slw (sn_zret (Or.inl rfl) (by decide +kernel)), ?_⟩
  refine ⟨slw (sn_aload_n (k := 1) (by decide +kernel) rfl rfl), ?_⟩
  refine ⟨slw (sn_aload_n (k := 0) (by decide +kernel) rfl rfl), ?_⟩
  refine ⟨slw (sn_iload (by decide +kernel) rfl), ?_⟩
  refine ⟨slw (sn_iconst (by decide +kernel) rfl), ?_⟩
  refine ⟨slw (sn_iadd (by decide +kernel) rfl), ?_⟩
  refine ⟨sl_ild (by decide +kernel) rfl, ?_⟩
  refine ⟨slw (sn_aload_n (k := 0) (by decide +kernel) rfl rfl), ?_⟩
  refine ⟨slw (sn_iload (by decide +kernel) rfl), ?_⟩
  refine ⟨slw (sn_iconst (by decide +kernel) rfl), ?_⟩
  refine ⟨slw (sn_iadd (by decide +kernel) rfl), ?_⟩
  refine ⟨sl_ild (by decide +kernel) rfl, ?_⟩
  refine ⟨slw (sn_callV (idx := 158) (C := RX11) (T := TX11) (N := 18) rfl (by decide) cal_31 (pmt5 77 rfl rfl) (pmt5 78 rfl rfl) (pmt5 79 rfl rfl) (by decide +kernel) rfl), ?_⟩
  trivial
def lawp_15 (L : Nat) (xs : Nat → Int32) : List pS := [s_ald 2 601, s_ald 0 602, s_ild 4 603, s_push (.inl (1)) 604, s_bin (fun x y => x + y) 605, s_lld L xs 606, s_ald 0 607, s_ild 4 608, s_push (.inl (2)) 609, s_bin (fun x y => x + y) 610, s_lld L xs 611, s_callV 1 12 245 2 612, s_if2 (fun x y => eq32 x y) (fun _ _ => inferInstance) 828 613, s_push (.inl (0)) 614, s_zret, s_ald 1 616, s_callV 1 11 32 0 617, s_ald 2 618, s_callV 1 12 246 0 619, s_if2 (fun x y => eq32 x y) (fun _ _ => inferInstance) 828 620, s_push (.inl (0)) 621, s_zret, s_ald 1 623, s_callV 1 11 33 0 624, s_ald 2 625, s_callV 1 12 248 0 626, s_if2 (fun x y => eq32 x y) (fun _ _ => inferInstance) 828 627, s_push (.inl (0)) 628, s_zret, s_ald 1 630, s_ald 0 631, s_ild 4 632, s_push (.inl (1)) 633, s_bin (fun x y => x + y) 634, s_lld L xs 635, s_ald 0 636, s_ild 4 637, s_push (.inl (2)) 638, s_bin (fun x y => x + y) 639, s_lld L xs 640]
set_option maxRecDepth 100000 in
set_option maxHeartbeats 4000000 in
theorem SL_15 (L : Nat) (xs : Nat → Int32) : pAllL L xs 600 (lawp_15 L xs) := by
  refine ⟨slw (sn_aload_n (k := 2) (by decide +kernel) rfl rfl), ?_⟩
  refine ⟨slw (sn_aload_n (k := 0) (by decide +kernel) rfl rfl), ?_⟩
  refine ⟨slw (sn_iload (by decide +kernel) rfl), ?_⟩
  refine ⟨slw (sn_iconst (by decide +kernel) rfl), ?_⟩
  refine ⟨slw (sn_iadd (by decide +kernel) rfl), ?_⟩
  refine ⟨sl_ild (by decide +kernel) rfl, ?_⟩
  refine ⟨slw (sn_aload_n (k := 0) (by decide +kernel) rfl rfl), ?_⟩
  refine ⟨slw (sn_iload (by decide +kernel) rfl), ?_⟩
  refine ⟨slw (sn_iconst (by decide +kernel) rfl), ?_⟩
  refine ⟨slw (sn_iadd (by decide +kernel) rfl), ?_⟩
  refine ⟨sl_ild (by decide +kernel) rfl, ?_⟩
  refine ⟨slw (sn_callV (idx := 161) (C := RX12) (T := TX12) (N := 56) rfl (by decide) cal_245 (pmt8 140 rfl rfl) (pmt8 141 rfl rfl) (pmt8 142 rfl rfl) (by decide +kernel) rfl), ?_⟩
  refine ⟨slw (sn_icmp_eq (off := 339) (by decide +kernel) (by decide +kernel) rfl), ?_⟩
  refine ⟨slw (sn_iconst (by decide +kernel) rfl), ?_⟩
  refine ⟨slw (sn_zret (Or.inl rfl) (by decide +kernel)), ?_⟩
  refine ⟨slw (sn_aload_n (k := 1) (by decide +kernel) rfl rfl), ?_⟩
  refine ⟨slw (sn_callV (idx := 162) (C := RX11) (T := TX11) (N := 18) rfl (by decide) cal_32 (pmt5 86 rfl rfl) (pmt5 87 rfl rfl) (pmt5 88 rfl rfl) (by decide +kernel) rfl), ?_⟩
  refine ⟨slw (sn_aload_n (k := 2) (by decide +kernel) rfl rfl), ?_⟩
  refine ⟨slw (sn_callV (idx := 165) (C := RX12) (T := TX12) (N := 56) rfl (by decide) cal_246 (pmt8 144 rfl rfl) (pmt8 145 rfl rfl) (pmt8 146 rfl rfl) (by decide +kernel) rfl), ?_⟩
  refine ⟨slw (sn_icmp_eq (off := 326) (by decide +kernel) (by decide +kernel) rfl), ?_⟩
  refine ⟨slw (sn_iconst (by decide +kernel) rfl), ?_⟩
  refine ⟨slw (sn_zret (Or.inl rfl) (by decide +kernel)), ?_⟩
  refine ⟨slw (sn_aload_n (k := 1) (by decide +kernel) rfl rfl), ?_⟩
  refine ⟨slw (sn_callV (idx := 166) (C := RX11) (T := TX11) (N := 18) rfl (by decide) cal_33 (pmt5 96 rfl rfl) (pmt5 97 rfl rfl) (pmt5 98 rfl rfl) (by decide +kernel) rfl), ?_⟩
  refine ⟨slw (sn_aload_n (k := 2) (by decide +kernel) rfl rfl), ?_⟩
  refine ⟨slw (sn_callV (idx := 169) (C := RX12) (T := TX12) (N := 56) rfl (by decide) cal_248 (pmt8 152 rfl rfl) (pmt8 153 rfl rfl) (pmt8 154 rfl rfl) (by decide +kernel) rfl), ?_⟩
  refine ⟨slw (sn_icmp_eq (off := 313) (by decide +kernel) (by decide +kernel) rfl), ?_⟩
  refine ⟨slw (sn_iconst (by decide +kernel) rfl), ?_⟩
  refine ⟨slw (sn_zret (Or.inl rfl) (by decide +kernel)), ?_⟩
  refine ⟨slw (sn_aload_n (k := 1) (by decide +kernel) rfl rfl), ?_⟩
  refine ⟨slw (sn_aload_n (k := 0) (by decide +kernel) rfl rfl), ?_⟩
  refine ⟨slw (sn_iload (by decide +kernel) rfl), ?_⟩
  refine ⟨slw (sn_iconst (by decide +kernel) rfl), ?_⟩
  refine ⟨slw (sn_iadd (by decide +kernel) rfl), ?_⟩
  refine ⟨sl_ild (by decide +kernel) rfl, ?_⟩
  refine ⟨slw (sn_aload_n (k := 0) (by decide +kernel) rfl rfl), ?_⟩
  refine ⟨slw (sn_iload (by decide +kernel) rfl), ?_⟩
  refine ⟨slw (sn_iconst (by decide +kernel) rfl), ?_⟩
  refine ⟨slw (sn_iadd (by decide +kernel) rfl), ?_⟩
  refine ⟨sl_ild (by decide +kernel) rfl, ?_⟩
  trivial
def lawp_16 (L : Nat) (xs : Nat → Int32) : List pS := [s_callV 1 11 34 2 641, s_ald 2 642, s_ald 0 643, s_ild 4 644, s_push (.inl (1)) 645, s_bin (fun x y => x + y) 646, s_lld L xs 647, s_ald 0 648, s_ild 4 649, s_push (.inl (2)) 650, s_bin (fun x y => x + y) 651, s_lld L xs 652, s_callV 1 12 250 2 653, s_if2 (fun x y => eq32 x y) (fun _ _ => inferInstance) 828 654, s_push (.inl (0)) 655, s_zret, s_ald 1 657, s_ald 0 658, s_ild 4 659, s_push (.inl (1)) 660, s_bin (fun x y => x + y) 661, s_lld L xs 662, s_ald 0 663, s_ild 4 664, s_push (.inl (2)) 665, s_bin (fun x y => x + y) 666, s_lld L xs 667, s_callV 1 11 35 2 668, s_ald 2 669, s_ald 0 670, s_ild 4 671, s_push (.inl (1)) 672, s_bin (fun x y => x + y) 673, s_lld L xs 674, s_ald 0 675, s_ild 4 676, s_push (.inl (2)) 677, s_bin (fun x y => x + y) 678, s_lld L xs 679, s_callV 1 12 251 2 680]
set_option maxRecDepth 100000 in
set_option maxHeartbeats 4000000 in
theorem SL_16 (L : Nat) (xs : Nat → Int32) : pAllL L xs 640 (lawp_16 L xs) := by
  refine ⟨slw (sn_callV (idx := 170) (C := RX11) (T := TX11) (N := 18) rfl (by decide) cal_34 (pmt5 100 rfl rfl) (pmt5 101 rfl rfl) (pmt5 102 rfl rfl) (by decide +kernel) rfl), ?_⟩
  refine ⟨slw (sn_aload_n (k := 2) (by decide +kernel) rfl rfl), ?_⟩
  refine ⟨slw (sn_aload_n (k := 0) (by decide +kernel) rfl rfl), ?_⟩
  refine ⟨slw (sn_iload (by decide +kernel) rfl), ?_⟩
  refine ⟨slw (sn_iconst (by decide +kernel) rfl), ?_⟩
  refine ⟨slw (sn_iadd (by decide +kernel) rfl), ?_⟩
  refine ⟨sl_ild (by decide +kernel) rfl, ?_⟩
  refine ⟨slw (sn_aload_n (k := 0) (by decide +kernel) rfl rfl), ?_⟩
  refine ⟨slw (sn_iload (by decide +kernel) rfl), ?_⟩
  refine ⟨slw (sn_iconst (by decide +kernel) rfl), ?_⟩
  refine ⟨slw (sn_iadd (by decide +kernel) rfl), ?_⟩
  refine ⟨sl_ild (by decide +kernel) rfl, ?_⟩
  refine ⟨slw (sn_callV (idx := 173) (C := RX12) (T := TX12) (N := 56) rfl (by decide) cal_250 (pmt8 160 rfl rfl) (pmt8 161 rfl rfl) (pmt8 162 rfl rfl) (by decide +kernel) rfl), ?_⟩
  refine ⟨slw (sn_icmp_eq (off := 276) (by decide +kernel) (by decide +kernel) rfl), ?_⟩
  refine ⟨slw (sn_iconst (by decide +kernel) rfl), ?_⟩
  refine ⟨slw (sn_zret (Or.inl rfl) (by decide +kernel)), ?_⟩
  refine ⟨slw (sn_aload_n (k := 1) (by decide +kernel) rfl rfl), ?_⟩
  refine ⟨slw (sn_aload_n (k := 0) (by decide +kernel) rfl rfl), ?_⟩
  refine ⟨slw (sn_iload (by decide +kernel) rfl), ?_⟩
  refine ⟨slw (sn_iconst (by decide +kernel) rfl), ?_⟩
  refine ⟨slw (sn_iadd (by decide +kernel) rfl), ?_⟩
  refine ⟨sl_ild (by decide +kernel) rfl, ?_⟩
  refine ⟨slw (sn_aload_n (k := 0) (by decide +kernel) rfl rfl), ?_⟩
  refine ⟨slw (sn_iload (by decide +kernel) rfl), ?_⟩
  refine ⟨slw (sn_iconst (by decide +kernel) rfl), ?_⟩
  refine ⟨slw (sn_iadd (by decide +kernel) rfl), ?_⟩
  refine ⟨sl_ild (by decide +kernel) rfl, ?_⟩
  refine ⟨slw (sn_callV (idx := 174) (C := RX11) (T := TX11) (N := 18) rfl (by decide) cal_35 (pmt5 109 rfl rfl) (pmt5 110 rfl rfl) (pmt5 111 rfl rfl) (by decide +kernel) rfl), ?_⟩
  refine ⟨slw (sn_aload_n (k := 2) (by decide +kernel) rfl rfl), ?_⟩
  refine ⟨slw (sn_aload_n (k := 0) (by decide +kernel) rfl rfl), ?_⟩
  refine ⟨slw (sn_iload (by decide +kernel) rfl), ?_⟩
  refine ⟨slw (sn_iconst (by decide +kernel) rfl), ?_⟩
  refine ⟨slw (sn_iadd (by decide +kernel) rfl), ?_⟩
  refine ⟨sl_ild (by decide +kernel) rfl, ?_⟩
  refine ⟨slw (sn_aload_n (k := 0) (by decide +kernel) rfl rfl), ?_⟩
  refine ⟨slw (sn_iload (by decide +kernel) rfl), ?_⟩
  refine ⟨slw (sn_iconst (by decide +kernel) rfl), ?_⟩
  refine ⟨slw (sn_iadd (by decide +kernel) rfl), ?_⟩
  refine ⟨sl_ild (by decide +kernel) rfl, ?_⟩
  refine ⟨slw (sn_callV (idx := 177) (C := RX12) (T := TX12) (N := 56) rfl (by decide) cal_251 (pmt8 164 rfl rfl) (pmt8 165 rfl rfl) (pmt8 166 rfl rfl) (by decide +kernel) rfl), ?_⟩
  trivial
def lawp_17 (L : Nat) (xs : Nat → Int32) : List pS := [s_if2 (fun x y => eq32 x y) (fun _ _ => inferInstance) 828 681, s_push (.inl (0)) 682, s_zret, s_ald 1 684, s_callV 1 11 36 0 685, s_ald 2 686, s_callV 1 12 252 0 687, s_if2 (fun x y => eq32 x y) (fun _ _ => inferInstance) 828 688, s_push (.inl (0)) 689, s_zret, s_ald 1 691, s_ald 0 692, s_ild 4 693, s_push (.inl (1)) 694, s_bin (fun x y => x + y) 695, s_lld L xs 696, s_callV 1 11 37 1 697, s_ald 2 698, s_ald 0 699, s_ild 4 700, s_push (.inl (1)) 701, s_bin (fun x y => x + y) 702, s_lld L xs 703, s_callV 1 12 254 1 704, s_if2 (fun x y => eq32 x y) (fun _ _ => inferInstance) 828 705, s_push (.inl (0)) 706, s_zret, s_ald 1 708, s_callV 1 11 38 0 709, s_ald 2 710, s_callV 1 12 255 0 711, s_if2 (fun x y => eq32 x y) (fun _ _ => inferInstance) 828 712, s_push (.inl (0)) 713, s_zret, s_ald 1 715, s_callV 1 11 39 0 716, s_ald 2 717, s_callV 1 12 257 0 718, s_if2 (fun x y => eq32 x y) (fun _ _ => inferInstance) 828 719, s_push (.inl (0)) 720]
set_option maxRecDepth 100000 in
set_option maxHeartbeats 4000000 in
theorem SL_17 (L : Nat) (xs : Nat → Int32) : pAllL L xs 680 (lawp_17 L xs) := by
  refine ⟨slw (sn_icmp_eq (off := 239) (by decide +kernel) (by decide +kernel) rfl), ?_⟩
  refine ⟨slw (sn_iconst (by decide +kernel) rfl), ?_⟩
  refine ⟨slw (sn_zret (Or.inl rfl) (by decide +kernel)), ?_⟩
  refine ⟨slw (sn_aload_n (k := 1) (by decide +kernel) rfl rfl), ?_⟩
  refine ⟨slw (sn_callV (idx := 178) (C := RX11) (T := TX11) (N := 18) rfl (by decide) cal_36 (pmt5 113 rfl rfl) (pmt5 114 rfl rfl) (pmt5 115 rfl rfl) (by decide +kernel) rfl), ?_⟩
  refine ⟨slw (sn_aload_n (k := 2) (by decide +kernel) rfl rfl), ?_⟩
  refine ⟨slw (sn_callV (idx := 181) (C := RX12) (T := TX12) (N := 56) rfl (by decide) cal_252 (pmt8 168 rfl rfl) (pmt8 169 rfl rfl) (pmt8 170 rfl rfl) (by decide +kernel) rfl), ?_⟩
  refine ⟨slw (sn_icmp_eq (off := 226) (by decide +kernel) (by decide +kernel) rfl), ?_⟩
  refine ⟨slw (sn_iconst (by decide +kernel) rfl), ?_⟩
  refine ⟨slw (sn_zret (Or.inl rfl) (by decide +kernel)), ?_⟩
  refine ⟨slw (sn_aload_n (k := 1) (by decide +kernel) rfl rfl), ?_⟩
  refine ⟨slw (sn_aload_n (k := 0) (by decide +kernel) rfl rfl), ?_⟩
  refine ⟨slw (sn_iload (by decide +kernel) rfl), ?_⟩
  refine ⟨slw (sn_iconst (by decide +kernel) rfl), ?_⟩
  refine ⟨slw (sn_iadd (by decide +kernel) rfl), ?_⟩
  refine ⟨sl_ild (by decide +kernel) rfl, ?_⟩
  refine ⟨slw (sn_callV (idx := 182) (C := RX11) (T := TX11) (N := 18) rfl (by decide) cal_37 (pmt5 125 rfl rfl) (pmt5 126 rfl rfl) (pmt5 127 rfl rfl) (by decide +kernel) rfl), ?_⟩
  refine ⟨slw (sn_aload_n (k := 2) (by decide +kernel) rfl rfl), ?_⟩
  refine ⟨slw (sn_aload_n (k := 0) (by decide +kernel) rfl rfl), ?_⟩
  refine ⟨slw (sn_iload (by decide +kernel) rfl), ?_⟩
  refine ⟨slw (sn_iconst (by decide +kernel) rfl), ?_⟩
  refine ⟨slw (sn_iadd (by decide +kernel) rfl), ?_⟩
  refine ⟨sl_ild (by decide +kernel) rfl, ?_⟩
  refine ⟨slw (sn_callV (idx := 185) (C := RX12) (T := TX12) (N := 56) rfl (by decide) cal_254 (pmt8 172 rfl rfl) (pmt8 173 rfl rfl) (pmt8 174 rfl rfl) (by decide +kernel) rfl), ?_⟩
  refine ⟨slw (sn_icmp_eq (off := 201) (by decide +kernel) (by decide +kernel) rfl), ?_⟩
  refine ⟨slw (sn_iconst (by decide +kernel) rfl), ?_⟩
  refine ⟨slw (sn_zret (Or.inl rfl) (by decide +kernel)), ?_⟩
  refine ⟨slw (sn_aload_n (k := 1) (by decide +kernel) rfl rfl), ?_⟩
  refine ⟨slw (sn_callV (idx := 186) (C := RX11) (T := TX11) (N := 18) rfl (by decide) cal_38 (pmt5 134 rfl rfl) (pmt5 135 rfl rfl) (pmt5 136 rfl rfl) (by decide +kernel) rfl), ?_⟩
  refine ⟨slw (sn_aload_n (k := 2) (by decide +kernel) rfl rfl), ?_⟩
  refine ⟨slw (sn_callV (idx := 189) (C := RX12) (T := TX12) (N := 56) rfl (by decide) cal_255 (pmt8 180 rfl rfl) (pmt8 181 rfl rfl) (pmt8 182 rfl rfl) (by decide +kernel) rfl), ?_⟩
  refine ⟨slw (sn_icmp_eq (off := 188) (by decide +kernel) (by decide +kernel) rfl), ?_⟩
  refine ⟨slw (sn_iconst (by decide +kernel) rfl), ?_⟩
  refine ⟨slw (sn_zret (Or.inl rfl) (by decide +kernel)), ?_⟩
  refine ⟨slw (sn_aload_n (k := 1) (by decide +kernel) rfl rfl), ?_⟩
  refine ⟨slw (sn_callV (idx := 190) (C := RX11) (T := TX11) (N := 18) rfl (by decide) cal_39 (pmt5 142 rfl rfl) (pmt5 143 rfl rfl) (pmt5 144 rfl rfl) (by decide +kernel) rfl), ?_⟩
  refine ⟨slw (sn_aload_n (k := 2) (by decide +kernel) rfl rfl), ?_⟩
  refine ⟨slw (sn_callV (idx := 193) (C := RX12) (T := TX12) (N := 56) rfl (by decide) cal_257 (pmt8 184 rfl rfl) (pmt8 185 rfl rfl) (pmt8 186 rfl rfl) (by decide +kernel) rfl), ?_⟩
  refine ⟨slw (sn_icmp_eq (off := 175) (by decide +kernel) (by decide +kernel) rfl), ?_⟩
  refine ⟨slw (sn_iconst (by decide +kernel) rfl), ?_⟩
  trivial
def lawp_18 (L : Nat) (xs : Nat → Int32) : List pS := [s_zret, s_ald 1 722, s_callV 1 11 40 0 723, s_ald 2 724, s_callV 1 12 259 0 725, s_if2 (fun x y => eq32 x y) (fun _ _ => inferInstance) 828 726, s_push (.inl (0)) 727, s_zret, s_ald 1 729, s_callV 1 11 41 0 730, s_ald 2 731, s_callV 1 12 263 0 732, s_if2 (fun x y => eq32 x y) (fun _ _ => inferInstance) 828 733, s_push (.inl (0)) 734, s_zret, s_ald 1 736, s_callV 1 11 42 0 737, s_ald 2 738, s_callV 1 12 264 0 739, s_if2 (fun x y => eq32 x y) (fun _ _ => inferInstance) 828 740, s_push (.inl (0)) 741, s_zret, s_ald 1 743, s_ald 0 744, s_ild 4 745, s_push (.inl (1)) 746, s_bin (fun x y => x + y) 747, s_lld L xs 748, s_callV 1 11 43 1 749, s_ald 2 750, s_ald 0 751, s_ild 4 752, s_push (.inl (1)) 753, s_bin (fun x y => x + y) 754, s_lld L xs 755, s_callV 1 12 266 1 756, s_if2 (fun x y => eq32 x y) (fun _ _ => inferInstance) 828 757, s_push (.inl (0)) 758, s_zret, s_ald 1 760]
set_option maxRecDepth 100000 in
set_option maxHeartbeats 4000000 in
theorem SL_18 (L : Nat) (xs : Nat → Int32) : pAllL L xs 720 (lawp_18 L xs) := by
  refine ⟨slw (sn_zret (Or.inl rfl) (by decide +kernel)), ?_⟩
  refine ⟨slw (sn_aload_n (k := 1) (by decide +kernel) rfl rfl), ?_⟩
  refine ⟨slw (sn_callV (idx := 194) (C := RX11) (T := TX11) (N := 18) rfl (by decide) cal_40 (pmt5 150 rfl rfl) (pmt5 151 rfl rfl) (pmt5 152 rfl rfl) (by decide +kernel) rfl), ?_⟩
  refine ⟨slw (sn_aload_n (k := 2) (by decide +kernel) rfl rfl), ?_⟩
  refine ⟨slw (sn_callV (idx := 197) (C := RX12) (T := TX12) (N := 56) rfl (by decide) cal_259 (pmt8 192 rfl rfl) (pmt8 193 rfl rfl) (pmt8 194 rfl rfl) (by decide +kernel) rfl), ?_⟩
  refine ⟨slw (sn_icmp_eq (off := 162) (by decide +kernel) (by decide +kernel) rfl), ?_⟩
  refine ⟨slw (sn_iconst (by decide +kernel) rfl), ?_⟩
  refine ⟨slw (sn_zret (Or.inl rfl) (by decide +kernel)), ?_⟩
  refine ⟨slw (sn_aload_n (k := 1) (by decide +kernel) rfl rfl), ?_⟩
  refine ⟨slw (sn_callV (idx := 198) (C := RX11) (T := TX11) (N := 18) rfl (by decide) cal_41 (pmt5 172 rfl rfl) (pmt5 173 rfl rfl) (pmt5 174 rfl rfl) (by decide +kernel) rfl), ?_⟩
  refine ⟨slw (sn_aload_n (k := 2) (by decide +kernel) rfl rfl), ?_⟩
  refine ⟨slw (sn_callV (idx := 201) (C := RX12) (T := TX12) (N := 56) rfl (by decide) cal_263 (pmt8 200 rfl rfl) (pmt8 201 rfl rfl) (pmt8 202 rfl rfl) (by decide +kernel) rfl), ?_⟩
  refine ⟨slw (sn_icmp_eq (off := 149) (by decide +kernel) (by decide +kernel) rfl), ?_⟩
  refine ⟨slw (sn_iconst (by decide +kernel) rfl), ?_⟩
  refine ⟨slw (sn_zret (Or.inl rfl) (by decide +kernel)), ?_⟩
  refine ⟨slw (sn_aload_n (k := 1) (by decide +kernel) rfl rfl), ?_⟩
  refine ⟨slw (sn_callV (idx := 202) (C := RX11) (T := TX11) (N := 18) rfl (by decide) cal_42 (pmt5 237 rfl rfl) (pmt5 238 rfl rfl) (pmt5 239 rfl rfl) (by decide +kernel) rfl), ?_⟩
  refine ⟨slw (sn_aload_n (k := 2) (by decide +kernel) rfl rfl), ?_⟩
  refine ⟨slw (sn_callV (idx := 205) (C := RX12) (T := TX12) (N := 56) rfl (by decide) cal_264 (pmt8 216 rfl rfl) (pmt8 217 rfl rfl) (pmt8 218 rfl rfl) (by decide +kernel) rfl), ?_⟩
  refine ⟨slw (sn_icmp_eq (off := 136) (by decide +kernel) (by decide +kernel) rfl), ?_⟩
  refine ⟨slw (sn_iconst (by decide +kernel) rfl), ?_⟩
  refine ⟨slw (sn_zret (Or.inl rfl) (by decide +kernel)), ?_⟩
  refine ⟨slw (sn_aload_n (k := 1) (by decide +kernel) rfl rfl), ?_⟩
  refine ⟨slw (sn_aload_n (k := 0) (by decide +kernel) rfl rfl), ?_⟩
  refine ⟨slw (sn_iload (by decide +kernel) rfl), ?_⟩
  refine ⟨slw (sn_iconst (by decide +kernel) rfl), ?_⟩
  refine ⟨slw (sn_iadd (by decide +kernel) rfl), ?_⟩
  refine ⟨sl_ild (by decide +kernel) rfl, ?_⟩
  refine ⟨slw (sn_callV (idx := 206) (C := RX11) (T := TX11) (N := 18) rfl (by decide) cal_43 (pmt6 10 rfl rfl) (pmt6 11 rfl rfl) (pmt6 12 rfl rfl) (by decide +kernel) rfl), ?_⟩
  refine ⟨slw (sn_aload_n (k := 2) (by decide +kernel) rfl rfl), ?_⟩
  refine ⟨slw (sn_aload_n (k := 0) (by decide +kernel) rfl rfl), ?_⟩
  refine ⟨slw (sn_iload (by decide +kernel) rfl), ?_⟩
  refine ⟨slw (sn_iconst (by decide +kernel) rfl), ?_⟩
  refine ⟨slw (sn_iadd (by decide +kernel) rfl), ?_⟩
  refine ⟨sl_ild (by decide +kernel) rfl, ?_⟩
  refine ⟨slw (sn_callV (idx := 209) (C := RX12) (T := TX12) (N := 56) rfl (by decide) cal_266 (pmt8 224 rfl rfl) (pmt8 225 rfl rfl) (pmt8 226 rfl rfl) (by decide +kernel) rfl), ?_⟩
  refine ⟨slw (sn_icmp_eq (off := 111) (by decide +kernel) (by decide +kernel) rfl), ?_⟩
  refine ⟨slw (sn_iconst (by decide +kernel) rfl), ?_⟩
  refine ⟨slw (sn_zret (Or.inl rfl) (by decide +kernel)), ?_⟩
  refine ⟨slw (sn_aload_n (k := 1) (by decide +kernel) rfl rfl), ?_⟩
  trivial
def lawp_19 (L : Nat) (xs : Nat → Int32) : List pS := [s_ald 0 761, s_ild 4 762, s_push (.inl (1)) 763, s_bin (fun x y => x + y) 764, s_lld L xs 765, s_callV 1 11 44 1 766, s_ald 2 767, s_ald 0 768, s_ild 4 769, s_push (.inl (1)) 770, s_bin (fun x y => x + y) 771, s_lld L xs 772, s_callV 1 12 267 1 773, s_if2 (fun x y => eq32 x y) (fun _ _ => inferInstance) 828 774, s_push (.inl (0)) 775, s_zret, s_ald 1 777, s_ald 0 778, s_ild 4 779, s_push (.inl (1)) 780, s_bin (fun x y => x + y) 781, s_lld L xs 782, s_callV 1 11 45 1 783, s_ald 2 784, s_ald 0 785, s_ild 4 786, s_push (.inl (1)) 787, s_bin (fun x y => x + y) 788, s_lld L xs 789, s_callV 1 12 268 1 790, s_if2 (fun x y => eq32 x y) (fun _ _ => inferInstance) 828 791, s_push (.inl (0)) 792, s_zret, s_ald 1 794, s_ald 0 795, s_ild 4 796, s_push (.inl (1)) 797, s_bin (fun x y => x + y) 798, s_lld L xs 799, s_ald 3 800]
set_option maxRecDepth 100000 in
set_option maxHeartbeats 4000000 in
theorem SL_19 (L : Nat) (xs : Nat → Int32) : pAllL L xs 760 (lawp_19 L xs) := by
  refine ⟨slw (sn_aload_n (k := 0) (by decide +kernel) rfl rfl), ?_⟩
  refine ⟨slw (sn_iload (by decide +kernel) rfl), ?_⟩
  refine ⟨slw (sn_iconst (by decide +kernel) rfl), ?_⟩
  refine ⟨slw (sn_iadd (by decide +kernel) rfl), ?_⟩
  refine ⟨sl_ild (by decide +kernel) rfl, ?_⟩
  refine ⟨slw (sn_callV (idx := 210) (C := RX11) (T := TX11) (N := 18) rfl (by decide) cal_44 (pmt6 23 rfl rfl) (pmt6 24 rfl rfl) (pmt6 25 rfl rfl) (by decide +kernel) rfl), ?_⟩
  refine ⟨slw (sn_aload_n (k := 2) (by decide +kernel) rfl rfl), ?_⟩
  refine ⟨slw (sn_aload_n (k := 0) (by decide +kernel) rfl rfl), ?_⟩
  refine ⟨slw (sn_iload (by decide +kernel) rfl), ?_⟩
  refine ⟨slw (sn_iconst (by decide +kernel) rfl), ?_⟩
  refine ⟨slw (sn_iadd (by decide +kernel) rfl), ?_⟩
  refine ⟨sl_ild (by decide +kernel) rfl, ?_⟩
  refine ⟨slw (sn_callV (idx := 213) (C := RX12) (T := TX12) (N := 56) rfl (by decide) cal_267 (pmt8 228 rfl rfl) (pmt8 229 rfl rfl) (pmt8 230 rfl rfl) (by decide +kernel) rfl), ?_⟩
  refine ⟨slw (sn_icmp_eq (off := 86) (by decide +kernel) (by decide +kernel) rfl), ?_⟩
  refine ⟨slw (sn_iconst (by decide +kernel) rfl), ?_⟩
  refine ⟨slw (sn_zret (Or.inl rfl) (by decide +kernel)), ?_⟩
  refine ⟨slw (sn_aload_n (k := 1) (by decide +kernel) rfl rfl), ?_⟩
  refine ⟨slw (sn_aload_n (k := 0) (by decide +kernel) rfl rfl), ?_⟩
  refine ⟨slw (sn_iload (by decide +kernel) rfl), ?_⟩
  refine ⟨slw (sn_iconst (by decide +kernel) rfl), ?_⟩
  refine ⟨slw (sn_iadd (by decide +kernel) rfl), ?_⟩
  refine ⟨sl_ild (by decide +kernel) rfl, ?_⟩
  refine ⟨slw (sn_callV (idx := 214) (C := RX11) (T := TX11) (N := 18) rfl (by decide) cal_45 (pmt6 31 rfl rfl) (pmt6 32 rfl rfl) (pmt6 33 rfl rfl) (by decide +kernel) rfl), ?_⟩
  refine ⟨slw (sn_aload_n (k := 2) (by decide +kernel) rfl rfl), ?_⟩
  refine ⟨slw (sn_aload_n (k := 0) (by decide +kernel) rfl rfl), ?_⟩
  refine ⟨slw (sn_iload (by decide +kernel) rfl), ?_⟩
  refine ⟨slw (sn_iconst (by decide +kernel) rfl), ?_⟩
  refine ⟨slw (sn_iadd (by decide +kernel) rfl), ?_⟩
  refine ⟨sl_ild (by decide +kernel) rfl, ?_⟩
  refine ⟨slw (sn_callV (idx := 217) (C := RX12) (T := TX12) (N := 56) rfl (by decide) cal_268 (pmt8 232 rfl rfl) (pmt8 233 rfl rfl) (pmt8 234 rfl rfl) (by decide +kernel) rfl), ?_⟩
  refine ⟨slw (sn_icmp_eq (off := 61) (by decide +kernel) (by decide +kernel) rfl), ?_⟩
  refine ⟨slw (sn_iconst (by decide +kernel) rfl), ?_⟩
  refine ⟨slw (sn_zret (Or.inl rfl) (by decide +kernel)), ?_⟩
  refine ⟨slw (sn_aload_n (k := 1) (by decide +kernel) rfl rfl), ?_⟩
  refine ⟨slw (sn_aload_n (k := 0) (by decide +kernel) rfl rfl), ?_⟩
  refine ⟨slw (sn_iload (by decide +kernel) rfl), ?_⟩
  refine ⟨slw (sn_iconst (by decide +kernel) rfl), ?_⟩
  refine ⟨slw (sn_iadd (by decide +kernel) rfl), ?_⟩
  refine ⟨sl_ild (by decide +kernel) rfl, ?_⟩
  refine ⟨slw (sn_aload_n (k := 3) (by decide +kernel) rfl rfl), ?_⟩
  trivial
def lawp_20 (L : Nat) (xs : Nat → Int32) : List pS := [s_none, s_ist 5 802, s_ald 2 803, s_ald 0 804, s_ild 4 805, s_push (.inl (1)) 806, s_bin (fun x y => x + y) 807, s_lld L xs 808, s_callV 1 12 269 1 809, s_ist 6 810, s_ald 2 811, s_callV 1 12 168 0 812, s_ild 5 813, s_if2 (fun x y => eq32 x y) (fun _ _ => inferInstance) 816 814, s_push (.inl (0)) 815, s_zret, s_ild 5 817, s_if (fun x => ¬ eq32 x 0) (fun _ => inferInstance) 827 818, s_lout 6 827 825, s_push (.inl (0)) 820, s_none, s_ild 6 822, s_none, s_none, s_if (fun x => eq32 x 0) (fun _ => inferInstance) 827 825, s_push (.inl (0)) 826, s_zret, s_goto 828, s_inc 4 (5) 829, s_goto 13, s_push (.inl (1)) 831, s_zret]
set_option maxRecDepth 100000 in
set_option maxHeartbeats 4000000 in
theorem SL_20 (L : Nat) (xs : Nat → Int32) : pAllL L xs 800 (lawp_20 L xs) := by
  refine ⟨slw (sn_none), ?_⟩
  refine ⟨slw (sn_istore (by decide +kernel) (by decide) rfl), ?_⟩
  refine ⟨slw (sn_aload_n (k := 2) (by decide +kernel) rfl rfl), ?_⟩
  refine ⟨slw (sn_aload_n (k := 0) (by decide +kernel) rfl rfl), ?_⟩
  refine ⟨slw (sn_iload (by decide +kernel) rfl), ?_⟩
  refine ⟨slw (sn_iconst (by decide +kernel) rfl), ?_⟩
  refine ⟨slw (sn_iadd (by decide +kernel) rfl), ?_⟩
  refine ⟨sl_ild (by decide +kernel) rfl, ?_⟩
  refine ⟨slw (sn_callV (idx := 221) (C := RX12) (T := TX12) (N := 56) rfl (by decide) cal_269 (pmt8 236 rfl rfl) (pmt8 237 rfl rfl) (pmt8 238 rfl rfl) (by decide +kernel) rfl), ?_⟩
  refine ⟨slw (sn_istore (by decide +kernel) (by decide) rfl), ?_⟩
  refine ⟨slw (sn_aload_n (k := 2) (by decide +kernel) rfl rfl), ?_⟩
  refine ⟨slw (sn_callV (idx := 50) (C := RX12) (T := TX12) (N := 56) rfl (by decide) cal_168 (pmt7 69 rfl rfl) (pmt7 70 rfl rfl) (pmt7 71 rfl rfl) (by decide +kernel) rfl), ?_⟩
  refine ⟨slw (sn_iload (by decide +kernel) rfl), ?_⟩
  refine ⟨slw (sn_icmp_eq (off := 5) (by decide +kernel) (by decide +kernel) rfl), ?_⟩
  refine ⟨slw (sn_iconst (by decide +kernel) rfl), ?_⟩
  refine ⟨slw (sn_zret (Or.inl rfl) (by decide +kernel)), ?_⟩
  refine ⟨slw (sn_iload (by decide +kernel) rfl), ?_⟩
  refine ⟨slw (sn_if_ne (off := 15) (by decide +kernel) (by decide +kernel) rfl), ?_⟩
  refine ⟨sl_out (off := 5) (by decide +kernel) (by decide +kernel) (by decide +kernel) (by decide +kernel) (by decide +kernel) (by decide +kernel) (by decide +kernel) (by decide +kernel) rfl, ?_⟩
  refine ⟨slw (sn_iconst (by decide +kernel) rfl), ?_⟩
  refine ⟨slw (sn_none), ?_⟩
  refine ⟨slw (sn_iload (by decide +kernel) rfl), ?_⟩
  refine ⟨slw (sn_none), ?_⟩
  refine ⟨slw (sn_none), ?_⟩
  refine ⟨slw (sn_if_eq (off := 5) (by decide +kernel) (by decide +kernel) rfl), ?_⟩
  refine ⟨slw (sn_iconst (by decide +kernel) rfl), ?_⟩
  refine ⟨slw (sn_zret (Or.inl rfl) (by decide +kernel)), ?_⟩
  refine ⟨slw (sn_goto (off := 3) (by decide +kernel) (by decide +kernel)), ?_⟩
  refine ⟨slw (sn_iinc (by decide +kernel) (by decide) rfl), ?_⟩
  refine ⟨slw (sn_goto (off := -1428) (by decide +kernel) (by decide +kernel)), ?_⟩
  refine ⟨slw (sn_iconst (by decide +kernel) rfl), ?_⟩
  refine ⟨slw (sn_zret (Or.inl rfl) (by decide +kernel)), ?_⟩
  trivial
theorem pAll_app {P : Nat → pS → Prop} : ∀ {a b : List pS} {i : Nat}, pAll P i a → pAll P (i + a.length) b → pAll P i (a ++ b)
  | [], _, _, _, h => h
  | f :: fs, b, i, h, h2 => ⟨h.1, pAll_app h.2 (by rw [show i + 1 + fs.length = i + (f :: fs).length by simp; omega]; exact h2)⟩
set_option maxRecDepth 100000 in
theorem lawp_eq (L : Nat) (xs : Nat → Int32) : lawp L xs = lawp_0 L xs ++ (lawp_1 L xs ++ (lawp_2 L xs ++ (lawp_3 L xs ++ (lawp_4 L xs ++ (lawp_5 L xs ++ (lawp_6 L xs ++ (lawp_7 L xs ++ (lawp_8 L xs ++ (lawp_9 L xs ++ (lawp_10 L xs ++ (lawp_11 L xs ++ (lawp_12 L xs ++ (lawp_13 L xs ++ (lawp_14 L xs ++ (lawp_15 L xs ++ (lawp_16 L xs ++ (lawp_17 L xs ++ (lawp_18 L xs ++ (lawp_19 L xs ++ (lawp_20 L xs)))))))))))))))))))) := rfl
set_option maxRecDepth 100000 in
theorem SL_all (L : Nat) (xs : Nat → Int32) : pAllL L xs 0 (lawp L xs) := by rw [lawp_eq]; exact pAll_app (SL_0 L xs) (pAll_app (SL_1 L xs) (pAll_app (SL_2 L xs) (pAll_app (SL_3 L xs) (pAll_app (SL_4 L xs) (pAll_app (SL_5 L xs) (pAll_app (SL_6 L xs) (pAll_app (SL_7 L xs) (pAll_app (SL_8 L xs) (pAll_app (SL_9 L xs) (pAll_app (SL_10 L xs) (pAll_app (SL_11 L xs) (pAll_app (SL_12 L xs) (pAll_app (SL_13 L xs) (pAll_app (SL_14 L xs) (pAll_app (SL_15 L xs) (pAll_app (SL_16 L xs) (pAll_app (SL_17 L xs) (pAll_app (SL_18 L xs) (pAll_app (SL_19 L xs) (SL_20 L xs))))))))))))))))))))
theorem lawc_snd (L : Nat) (xs : Nat → Int32) : ∀ i, pSndL L xs pyn pwk RL code 7 ret lawpc (lawpc i) (lawc L xs i) := by
  intro i
  unfold lawc
  cases hi : (lawp L xs)[i]? with
  | none => rw [List.getD_eq_getElem?_getD, hi]; exact slw sn_none
  | some f =>
    rw [List.getD_eq_getElem?_getD, hi]
    have h2 := pAll_get (SL_all L xs) hi
    rw [Nat.zero_add] at h2
    exact h2
