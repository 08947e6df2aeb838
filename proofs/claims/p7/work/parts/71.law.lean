/-! the law's own body in the pure machine: the script is object 93 (read only), the law's long[1] is object 90 -/
def s_lln (L nx : Nat) : pS := fun X _ ls st M => match st with
  | .inr 95 :: r => X nx ls (.inl (Int.ofNat L) :: r) M
  | _ => none
def s_lld (L : Nat) (xs : Nat → Int32) (nx : Nat) : pS := fun X _ ls st M => match st with
  | .inl i :: .inr 95 :: r => if 0 ≤ i ∧ i < Int.ofNat L then X nx ls (.inl (xs i.toNat).toInt :: r) M else none
  | _ => none
def isR92 : pV → Bool
  | .inr n => Nat.beq n 92
  | _ => false
theorem isR92_eq {v : pV} (h : isR92 v = true) : v = .inr 92 := by
  rcases v with z | n
  · cases h
  · exact congrArg Sum.inr (Nat.eq_of_beq_eq_true h)
def s_lout (i6 tgt nx : Nat) : pS := fun X _ ls st M => bif isR92 (ls.getD 3 (.inr 0)) then (match ls.getD i6 (.inr 0) with
    | .inl z => if Int64.ofInt (M 90 0) = (iI z).toInt64 then X tgt ls st M else X nx ls st M
    | .inr _ => none) else none
def pSc (ad : Nat → Nat) (A : Nat → Prop) (s : State) (L : Nat) (xs : Nat → Int32) : Prop := va_X (ad 93) L xs s s.heap ∧ ad 93 < s.heap.size ∧ ¬ A (ad 93) ∧ L ≤ 100000
def pSndL (L : Nat) (xs : Nat → Int32) (yn : Nat → MethodName) (wk : Nat → List Cond) (own : String) (cc : ByteArray) (nL : Nat) (ret : Option FieldType) (pcs : Nat → Nat) (bpc : Nat) (f : pS) : Prop :=
  ∀ (p : Program) (l : Launch) (e : Env) (R : Room) (s : State) (m : MethodId) (args : Array Value) (below : List Frame) (meth : Method) (c : Code) (G : va_G) (ad : Nat → Nat) (cA : Nat → ClassId) (A : Nat → Prop) (H0 : Heap) (kc ks : Nat) (Q : pR → State → Prop),
  pCx p R s m args meth c G ad cA A H0 own cc nL kc ks → pSc ad A s L xs → (∀ q : Nat, H0.size ≤ q → A q) → pRt p l e R s m args below meth c G ad cA A H0 kc ks Q cc ret →
  ∀ (X : pX) (Y : pY), pGd p l e R s m args below meth c G ad cA A H0 kc ks Q nL pcs X → pMt l G ad cA yn wk R Y →
  ∀ ls st M r, f X Y ls st M = some r → ∀ H locs arr, pWd G ad cA A H0 M H locs → pLs ad nL ls arr → W p l e R s m args below meth c H locs kc ks (Q r) (F0 m bpc arr (st.map (ptv ad)))
section SNL
variable {L : Nat} {xs : Nat → Int32} {yn : Nat → MethodName} {wk : Nat → List Cond} {own : String} {cc : ByteArray} {nL : Nat} {ret : Option FieldType} {pcs : Nat → Nat} {bpc : Nat}
theorem slw {f : pS} (h : pSnd yn wk own cc nL ret pcs bpc f) : pSndL L xs yn wk own cc nL ret pcs bpc f := by
  intro p l e R s m args below meth c G ad cA A H0 kc ks Q hC _ hA hR
  exact h p l e R s m args below meth c G ad cA A H0 kc ks Q hC hA hR
theorem sl_len {nx : Nat} (hd : decode cc bpc = .ok (.arraylength, 1)) (hn : pcs nx = bpc + 1) : pSndL L xs yn wk own cc nL ret pcs bpc (s_lln L nx) := by
  intro p l e R s m args below meth c G ad cA A H0 kc ks Q ⟨hx, hb, hml, hown, hts, hnw, hK, hkc, hks, hfr, hlo, hH0, hRO⟩ ⟨hX1, hX2, hX3, hX4⟩ hA hR X Y hX hY ls st M r h H locs arr hW hl
  by_cases hs : ∃ rest, st = .inr 95 :: rest
  · obtain ⟨rest, rfl⟩ := hs
    have h : X nx ls (.inl (Int.ofNat L) :: rest) M = some r := h
    subst hH0
    show W p l e R s m args below meth c H locs kc ks (Q r) (F0 m bpc arr (.ref (ad 93) :: rest.map (ptv ad)))
    refine va_slen hx hb hX1 hX2 hX3 hW.2.2 hd ?_
    rw [← hn]
    have e1 : Value.int (Int32.ofNat L) = ptv ad (.inl (Int.ofNat L)) := congrArg Value.int Int32.ofInt_eq_ofNat.symm
    rw [e1]
    exact hX _ _ _ _ _ h _ _ _ hW hl
  · exfalso
    unfold s_lln at h
    split at h
    · exact hs ⟨_, rfl⟩
    · cases h
theorem sl_ild {nx : Nat} (hd : decode cc bpc = .ok (.iaload, 1)) (hn : pcs nx = bpc + 1) : pSndL L xs yn wk own cc nL ret pcs bpc (s_lld L xs nx) := by
  intro p l e R s m args below meth c G ad cA A H0 kc ks Q ⟨hx, hb, hml, hown, hts, hnw, hK, hkc, hks, hfr, hlo, hH0, hRO⟩ ⟨hX1, hX2, hX3, hX4⟩ hA hR X Y hX hY ls st M r h H locs arr hW hl
  by_cases hs : ∃ i rest, st = .inl i :: .inr 95 :: rest
  · obtain ⟨i, rest, rfl⟩ := hs
    have h : (if 0 ≤ i ∧ i < Int.ofNat L then X nx ls (.inl (xs i.toNat).toInt :: rest) M else none) = some r := h
    split at h
    · rename_i hi
      obtain ⟨hin, hcl⟩ := iI_in hi.1 hi.2 hX4
      subst hH0
      show W p l e R s m args below meth c H locs kc ks (Q r) (F0 m bpc arr (.int (iI i) :: .ref (ad 93) :: rest.map (ptv ad)))
      refine va_sld hx hb hX1 hX2 hX3 hW.2.2 hin hd ?_
      rw [hcl, ← hn]
      have e1 : Value.int (xs i.toNat) = ptv ad (.inl (xs i.toNat).toInt) := congrArg Value.int (Int32.ofInt_toInt _).symm
      rw [e1]
      exact hX _ _ _ _ _ h _ _ _ hW hl
    · cases h
  · exfalso
    unfold s_lld at h
    split at h
    · exact hs ⟨_, _, rfl⟩
    · cases h
theorem lg_cmp_zero {x y : Int64} : lg_cmp x y = 0 ↔ x = y := by
  unfold lg_cmp
  constructor
  · intro h
    split at h
    · cases h
    · split at h
      · assumption
      · first | cases h | (exfalso; revert h; decide)
  · intro h; subst h
    simp
theorem pW_out {ad : Nat → Nat} {cA : Nat → ClassId} {M : pM} : (pW ad cA M)[90]? = some (ad 90, .inl (cA 90, 1, .inr (.inl fun i => Int64.ofInt (M 90 i)))) := by
  rw [pW_at ad cA M (by decide)]; rfl
theorem pty_out (cA : Nat → ClassId) : ∃ t0 : Nat, (ptys cA)[t0]? = some (cA 90, .long) := by
  obtain ⟨t0, h⟩ := ptys_at cA (o := 90) (by decide +kernel) (by decide +kernel)
  exact ⟨t0, h⟩
theorem sl_out {i6 tgt nx : Nat} {off : Int} (d0 : decode cc bpc = .ok (.aload_n 3, 1)) (d1 : decode cc (bpc + 1) = .ok (.iconst 0, 1)) (d2 : decode cc (bpc + 2) = .ok (.laload, 1)) (d3 : decode cc (bpc + 3) = .ok (.iload i6, 2)) (d5 : decode cc (bpc + 5) = .ok (.i2l, 1)) (d6 : decode cc (bpc + 6) = .ok (.lcmp, 1)) (d7 : decode cc (bpc + 7) = .ok (.ifCond .eq off, 3)) (ht : ((bpc + 7 : Nat) : Int) + off = (pcs tgt : Int)) (hn : pcs nx = bpc + 10) : pSndL L xs yn wk own cc nL ret pcs bpc (s_lout i6 tgt nx) := by
  intro p l e R s m args below meth c G ad cA A H0 kc ks Q ⟨hx, hb, hml, hown, hts, hnw, hK, hkc, hks, hfr, hlo, hH0, hRO⟩ ⟨hX1, hX2, hX3, hX4⟩ hA hR X Y hX hY ls st M r h H locs arr hW hl
  unfold s_lout at h
  cases hb9 : isR92 (ls.getD 3 (.inr 0)) with
  | false => rw [hb9] at h; cases h
  | true =>
    have h3 := isR92_eq hb9
    rw [hb9, cond_true] at h
    rcases h6 : ls.getD i6 (.inr 0) with z | k
    · rw [h6] at h
      dsimp only at h
      have a3 := pLs_at hl h3 (by intro q; cases q)
      have a6 := pLs_at hl h6 (by intro q; cases q)
      refine lv_aload_n (x := ad 90) hx hb d0 rfl a3.1 ?_
      refine lv_iconst (v := iI 0) hx hb d1 rfl ?_
      obtain ⟨t0, ht0⟩ := pty_out cA
      refine va_lald hx hb hK hW.1 90 t0 pW_out ht0 (by unfold vp_in; decide +kernel) d2 ?_
      refine lv_iload (x := iI z) hx hb d3 a6.1 ?_
      refine lv_i2l hx hb d5 rfl ?_
      refine W.lcmp hx hb d6 ?_
      refine lv_if_eq hx hb d7 ht (fun q => ?_) (fun q => ?_)
      · rw [if_pos (show Int64.ofInt (M 90 0) = (iI z).toInt64 from lg_cmp_zero.mp q)] at h
        exact hX _ _ _ _ _ h _ _ _ hW hl
      · rw [if_neg (show ¬ Int64.ofInt (M 90 0) = (iI z).toInt64 from fun e => q (lg_cmp_zero.mpr e))] at h
        rw [show bpc + 1 + 1 + 1 + 2 + 1 + 1 + 3 = pcs nx by rw [hn]]
        exact hX _ _ _ _ _ h _ _ _ hW hl
    · rw [h6] at h; cases h
end SNL
/-- many steps at once are sound, where what comes behind them is -/
theorem prun_snd {L : Nat} {xs : Nat → Int32} {yn : Nat → MethodName} {wk : Nat → List Cond} {own : String} {cc : ByteArray} {nL : Nat} {ret : Option FieldType} {pcs : Nat → Nat} {code : Nat → pS} (hS : ∀ i, pSndL L xs yn wk own cc nL ret pcs (pcs i) (code i))
    {p : Program} {l : Launch} {e : Env} {R : Room} {s : State} {m : MethodId} {args : Array Value} {below : List Frame} {meth : Method} {c : Code} {G : va_G} {ad : Nat → Nat} {cA : Nat → ClassId} {A : Nat → Prop} {H0 : Heap} {kc ks : Nat} {Q : pR → State → Prop}
    (hC : pCx p R s m args meth c G ad cA A H0 own cc nL kc ks) (hL : pSc ad A s L xs) (hA : ∀ q : Nat, H0.size ≤ q → A q) (hR : pRt p l e R s m args below meth c G ad cA A H0 kc ks Q cc ret) (stop : Nat → Bool)
    {X : pX} {Y : pY} (hX : pGd p l e R s m args below meth c G ad cA A H0 kc ks Q nL pcs X) (hY : pMt l G ad cA yn wk R Y) : ∀ n, pGd p l e R s m args below meth c G ad cA A H0 kc ks Q nL pcs (prun code stop X Y n) := by
  intro n
  induction n with
  | zero => exact hX
  | succ n ih =>
    intro i ls st M r h H locs arr hW hl
    refine hS i p l e R s m args below meth c G ad cA A H0 kc ks Q hC hL hA hR (fun i' ls' st' M' => bif stop i' then X i' ls' st' M' else prun code stop X Y n i' ls' st' M') Y ?_ hY ls st M r h H locs arr hW hl
    intro i' ls' st' M' r' h'
    dsimp only at h'
    cases hs : stop i' with
    | true => rw [hs] at h'; exact hX i' ls' st' M' r' h'
    | false => rw [hs] at h'; exact ih i' ls' st' M' r' h'
/-- the same for a method without a script -/
theorem prun_snd0 {yn : Nat → MethodName} {wk : Nat → List Cond} {own : String} {cc : ByteArray} {nL : Nat} {ret : Option FieldType} {pcs : Nat → Nat} {code : Nat → pS} (hS : ∀ i, pSnd yn wk own cc nL ret pcs (pcs i) (code i))
    {p : Program} {l : Launch} {e : Env} {R : Room} {s : State} {m : MethodId} {args : Array Value} {below : List Frame} {meth : Method} {c : Code} {G : va_G} {ad : Nat → Nat} {cA : Nat → ClassId} {A : Nat → Prop} {H0 : Heap} {kc ks : Nat} {Q : pR → State → Prop}
    (hC : pCx p R s m args meth c G ad cA A H0 own cc nL kc ks) (hA : ∀ q : Nat, H0.size ≤ q → A q) (hR : pRt p l e R s m args below meth c G ad cA A H0 kc ks Q cc ret) (stop : Nat → Bool)
    {X : pX} {Y : pY} (hX : pGd p l e R s m args below meth c G ad cA A H0 kc ks Q nL pcs X) (hY : pMt l G ad cA yn wk R Y) : ∀ n, pGd p l e R s m args below meth c G ad cA A H0 kc ks Q nL pcs (prun code stop X Y n) := by
  intro n
  induction n with
  | zero => exact hX
  | succ n ih =>
    intro i ls st M r h H locs arr hW hl
    refine hS i p l e R s m args below meth c G ad cA A H0 kc ks Q hC hA hR (fun i' ls' st' M' => bif stop i' then X i' ls' st' M' else prun code stop X Y n i' ls' st' M') Y ?_ hY ls st M r h H locs arr hW hl
    intro i' ls' st' M' r' h'
    dsimp only at h'
    cases hs : stop i' with
    | true => rw [hs] at h'; exact hX i' ls' st' M' r' h'
    | false => rw [hs] at h'; exact ih i' ls' st' M' r' h'
/-! the law as a list of steps (by program) -/
theorem cal_0 : pCal pyn pwk 0 1 2 cX11_sign (some .int) := ⟨rfl, pmt2 178 rfl rfl, by decide, pmt1 1 rfl rfl, ⟨by decide +kernel, by decide +kernel, by decide +kernel⟩⟩
theorem cal_1 : pCal pyn pwk 1 1 2 cX11_end (some .boolean) := ⟨rfl, pmt2 186 rfl rfl, by decide, pmt1 1 rfl rfl, ⟨by decide +kernel, by decide +kernel, by decide +kernel⟩⟩
theorem cal_2 : pCal pyn pwk 2 0 2 cX11_house (some .int) := ⟨rfl, pmt2 194 rfl rfl, by decide, pmt1 1 rfl rfl, ⟨by decide +kernel, by decide +kernel, by decide +kernel⟩⟩
theorem cal_3 : pCal pyn pwk 3 0 2 cX11_rule (some .int) := ⟨rfl, pmt3 87 rfl rfl, by decide, pmt1 1 rfl rfl, ⟨by decide +kernel, by decide +kernel, by decide +kernel⟩⟩
theorem cal_4 : pCal pyn pwk 4 2 3 cX11_room (some .int) := ⟨rfl, pmt6 47 rfl rfl, by decide, pmt1 1 rfl rfl, ⟨by decide +kernel, by decide +kernel, by decide +kernel⟩⟩
theorem cal_5 : pCal pyn pwk 5 2 3 cX11_thing (some .int) := ⟨rfl, pmt6 122 rfl rfl, by decide, pmt1 1 rfl rfl, ⟨by decide +kernel, by decide +kernel, by decide +kernel⟩⟩
theorem cal_6 : pCal pyn pwk 6 1 2 cX11_set (some .int) := ⟨rfl, pmt3 222 rfl rfl, by decide, pmt1 1 rfl rfl, ⟨by decide +kernel, by decide +kernel, by decide +kernel⟩⟩
theorem cal_7 : pCal pyn pwk 7 2 4 cX11_door (some .int) := ⟨rfl, pmt3 226 rfl rfl, by decide, pmt1 1 rfl rfl, ⟨by decide +kernel, by decide +kernel, by decide +kernel⟩⟩
theorem cal_8 : pCal pyn pwk 8 3 5 cX11_widen (some .int) := ⟨rfl, pmt3 235 rfl rfl, by decide, pmt1 1 rfl rfl, ⟨by decide +kernel, by decide +kernel, by decide +kernel⟩⟩
theorem cal_9 : pCal pyn pwk 9 1 3 cX11_strength (some .int) := ⟨rfl, pmt4 0 rfl rfl, by decide, pmt1 1 rfl rfl, ⟨by decide +kernel, by decide +kernel, by decide +kernel⟩⟩
theorem cal_10 : pCal pyn pwk 10 4 5 cX11_sheet (some .int) := ⟨rfl, pmt4 4 rfl rfl, by decide, pmt1 1 rfl rfl, ⟨by decide +kernel, by decide +kernel, by decide +kernel⟩⟩
theorem cal_12 : pCal pyn pwk 12 0 3 cX11_evening (some .int) := ⟨rfl, pmt4 55 rfl rfl, by decide, pmt1 1 rfl rfl, ⟨by decide +kernel, by decide +kernel, by decide +kernel⟩⟩
theorem cal_13 : pCal pyn pwk 13 0 7 cX11_day (some .int) := ⟨rfl, pmt4 96 rfl rfl, by decide, pmt1 1 rfl rfl, ⟨by decide +kernel, by decide +kernel, by decide +kernel⟩⟩
theorem cal_14 : pCal pyn pwk 14 0 2 cX11_undo (some .int) := ⟨rfl, pmt4 126 rfl rfl, by decide, pmt1 1 rfl rfl, ⟨by decide +kernel, by decide +kernel, by decide +kernel⟩⟩
theorem cal_15 : pCal pyn pwk 15 2 8 cX11_judge (some .int) := ⟨rfl, pmt4 130 rfl rfl, by decide, pmt1 1 rfl rfl, ⟨by decide +kernel, by decide +kernel, by decide +kernel⟩⟩
theorem cal_16 : pCal pyn pwk 16 0 2 cX11_clumps (some .int) := ⟨rfl, pmt4 135 rfl rfl, by decide, pmt1 1 rfl rfl, ⟨by decide +kernel, by decide +kernel, by decide +kernel⟩⟩
theorem cal_17 : pCal pyn pwk 17 0 3 cX11_heaviest (some .int) := ⟨rfl, pmt4 139 rfl rfl, by decide, pmt1 1 rfl rfl, ⟨by decide +kernel, by decide +kernel, by decide +kernel⟩⟩
theorem cal_18 : pCal pyn pwk 18 1 3 cX11_without (some .int) := ⟨rfl, pmt4 151 rfl rfl, by decide, pmt1 1 rfl rfl, ⟨by decide +kernel, by decide +kernel, by decide +kernel⟩⟩
theorem cal_19 : pCal pyn pwk 19 1 2 cX11_breaks (some .int) := ⟨rfl, pmt4 165 rfl rfl, by decide, pmt1 1 rfl rfl, ⟨by decide +kernel, by decide +kernel, by decide +kernel⟩⟩
theorem cal_20 : pCal pyn pwk 20 0 3 cX11_ties (some .int) := ⟨rfl, pmt4 173 rfl rfl, by decide, pmt1 1 rfl rfl, ⟨by decide +kernel, by decide +kernel, by decide +kernel⟩⟩
theorem cal_21 : pCal pyn pwk 21 0 1 cX11_fits (some .int) := ⟨rfl, pmt4 177 rfl rfl, by decide, pmt1 1 rfl rfl, ⟨by decide +kernel, by decide +kernel, by decide +kernel⟩⟩
theorem cal_22 : pCal pyn pwk 22 0 3 cX11_worth (some .int) := ⟨rfl, pmt4 224 rfl rfl, by decide, pmt1 1 rfl rfl, ⟨by decide +kernel, by decide +kernel, by decide +kernel⟩⟩
theorem cal_23 : pCal pyn pwk 23 0 3 cX11_best (some .int) := ⟨rfl, pmt5 11 rfl rfl, by decide, pmt1 1 rfl rfl, ⟨by decide +kernel, by decide +kernel, by decide +kernel⟩⟩
theorem cal_24 : pCal pyn pwk 24 0 1 cX11_near (some .int) := ⟨rfl, pmt5 19 rfl rfl, by decide, pmt1 1 rfl rfl, ⟨by decide +kernel, by decide +kernel, by decide +kernel⟩⟩
theorem cal_25 : pCal pyn pwk 25 2 3 cX11_guest (some .int) := ⟨rfl, pmt5 32 rfl rfl, by decide, pmt1 1 rfl rfl, ⟨by decide +kernel, by decide +kernel, by decide +kernel⟩⟩
theorem cal_26 : pCal pyn pwk 26 0 3 cX11_space (some .int) := ⟨rfl, pmt5 36 rfl rfl, by decide, pmt1 1 rfl rfl, ⟨by decide +kernel, by decide +kernel, by decide +kernel⟩⟩
theorem cal_27 : pCal pyn pwk 27 2 7 cX11_could (some .int) := ⟨rfl, pmt5 44 rfl rfl, by decide, pmt1 1 rfl rfl, ⟨by decide +kernel, by decide +kernel, by decide +kernel⟩⟩
theorem cal_28 : pCal pyn pwk 28 1 7 cX11_may (some .int) := ⟨rfl, pmt5 59 rfl rfl, by decide, pmt1 1 rfl rfl, ⟨by decide +kernel, by decide +kernel, by decide +kernel⟩⟩
theorem cal_29 : pCal pyn pwk 29 2 8 cX11_together (some .int) := ⟨rfl, pmt5 72 rfl rfl, by decide, pmt1 1 rfl rfl, ⟨by decide +kernel, by decide +kernel, by decide +kernel⟩⟩
theorem cal_30 : pCal pyn pwk 30 1 2 cX11_fullest (some .int) := ⟨rfl, pmt5 76 rfl rfl, by decide, pmt1 1 rfl rfl, ⟨by decide +kernel, by decide +kernel, by decide +kernel⟩⟩
theorem cal_31 : pCal pyn pwk 31 2 4 cX11_swap (some .int) := ⟨rfl, pmt5 80 rfl rfl, by decide, pmt1 1 rfl rfl, ⟨by decide +kernel, by decide +kernel, by decide +kernel⟩⟩
theorem cal_32 : pCal pyn pwk 32 0 4 cX11_sell (some .int) := ⟨rfl, pmt5 89 rfl rfl, by decide, pmt1 1 rfl rfl, ⟨by decide +kernel, by decide +kernel, by decide +kernel⟩⟩
theorem cal_33 : pCal pyn pwk 33 0 4 cX11_build (some .int) := ⟨rfl, pmt5 99 rfl rfl, by decide, pmt1 1 rfl rfl, ⟨by decide +kernel, by decide +kernel, by decide +kernel⟩⟩
theorem cal_34 : pCal pyn pwk 34 2 7 cX11_way (some .int) := ⟨rfl, pmt5 103 rfl rfl, by decide, pmt1 1 rfl rfl, ⟨by decide +kernel, by decide +kernel, by decide +kernel⟩⟩
theorem cal_35 : pCal pyn pwk 35 2 4 cX11_widest (some .int) := ⟨rfl, pmt5 112 rfl rfl, by decide, pmt1 1 rfl rfl, ⟨by decide +kernel, by decide +kernel, by decide +kernel⟩⟩
theorem cal_36 : pCal pyn pwk 36 0 3 cX11_stuck (some .int) := ⟨rfl, pmt5 116 rfl rfl, by decide, pmt1 1 rfl rfl, ⟨by decide +kernel, by decide +kernel, by decide +kernel⟩⟩
theorem cal_37 : pCal pyn pwk 37 1 8 cX11_hinge (some .int) := ⟨rfl, pmt5 128 rfl rfl, by decide, pmt1 1 rfl rfl, ⟨by decide +kernel, by decide +kernel, by decide +kernel⟩⟩
theorem cal_38 : pCal pyn pwk 38 0 4 cX11_aim (some .int) := ⟨rfl, pmt5 137 rfl rfl, by decide, pmt1 1 rfl rfl, ⟨by decide +kernel, by decide +kernel, by decide +kernel⟩⟩
theorem cal_39 : pCal pyn pwk 39 0 2 cX11_apart (some .int) := ⟨rfl, pmt5 145 rfl rfl, by decide, pmt1 1 rfl rfl, ⟨by decide +kernel, by decide +kernel, by decide +kernel⟩⟩
theorem cal_40 : pCal pyn pwk 40 0 2 cX11_queue (some .int) := ⟨rfl, pmt5 153 rfl rfl, by decide, pmt1 1 rfl rfl, ⟨by decide +kernel, by decide +kernel, by decide +kernel⟩⟩
theorem cal_41 : pCal pyn pwk 41 0 4 cX11_evenings (some .int) := ⟨rfl, pmt5 175 rfl rfl, by decide, pmt1 1 rfl rfl, ⟨by decide +kernel, by decide +kernel, by decide +kernel⟩⟩
theorem cal_42 : pCal pyn pwk 42 0 4 cX11_weakest (some .int) := ⟨rfl, pmt6 0 rfl rfl, by decide, pmt1 1 rfl rfl, ⟨by decide +kernel, by decide +kernel, by decide +kernel⟩⟩
theorem cal_43 : pCal pyn pwk 43 1 3 cX11_keep (some .boolean) := ⟨rfl, pmt6 13 rfl rfl, by decide, pmt1 1 rfl rfl, ⟨by decide +kernel, by decide +kernel, by decide +kernel⟩⟩
theorem cal_44 : pCal pyn pwk 44 1 3 cX11_again (some .boolean) := ⟨rfl, pmt6 26 rfl rfl, by decide, pmt1 1 rfl rfl, ⟨by decide +kernel, by decide +kernel, by decide +kernel⟩⟩
theorem cal_45 : pCal pyn pwk 45 1 2 cX11_count (some .int) := ⟨rfl, pmt6 34 rfl rfl, by decide, pmt1 1 rfl rfl, ⟨by decide +kernel, by decide +kernel, by decide +kernel⟩⟩
theorem cal_46 : pCal pyn pwk 46 1 2 cX11_row (some .int) := ⟨rfl, pmt6 131 rfl rfl, by decide, pmt1 1 rfl rfl, ⟨by decide +kernel, by decide +kernel, by decide +kernel⟩⟩
theorem cal_168 : pCal pyn pwk 168 0 1 cX12_thrown (some .int) := ⟨rfl, pmt7 72 rfl rfl, by decide, pmt1 13 rfl rfl, ⟨by decide +kernel, by decide +kernel, by decide +kernel⟩⟩
theorem cal_175 : pCal pyn pwk 175 1 3 cX12_sign (some .int) := ⟨rfl, pmt7 76 rfl rfl, by decide, pmt1 13 rfl rfl, ⟨by decide +kernel, by decide +kernel, by decide +kernel⟩⟩
theorem cal_176 : pCal pyn pwk 176 1 2 cX12_end (some .boolean) := ⟨rfl, pmt7 80 rfl rfl, by decide, pmt1 13 rfl rfl, ⟨by decide +kernel, by decide +kernel, by decide +kernel⟩⟩
theorem cal_184 : pCal pyn pwk 184 0 9 cX12_house (some .int) := ⟨rfl, pmt7 87 rfl rfl, by decide, pmt1 13 rfl rfl, ⟨by decide +kernel, by decide +kernel, by decide +kernel⟩⟩
theorem cal_193 : pCal pyn pwk 193 0 3 cX12_rule (some .int) := ⟨rfl, pmt7 131 rfl rfl, by decide, pmt1 13 rfl rfl, ⟨by decide +kernel, by decide +kernel, by decide +kernel⟩⟩
theorem cal_199 : pCal pyn pwk 199 2 5 cX12_room (some .int) := ⟨rfl, pmt7 167 rfl rfl, by decide, pmt1 13 rfl rfl, ⟨by decide +kernel, by decide +kernel, by decide +kernel⟩⟩
theorem cal_201 : pCal pyn pwk 201 2 3 cX12_thing (some .int) := ⟨rfl, pmt7 183 rfl rfl, by decide, pmt1 13 rfl rfl, ⟨by decide +kernel, by decide +kernel, by decide +kernel⟩⟩
theorem cal_202 : pCal pyn pwk 202 1 2 cX12_set (some .int) := ⟨rfl, pmt7 201 rfl rfl, by decide, pmt1 13 rfl rfl, ⟨by decide +kernel, by decide +kernel, by decide +kernel⟩⟩
theorem cal_203 : pCal pyn pwk 203 2 3 cX12_door (some .int) := ⟨rfl, pmt7 205 rfl rfl, by decide, pmt1 13 rfl rfl, ⟨by decide +kernel, by decide +kernel, by decide +kernel⟩⟩
theorem cal_204 : pCal pyn pwk 204 3 5 cX12_widen (some .int) := ⟨rfl, pmt7 209 rfl rfl, by decide, pmt1 13 rfl rfl, ⟨by decide +kernel, by decide +kernel, by decide +kernel⟩⟩
theorem cal_205 : pCal pyn pwk 205 1 3 cX12_strength (some .int) := ⟨rfl, pmt7 213 rfl rfl, by decide, pmt1 13 rfl rfl, ⟨by decide +kernel, by decide +kernel, by decide +kernel⟩⟩
theorem cal_206 : pCal pyn pwk 206 4 9 cX12_sheet (some .int) := ⟨rfl, pmt7 217 rfl rfl, by decide, pmt1 13 rfl rfl, ⟨by decide +kernel, by decide +kernel, by decide +kernel⟩⟩
theorem cal_216 : pCal pyn pwk 216 2 4 cX12_carry (some .int) := ⟨rfl, pmt7 221 rfl rfl, by decide, pmt1 13 rfl rfl, ⟨by decide +kernel, by decide +kernel, by decide +kernel⟩⟩
theorem cal_218 : pCal pyn pwk 218 0 3 cX12_evening (some .int) := ⟨rfl, pmt8 6 rfl rfl, by decide, pmt1 13 rfl rfl, ⟨by decide +kernel, by decide +kernel, by decide +kernel⟩⟩
theorem cal_219 : pCal pyn pwk 219 0 5 cX12_day (some .int) := ⟨rfl, pmt8 31 rfl rfl, by decide, pmt1 13 rfl rfl, ⟨by decide +kernel, by decide +kernel, by decide +kernel⟩⟩
theorem cal_220 : pCal pyn pwk 220 0 1 cX12_undo (some .int) := ⟨rfl, pmt8 35 rfl rfl, by decide, pmt1 13 rfl rfl, ⟨by decide +kernel, by decide +kernel, by decide +kernel⟩⟩
theorem cal_221 : pCal pyn pwk 221 2 8 cX12_judge (some .int) := ⟨rfl, pmt8 39 rfl rfl, by decide, pmt1 13 rfl rfl, ⟨by decide +kernel, by decide +kernel, by decide +kernel⟩⟩
theorem cal_222 : pCal pyn pwk 222 0 2 cX12_clumps (some .int) := ⟨rfl, pmt8 43 rfl rfl, by decide, pmt1 13 rfl rfl, ⟨by decide +kernel, by decide +kernel, by decide +kernel⟩⟩
theorem cal_224 : pCal pyn pwk 224 0 4 cX12_heaviest (some .int) := ⟨rfl, pmt8 47 rfl rfl, by decide, pmt1 13 rfl rfl, ⟨by decide +kernel, by decide +kernel, by decide +kernel⟩⟩
theorem cal_225 : pCal pyn pwk 225 1 4 cX12_without (some .int) := ⟨rfl, pmt8 55 rfl rfl, by decide, pmt1 13 rfl rfl, ⟨by decide +kernel, by decide +kernel, by decide +kernel⟩⟩
theorem cal_226 : pCal pyn pwk 226 1 3 cX12_breaks (some .int) := ⟨rfl, pmt8 59 rfl rfl, by decide, pmt1 13 rfl rfl, ⟨by decide +kernel, by decide +kernel, by decide +kernel⟩⟩
theorem cal_227 : pCal pyn pwk 227 0 4 cX12_ties (some .int) := ⟨rfl, pmt8 63 rfl rfl, by decide, pmt1 13 rfl rfl, ⟨by decide +kernel, by decide +kernel, by decide +kernel⟩⟩
theorem cal_234 : pCal pyn pwk 234 0 2 cX12_fits (some .int) := ⟨rfl, pmt8 67 rfl rfl, by decide, pmt1 13 rfl rfl, ⟨by decide +kernel, by decide +kernel, by decide +kernel⟩⟩
theorem cal_235 : pCal pyn pwk 235 0 1 cX12_worth (some .int) := ⟨rfl, pmt8 95 rfl rfl, by decide, pmt1 13 rfl rfl, ⟨by decide +kernel, by decide +kernel, by decide +kernel⟩⟩
theorem cal_236 : pCal pyn pwk 236 0 4 cX12_best (some .int) := ⟨rfl, pmt8 103 rfl rfl, by decide, pmt1 13 rfl rfl, ⟨by decide +kernel, by decide +kernel, by decide +kernel⟩⟩
theorem cal_238 : pCal pyn pwk 238 0 1 cX12_near (some .int) := ⟨rfl, pmt8 107 rfl rfl, by decide, pmt1 13 rfl rfl, ⟨by decide +kernel, by decide +kernel, by decide +kernel⟩⟩
theorem cal_239 : pCal pyn pwk 239 2 3 cX12_guest (some .int) := ⟨rfl, pmt8 119 rfl rfl, by decide, pmt1 13 rfl rfl, ⟨by decide +kernel, by decide +kernel, by decide +kernel⟩⟩
theorem cal_240 : pCal pyn pwk 240 0 5 cX12_space (some .int) := ⟨rfl, pmt8 123 rfl rfl, by decide, pmt1 13 rfl rfl, ⟨by decide +kernel, by decide +kernel, by decide +kernel⟩⟩
theorem cal_241 : pCal pyn pwk 241 2 8 cX12_could (some .int) := ⟨rfl, pmt8 127 rfl rfl, by decide, pmt1 13 rfl rfl, ⟨by decide +kernel, by decide +kernel, by decide +kernel⟩⟩
theorem cal_242 : pCal pyn pwk 242 1 5 cX12_may (some .int) := ⟨rfl, pmt8 131 rfl rfl, by decide, pmt1 13 rfl rfl, ⟨by decide +kernel, by decide +kernel, by decide +kernel⟩⟩
theorem cal_243 : pCal pyn pwk 243 2 5 cX12_together (some .int) := ⟨rfl, pmt8 135 rfl rfl, by decide, pmt1 13 rfl rfl, ⟨by decide +kernel, by decide +kernel, by decide +kernel⟩⟩
theorem cal_244 : pCal pyn pwk 244 1 4 cX12_fullest (some .int) := ⟨rfl, pmt8 139 rfl rfl, by decide, pmt1 13 rfl rfl, ⟨by decide +kernel, by decide +kernel, by decide +kernel⟩⟩
theorem cal_245 : pCal pyn pwk 245 2 4 cX12_swap (some .int) := ⟨rfl, pmt8 143 rfl rfl, by decide, pmt1 13 rfl rfl, ⟨by decide +kernel, by decide +kernel, by decide +kernel⟩⟩
theorem cal_246 : pCal pyn pwk 246 0 5 cX12_sell (some .int) := ⟨rfl, pmt8 147 rfl rfl, by decide, pmt1 13 rfl rfl, ⟨by decide +kernel, by decide +kernel, by decide +kernel⟩⟩
theorem cal_248 : pCal pyn pwk 248 0 7 cX12_build (some .int) := ⟨rfl, pmt8 155 rfl rfl, by decide, pmt1 13 rfl rfl, ⟨by decide +kernel, by decide +kernel, by decide +kernel⟩⟩
theorem cal_250 : pCal pyn pwk 250 2 7 cX12_way (some .int) := ⟨rfl, pmt8 163 rfl rfl, by decide, pmt1 13 rfl rfl, ⟨by decide +kernel, by decide +kernel, by decide +kernel⟩⟩
theorem cal_251 : pCal pyn pwk 251 2 4 cX12_widest (some .int) := ⟨rfl, pmt8 167 rfl rfl, by decide, pmt1 13 rfl rfl, ⟨by decide +kernel, by decide +kernel, by decide +kernel⟩⟩
theorem cal_252 : pCal pyn pwk 252 0 4 cX12_stuck (some .int) := ⟨rfl, pmt8 171 rfl rfl, by decide, pmt1 13 rfl rfl, ⟨by decide +kernel, by decide +kernel, by decide +kernel⟩⟩
theorem cal_254 : pCal pyn pwk 254 1 9 cX12_hinge (some .int) := ⟨rfl, pmt8 175 rfl rfl, by decide, pmt1 13 rfl rfl, ⟨by decide +kernel, by decide +kernel, by decide +kernel⟩⟩
theorem cal_255 : pCal pyn pwk 255 0 3 cX12_aim (some .int) := ⟨rfl, pmt8 183 rfl rfl, by decide, pmt1 13 rfl rfl, ⟨by decide +kernel, by decide +kernel, by decide +kernel⟩⟩
theorem cal_257 : pCal pyn pwk 257 0 2 cX12_apart (some .int) := ⟨rfl, pmt8 187 rfl rfl, by decide, pmt1 13 rfl rfl, ⟨by decide +kernel, by decide +kernel, by decide +kernel⟩⟩
theorem cal_259 : pCal pyn pwk 259 0 4 cX12_queue (some .int) := ⟨rfl, pmt8 195 rfl rfl, by decide, pmt1 13 rfl rfl, ⟨by decide +kernel, by decide +kernel, by decide +kernel⟩⟩
theorem cal_263 : pCal pyn pwk 263 0 3 cX12_evenings (some .int) := ⟨rfl, pmt8 203 rfl rfl, by decide, pmt1 13 rfl rfl, ⟨by decide +kernel, by decide +kernel, by decide +kernel⟩⟩
theorem cal_264 : pCal pyn pwk 264 0 2 cX12_weakest (some .int) := ⟨rfl, pmt8 219 rfl rfl, by decide, pmt1 13 rfl rfl, ⟨by decide +kernel, by decide +kernel, by decide +kernel⟩⟩
theorem cal_266 : pCal pyn pwk 266 1 3 cX12_keep (some .boolean) := ⟨rfl, pmt8 227 rfl rfl, by decide, pmt1 13 rfl rfl, ⟨by decide +kernel, by decide +kernel, by decide +kernel⟩⟩
theorem cal_267 : pCal pyn pwk 267 1 3 cX12_again (some .boolean) := ⟨rfl, pmt8 231 rfl rfl, by decide, pmt1 13 rfl rfl, ⟨by decide +kernel, by decide +kernel, by decide +kernel⟩⟩
theorem cal_268 : pCal pyn pwk 268 1 4 cX12_count (some .int) := ⟨rfl, pmt8 235 rfl rfl, by decide, pmt1 13 rfl rfl, ⟨by decide +kernel, by decide +kernel, by decide +kernel⟩⟩
theorem cal_269 : pCal pyn pwk 269 1 2 cX12_row (some .int) := ⟨rfl, pmt8 239 rfl rfl, by decide, pmt1 13 rfl rfl, ⟨by decide +kernel, by decide +kernel, by decide +kernel⟩⟩
def lawp (L : Nat) (xs : Nat → Int32) : List pS := [s_none, s_dup 2, s_none, s_ast 1 4, s_none, s_dup 6, s_none, s_ast 2 8, s_push (.inl (1)) 9, s_none, s_ast 3 11, s_push (.inl (0)) 12, s_ist 4 13, s_ild 4 14, s_ald 0 15, s_lln L 16, s_push (.inl (5)) 17, s_bin (fun x y => x - y) 18, s_if2 (fun x y => lt32 y x) (fun _ _ => inferInstance) 796 19, s_ald 0 20, s_ild 4 21, s_lld L xs 22, s_push (.inl (63)) 23, s_bin jand 24, s_sw [(0, 25), (1, 42), (2, 59), (3, 66), (4, 73), (5, 101), (6, 146), (7, 163), (8, 190), (9, 227), (10, 244), (11, 291), (12, 318), (13, 325), (14, 332), (15, 339), (16, 366), (17, 373), (18, 380), (19, 397), (20, 414), (21, 421), (22, 428), (23, 435), (24, 442), (25, 449), (26, 476), (27, 483), (28, 510), (29, 527), (30, 554), (31, 571), (32, 598), (33, 605), (34, 612), (35, 639), (36, 666), (37, 673), (38, 690), (39, 697), (40, 704), (41, 711), (42, 718), (43, 725), (44, 742), (45, 759), (46, 776)] 794, s_ald 1 26, s_ald 0 27, s_ild 4 28, s_push (.inl (1)) 29, s_bin (fun x y => x + y) 30, s_lld L xs 31, s_callV 1 11 0 1 32, s_pop 33, s_ald 2 34, s_ald 0 35, s_ild 4 36, s_push (.inl (1)) 37, s_bin (fun x y => x + y) 38, s_lld L xs 39, s_callV 1 12 175 1 40, s_pop 41, s_goto 794, s_ald 1 43, s_ald 0 44, s_ild 4 45, s_push (.inl (1)) 46, s_bin (fun x y => x + y) 47, s_lld L xs 48, s_callV 1 11 1 1 49, s_pop 50, s_ald 2 51, s_ald 0 52, s_ild 4 53, s_push (.inl (1)) 54, s_bin (fun x y => x + y) 55, s_lld L xs 56, s_callV 1 12 176 1 57, s_pop 58, s_goto 794, s_ald 1 60, s_callV 1 11 2 0 61, s_pop 62, s_ald 2 63, s_callV 1 12 184 0 64, s_pop 65, s_goto 794, s_ald 1 67, s_callV 1 11 3 0 68, s_pop 69, s_ald 2 70, s_callV 1 12 193 0 71, s_pop 72, s_goto 794, s_ald 1 74, s_ald 0 75, s_ild 4 76, s_push (.inl (1)) 77, s_bin (fun x y => x + y) 78, s_lld L xs 79, s_ald 0 80, s_ild 4 81, s_push (.inl (2)) 82, s_bin (fun x y => x + y) 83, s_lld L xs 84, s_ald 3 85, s_none, s_ist 5 87, s_ald 2 88, s_ald 0 89, s_ild 4 90, s_push (.inl (1)) 91, s_bin (fun x y => x + y) 92, s_lld L xs 93, s_ald 0 94, s_ild 4 95, s_push (.inl (2)) 96, s_bin (fun x y => x + y) 97, s_lld L xs 98, s_callV 1 12 199 2 99, s_ist 6 100, s_goto 794, s_ald 1 102, s_ald 0 103, s_ild 4 104, s_push (.inl (1)) 105, s_bin (fun x y => x + y) 106, s_lld L xs 107, s_ald 0 108, s_ild 4 109, s_push (.inl (2)) 110, s_bin (fun x y => x + y) 111, s_lld L xs 112, s_ald 3 113, s_none, s_ist 5 115, s_ald 2 116, s_ald 0 117, s_ild 4 118, s_push (.inl (1)) 119, s_bin (fun x y => x + y) 120, s_lld L xs 121, s_ald 0 122, s_ild 4 123, s_push (.inl (2)) 124, s_bin (fun x y => x + y) 125, s_lld L xs 126, s_callV 1 12 201 2 127, s_ist 6 128, s_ald 2 129, s_callV 1 12 168 0 130, s_ild 5 131, s_if2 (fun x y => eq32 x y) (fun _ _ => inferInstance) 134 132, s_push (.inl (0)) 133, s_zret, s_ild 5 135, s_if (fun x => ¬ eq32 x 0) (fun _ => inferInstance) 145 136, s_lout 6 145 143, s_push (.inl (0)) 138, s_none, s_ild 6 140, s_none, s_none, s_if (fun x => eq32 x 0) (fun _ => inferInstance) 145 143, s_push (.inl (0)) 144, s_zret, s_goto 794, s_ald 1 147, s_ald 0 148, s_ild 4 149, s_push (.inl (1)) 150, s_bin (fun x y => x + y) 151, s_lld L xs 152, s_callV 1 11 6 1 153, s_pop 154, s_ald 2 155, s_ald 0 156, s_ild 4 157, s_push (.inl (1)) 158, s_bin (fun x y => x + y) 159, s_lld L xs 160, s_callV 1 12 202 1 161, s_pop 162, s_goto 794, s_ald 1 164, s_ald 0 165, s_ild 4 166, s_push (.inl (1)) 167, s_bin (fun x y => x + y) 168, s_lld L xs 169, s_ald 0 170, s_ild 4 171, s_push (.inl (2)) 172, s_bin (fun x y => x + y) 173, s_lld L xs 174, s_callV 1 11 7 2 175, s_pop 176, s_ald 2 177, s_ald 0 178, s_ild 4 179, s_push (.inl (1)) 180, s_bin (fun x y => x + y) 181, s_lld L xs 182, s_ald 0 183, s_ild 4 184, s_push (.inl (2)) 185, s_bin (fun x y => x + y) 186, s_lld L xs 187, s_callV 1 12 203 2 188, s_pop 189, s_goto 794, s_ald 1 191, s_ald 0 192, s_ild 4 193, s_push (.inl (1)) 194, s_bin (fun x y => x + y) 195, s_lld L xs 196, s_ald 0 197, s_ild 4 198, s_push (.inl (2)) 199, s_bin (fun x y => x + y) 200, s_lld L xs 201, s_ald 0 202, s_ild 4 203, s_push (.inl (3)) 204, s_bin (fun x y => x + y) 205, s_lld L xs 206, s_callV 1 11 8 3 207, s_pop 208, s_ald 2 209, s_ald 0 210, s_ild 4 211, s_push (.inl (1)) 212, s_bin (fun x y => x + y) 213, s_lld L xs 214, s_ald 0 215, s_ild 4 216, s_push (.inl (2)) 217, s_bin (fun x y => x + y) 218, s_lld L xs 219, s_ald 0 220, s_ild 4 221, s_push (.inl (3)) 222, s_bin (fun x y => x + y) 223, s_lld L xs 224, s_callV 1 12 204 3 225, s_pop 226, s_goto 794, s_ald 1 228, s_ald 0 229, s_ild 4 230, s_push (.inl (1)) 231, s_bin (fun x y => x + y) 232, s_lld L xs 233, s_callV 1 11 9 1 234, s_pop 235, s_ald 2 236, s_ald 0 237, s_ild 4 238, s_push (.inl (1)) 239, s_bin (fun x y => x + y) 240, s_lld L xs 241, s_callV 1 12 205 1 242, s_pop 243, s_goto 794, s_ald 1 245, s_ald 0 246, s_ild 4 247, s_push (.inl (1)) 248, s_bin (fun x y => x + y) 249, s_lld L xs 250, s_ald 0 251, s_ild 4 252, s_push (.inl (2)) 253, s_bin (fun x y => x + y) 254, s_lld L xs 255, s_ald 0 256, s_ild 4 257, s_push (.inl (3)) 258, s_bin (fun x y => x + y) 259, s_lld L xs 260, s_ald 0 261, s_ild 4 262, s_push (.inl (4)) 263, s_bin (fun x y => x + y) 264, s_lld L xs 265, s_callV 1 11 10 4 266, s_pop 267, s_ald 2 268, s_ald 0 269, s_ild 4 270, s_push (.inl (1)) 271, s_bin (fun x y => x + y) 272, s_lld L xs 273, s_ald 0 274, s_ild 4 275, s_push (.inl (2)) 276, s_bin (fun x y => x + y) 277, s_lld L xs 278, s_ald 0 279, s_ild 4 280, s_push (.inl (3)) 281, s_bin (fun x y => x + y) 282, s_lld L xs 283, s_ald 0 284, s_ild 4 285, s_push (.inl (4)) 286, s_bin (fun x y => x + y) 287, s_lld L xs 288, s_callV 1 12 206 4 289, s_pop 290, s_goto 794, s_ald 1 292, s_ald 0 293, s_ild 4 294, s_push (.inl (1)) 295, s_bin (fun x y => x + y) 296, s_lld L xs 297, s_ald 0 298, s_ild 4 299, s_push (.inl (2)) 300, s_bin (fun x y => x + y) 301, s_lld L xs 302, s_callV 1 11 11 2 303, s_pop 304, s_ald 2 305, s_ald 0 306, s_ild 4 307, s_push (.inl (1)) 308, s_bin (fun x y => x + y) 309, s_lld L xs 310, s_ald 0 311, s_ild 4 312, s_push (.inl (2)) 313, s_bin (fun x y => x + y) 314, s_lld L xs 315, s_callV 1 12 216 2 316, s_pop 317, s_goto 794, s_ald 1 319, s_callV 1 11 12 0 320, s_pop 321, s_ald 2 322, s_callV 1 12 218 0 323, s_pop 324, s_goto 794, s_ald 1 326, s_callV 1 11 13 0 327, s_pop 328, s_ald 2 329, s_callV 1 12 219 0 330, s_pop 331, s_goto 794, s_ald 1 333, s_callV 1 11 14 0 334, s_pop 335, s_ald 2 336, s_callV 1 12 220 0 337, s_pop 338, s_goto 794, s_ald 1 340, s_ald 0 341, s_ild 4 342, s_push (.inl (1)) 343, s_bin (fun x y => x + y) 344, s_lld L xs 345, s_ald 0 346, s_ild 4 347, s_push (.inl (2)) 348, s_bin (fun x y => x + y) 349, s_lld L xs 350, s_callV 1 11 15 2 351, s_pop 352, s_ald 2 353, s_ald 0 354, s_ild 4 355, s_push (.inl (1)) 356, s_bin (fun x y => x + y) 357, s_lld L xs 358, s_ald 0 359, s_ild 4 360, s_push (.inl (2)) 361, s_bin (fun x y => x + y) 362, s_lld L xs 363, s_callV 1 12 221 2 364, s_pop 365, s_goto 794, s_ald 1 367, s_callV 1 11 16 0 368, s_pop 369, s_ald 2 370, s_callV 1 12 222 0 371, s_pop 372, s_goto 794, s_ald 1 374, s_callV 1 11 17 0 375, s_pop 376, s_ald 2 377, s_callV 1 12 224 0 378, s_pop 379, s_goto 794, s_ald 1 381, s_ald 0 382, s_ild 4 383, s_push (.inl (1)) 384, s_bin (fun x y => x + y) 385, s_lld L xs 386, s_callV 1 11 18 1 387, s_pop 388, s_ald 2 389, s_ald 0 390, s_ild 4 391, s_push (.inl (1)) 392, s_bin (fun x y => x + y) 393, s_lld L xs 394, s_callV 1 12 225 1 395, s_pop 396, s_goto 794, s_ald 1 398, s_ald 0 399, s_ild 4 400, s_push (.inl (1)) 401, s_bin (fun x y => x + y) 402, s_lld L xs 403, s_callV 1 11 19 1 404, s_pop 405, s_ald 2 406, s_ald 0 407, s_ild 4 408, s_push (.inl (1)) 409, s_bin (fun x y => x + y) 410, s_lld L xs 411, s_callV 1 12 226 1 412, s_pop 413, s_goto 794, s_ald 1 415, s_callV 1 11 20 0 416, s_pop 417, s_ald 2 418, s_callV 1 12 227 0 419, s_pop 420, s_goto 794, s_ald 1 422, s_callV 1 11 21 0 423, s_pop 424, s_ald 2 425, s_callV 1 12 234 0 426, s_pop 427, s_goto 794, s_ald 1 429, s_callV 1 11 22 0 430, s_pop 431, s_ald 2 432, s_callV 1 12 235 0 433, s_pop 434, s_goto 794, s_ald 1 436, s_callV 1 11 23 0 437, s_pop 438, s_ald 2 439, s_callV 1 12 236 0 440, s_pop 441, s_goto 794, s_ald 1 443, s_callV 1 11 24 0 444, s_pop 445, s_ald 2 446, s_callV 1 12 238 0 447, s_pop 448, s_goto 794, s_ald 1 450, s_ald 0 451, s_ild 4 452, s_push (.inl (1)) 453, s_bin (fun x y => x + y) 454, s_lld L xs 455, s_ald 0 456, s_ild 4 457, s_push (.inl (2)) 458, s_bin (fun x y => x + y) 459, s_lld L xs 460, s_callV 1 11 25 2 461, s_pop 462, s_ald 2 463, s_ald 0 464, s_ild 4 465, s_push (.inl (1)) 466, s_bin (fun x y => x + y) 467, s_lld L xs 468, s_ald 0 469, s_ild 4 470, s_push (.inl (2)) 471, s_bin (fun x y => x + y) 472, s_lld L xs 473, s_callV 1 12 239 2 474, s_pop 475, s_goto 794, s_ald 1 477, s_callV 1 11 26 0 478, s_pop 479, s_ald 2 480, s_callV 1 12 240 0 481, s_pop 482, s_goto 794, s_ald 1 484, s_ald 0 485, s_ild 4 486, s_push (.inl (1)) 487, s_bin (fun x y => x + y) 488, s_lld L xs 489, s_ald 0 490, s_ild 4 491, s_push (.inl (2)) 492, s_bin (fun x y => x + y) 493, s_lld L xs 494, s_callV 1 11 27 2 495, s_pop 496, s_ald 2 497, s_ald 0 498, s_ild 4 499, s_push (.inl (1)) 500, s_bin (fun x y => x + y) 501, s_lld L xs 502, s_ald 0 503, s_ild 4 504, s_push (.inl (2)) 505, s_bin (fun x y => x + y) 506, s_lld L xs 507, s_callV 1 12 241 2 508, s_pop 509, s_goto 794, s_ald 1 511, s_ald 0 512, s_ild 4 513, s_push (.inl (1)) 514, s_bin (fun x y => x + y) 515, s_lld L xs 516, s_callV 1 11 28 1 517, s_pop 518, s_ald 2 519, s_ald 0 520, s_ild 4 521, s_push (.inl (1)) 522, s_bin (fun x y => x + y) 523, s_lld L xs 524, s_callV 1 12 242 1 525, s_pop 526, s_goto 794, s_ald 1 528, s_ald 0 529, s_ild 4 530, s_push (.inl (1)) 531, s_bin (fun x y => x + y) 532, s_lld L xs 533, s_ald 0 534, s_ild 4 535, s_push (.inl (2)) 536, s_bin (fun x y => x + y) 537, s_lld L xs 538, s_callV 1 11 29 2 539, s_pop 540, s_ald 2 541, s_ald 0 542, s_ild 4 543, s_push (.inl (1)) 544, s_bin (fun x y => x + y) 545, s_lld L xs 546, s_ald 0 547, s_ild 4 548, s_push (.inl (2)) 549, s_bin (fun x y => x + y) 550, s_lld L xs 551, s_callV 1 12 243 2 552, s_pop 553, s_goto 794, s_ald 1 555, s_ald 0 556, s_ild 4 557, s_push (.inl (1)) 558, s_bin (fun x y => x + y) 559, s_lld L xs 560, s_callV 1 11 30 1 561, s_pop 562, s_ald 2 563, s_ald 0 564, s_ild 4 565, s_push (.inl (1)) 566, s_bin (fun x y => x + y) 567, s_lld L xs 568, s_callV 1 12 244 1 569, s_pop 570, s_goto 794, s_ald 1 572, s_ald 0 573, s_ild 4 574, s_push (.inl (1)) 575, s_bin (fun x y => x + y) 576, s_lld L xs 577, s_ald 0 578, s_ild 4 579, s_push (.inl (2)) 580, s_bin (fun x y => x + y) 581, s_lld L xs 582, s_callV 1 11 31 2 583, s_pop 584, s_ald 2 585, s_ald 0 586, s_ild 4 587, s_push (.inl (1)) 588, s_bin (fun x y => x + y) 589, s_lld L xs 590, s_ald 0 591, s_ild 4 592, s_push (.inl (2)) 593, s_bin (fun x y => x + y) 594, s_lld L xs 595, s_callV 1 12 245 2 596, s_pop 597, s_goto 794, s_ald 1 599, s_callV 1 11 32 0 600, s_pop 601, s_ald 2 602, s_callV 1 12 246 0 603, s_pop 604, s_goto 794, s_ald 1 606, s_callV 1 11 33 0 607, s_pop 608, s_ald 2 609, s_callV 1 12 248 0 610, s_pop 611, s_goto 794, s_ald 1 613, s_ald 0 614, s_ild 4 615, s_push (.inl (1)) 616, s_bin (fun x y => x + y) 617, s_lld L xs 618, s_ald 0 619, s_ild 4 620, s_push (.inl (2)) 621, s_bin (fun x y => x + y) 622, s_lld L xs 623, s_callV 1 11 34 2 624, s_pop 625, s_ald 2 626, s_ald 0 627, s_ild 4 628, s_push (.inl (1)) 629, s_bin (fun x y => x + y) 630, s_lld L xs 631, s_ald 0 632, s_ild 4 633, s_push (.inl (2)) 634, s_bin (fun x y => x + y) 635, s_lld L xs 636, s_callV 1 12 250 2 637, s_pop 638, s_goto 794, s_ald 1 640, s_ald 0 641, s_ild 4 642, s_push (.inl (1)) 643, s_bin (fun x y => x + y) 644, s_lld L xs 645, s_ald 0 646, s_ild 4 647, s_push (.inl (2)) 648, s_bin (fun x y => x + y) 649, s_lld L xs 650, s_callV 1 11 35 2 651, s_pop 652, s_ald 2 653, s_ald 0 654, s_ild 4 655, s_push (.inl (1)) 656, s_bin (fun x y => x + y) 657, s_lld L xs 658, s_ald 0 659, s_ild 4 660, s_push (.inl (2)) 661, s_bin (fun x y => x + y) 662, s_lld L xs 663, s_callV 1 12 251 2 664, s_pop 665, s_goto 794, s_ald 1 667, s_callV 1 11 36 0 668, s_pop 669, s_ald 2 670, s_callV 1 12 252 0 671, s_pop 672, s_goto 794, s_ald 1 674, s_ald 0 675, s_ild 4 676, s_push (.inl (1)) 677, s_bin (fun x y => x + y) 678, s_lld L xs 679, s_callV 1 11 37 1 680, s_pop 681, s_ald 2 682, s_ald 0 683, s_ild 4 684, s_push (.inl (1)) 685, s_bin (fun x y => x + y) 686, s_lld L xs 687, s_callV 1 12 254 1 688, s_pop 689, s_goto 794, s_ald 1 691, s_callV 1 11 38 0 692, s_pop 693, s_ald 2 694, s_callV 1 12 255 0 695, s_pop 696, s_goto 794, s_ald 1 698, s_callV 1 11 39 0 699, s_pop 700, s_ald 2 701, s_callV 1 12 257 0 702, s_pop 703, s_goto 794, s_ald 1 705, s_callV 1 11 40 0 706, s_pop 707, s_ald 2 708, s_callV 1 12 259 0 709, s_pop 710, s_goto 794, s_ald 1 712, s_callV 1 11 41 0 713, s_pop 714, s_ald 2 715, s_callV 1 12 263 0 716, s_pop 717, s_goto 794, s_ald 1 719, s_callV 1 11 42 0 720, s_pop 721, s_ald 2 722, s_callV 1 12 264 0 723, s_pop 724, s_goto 794, s_ald 1 726, s_ald 0 727, s_ild 4 728, s_push (.inl (1)) 729, s_bin (fun x y => x + y) 730, s_lld L xs 731, s_callV 1 11 43 1 732, s_pop 733, s_ald 2 734, s_ald 0 735, s_ild 4 736, s_push (.inl (1)) 737, s_bin (fun x y => x + y) 738, s_lld L xs 739, s_callV 1 12 266 1 740, s_pop 741, s_goto 794, s_ald 1 743, s_ald 0 744, s_ild 4 745, s_push (.inl (1)) 746, s_bin (fun x y => x + y) 747, s_lld L xs 748, s_callV 1 11 44 1 749, s_pop 750, s_ald 2 751, s_ald 0 752, s_ild 4 753, s_push (.inl (1)) 754, s_bin (fun x y => x + y) 755, s_lld L xs 756, s_callV 1 12 267 1 757, s_pop 758, s_goto 794, s_ald 1 760, s_ald 0 761, s_ild 4 762, s_push (.inl (1)) 763, s_bin (fun x y => x + y) 764, s_lld L xs 765, s_callV 1 11 45 1 766, s_pop 767, s_ald 2 768, s_ald 0 769, s_ild 4 770, s_push (.inl (1)) 771, s_bin (fun x y => x + y) 772, s_lld L xs 773, s_callV 1 12 268 1 774, s_pop 775, s_goto 794, s_ald 1 777, s_ald 0 778, s_ild 4 779, s_push (.inl (1)) 780, s_bin (fun x y => x + y) 781, s_lld L xs 782, s_ald 3 783, s_none, s_ist 5 785, s_ald 2 786, s_ald 0 787, s_ild 4 788, s_push (.inl (1)) 789, s_bin (fun x y => x + y) 790, s_lld L xs 791, s_callV 1 12 269 1 792, s_ist 6 793, s_goto 794, s_inc 4 (5) 795, s_goto 13, s_push (.inl (1)) 797, s_zret]
def lawc (L : Nat) (xs : Nat → Int32) (i : Nat) : pS := (lawp L xs).getD i s_none
def lawPC : List Nat := [0, 3, 4, 7, 8, 11, 12, 15, 16, 17, 19, 20, 21, 23, 25, 26, 27, 28, 29, 32, 33, 35, 36, 38, 39, 240, 241, 242, 244, 245, 246, 247, 250, 251, 252, 253, 255, 256, 257, 258, 261, 262, 265, 266, 267, 269, 270, 271, 272, 275, 276, 277, 278, 280, 281, 282, 283, 286, 287, 290, 291, 294, 295, 296, 299, 300, 303, 304, 307, 308, 309, 312, 313, 316, 317, 318, 320, 321, 322, 323, 324, 326, 327, 328, 329, 330, 333, 335, 336, 337, 339, 340, 341, 342, 343, 345, 346, 347, 348, 351, 353, 356, 357, 358, 360, 361, 362, 363, 364, 366, 367, 368, 369, 370, 373, 375, 376, 377, 379, 380, 381, 382, 383, 385, 386, 387, 388, 391, 393, 394, 397, 399, 402, 403, 404, 406, 409, 410, 411, 412, 414, 415, 416, 419, 420, 421, 424, 425, 426, 428, 429, 430, 431, 434, 435, 436, 437, 439, 440, 441, 442, 445, 446, 449, 450, 451, 453, 454, 455, 456, 457, 459, 460, 461, 462, 465, 466, 467, 468, 470, 471, 472, 473, 474, 476, 477, 478, 479, 482, 483, 486, 487, 488, 490, 491, 492, 493, 494, 496, 497, 498, 499, 500, 502, 503, 504, 505, 508, 509, 510, 511, 513, 514, 515, 516, 517, 519, 520, 521, 522, 523, 525, 526, 527, 528, 531, 532, 535, 536, 537, 539, 540, 541, 542, 545, 546, 547, 548, 550, 551, 552, 553, 556, 557, 560, 561, 562, 564, 565, 566, 567, 568, 570, 571, 572, 573, 574, 576, 577, 578, 579, 580, 582, 583, 584, 585, 588, 589, 590, 591, 593, 594, 595, 596, 597, 599, 600, 601, 602, 603, 605, 606, 607, 608, 609, 611, 612, 613, 614, 617, 618, 621, 622, 623, 625, 626, 627, 628, 629, 631, 632, 633, 634, 637, 638, 639, 640, 642, 643, 644, 645, 646, 648, 649, 650, 651, 654, 655, 658, 659, 662, 663, 664, 667, 668, 671, 672, 675, 676, 677, 680, 681, 684, 685, 688, 689, 690, 693, 694, 697, 698, 699, 701, 702, 703, 704, 705, 707, 708, 709, 710, 713, 714, 715, 716, 718, 719, 720, 721, 722, 724, 725, 726, 727, 730, 731, 734, 735, 738, 739, 740, 743, 744, 747, 748, 751, 752, 753, 756, 757, 760, 761, 762, 764, 765, 766, 767, 770, 771, 772, 773, 775, 776, 777, 778, 781, 782, 785, 786, 787, 789, 790, 791, 792, 795, 796, 797, 798, 800, 801, 802, 803, 806, 807, 810, 811, 814, 815, 816, 819, 820, 823, 824, 827, 828, 829, 832, 833, 836, 837, 840, 841, 842, 845, 846, 849, 850, 853, 854, 855, 858, 859, 862, 863, 866, 867, 868, 871, 872, 875, 876, 877, 879, 880, 881, 882, 883, 885, 886, 887, 888, 891, 892, 893, 894, 896, 897, 898, 899, 900, 902, 903, 904, 905, 908, 909, 912, 913, 916, 917, 918, 921, 922, 925, 926, 927, 929, 930, 931, 932, 933, 935, 936, 937, 938, 941, 942, 943, 944, 946, 947, 948, 949, 950, 952, 953, 954, 955, 958, 959, 962, 963, 964, 966, 967, 968, 969, 972, 973, 974, 975, 977, 978, 979, 980, 983, 984, 987, 988, 989, 991, 992, 993, 994, 995, 997, 998, 999, 1000, 1003, 1004, 1005, 1006, 1008, 1009, 1010, 1011, 1012, 1014, 1015, 1016, 1017, 1020, 1021, 1024, 1025, 1026, 1028, 1029, 1030, 1031, 1034, 1035, 1036, 1037, 1039, 1040, 1041, 1042, 1045, 1046, 1049, 1050, 1051, 1053, 1054, 1055, 1056, 1057, 1059, 1060, 1061, 1062, 1065, 1066, 1067, 1068, 1070, 1071, 1072, 1073, 1074, 1076, 1077, 1078, 1079, 1082, 1083, 1086, 1087, 1090, 1091, 1092, 1095, 1096, 1099, 1100, 1103, 1104, 1105, 1108, 1109, 1112, 1113, 1114, 1116, 1117, 1118, 1119, 1120, 1122, 1123, 1124, 1125, 1128, 1129, 1130, 1131, 1133, 1134, 1135, 1136, 1137, 1139, 1140, 1141, 1142, 1145, 1146, 1149, 1150, 1151, 1153, 1154, 1155, 1156, 1157, 1159, 1160, 1161, 1162, 1165, 1166, 1167, 1168, 1170, 1171, 1172, 1173, 1174, 1176, 1177, 1178, 1179, 1182, 1183, 1186, 1187, 1190, 1191, 1192, 1195, 1196, 1199, 1200, 1201, 1203, 1204, 1205, 1206, 1209, 1210, 1211, 1212, 1214, 1215, 1216, 1217, 1220, 1221, 1224, 1225, 1228, 1229, 1230, 1233, 1234, 1237, 1238, 1241, 1242, 1243, 1246, 1247, 1250, 1251, 1254, 1255, 1256, 1259, 1260, 1263, 1264, 1267, 1268, 1269, 1272, 1273, 1276, 1277, 1280, 1281, 1282, 1285, 1286, 1289, 1290, 1291, 1293, 1294, 1295, 1296, 1299, 1300, 1301, 1302, 1304, 1305, 1306, 1307, 1310, 1311, 1314, 1315, 1316, 1318, 1319, 1320, 1321, 1324, 1325, 1326, 1327, 1329, 1330, 1331, 1332, 1335, 1336, 1339, 1340, 1341, 1343, 1344, 1345, 1346, 1349, 1350, 1351, 1352, 1354, 1355, 1356, 1357, 1360, 1361, 1364, 1365, 1366, 1368, 1369, 1370, 1371, 1372, 1375, 1377, 1378, 1379, 1381, 1382, 1383, 1384, 1387, 1389, 1392, 1395, 1398, 1399]
abbrev lawpc (i : Nat) : Nat := lawPC.getD i 0
def pAllL (L : Nat) (xs : Nat → Int32) : Nat → List pS → Prop := pAll fun i f => pSndL L xs pyn pwk RL code 7 ret lawpc (lawpc i) f
def zcallV_RL : List (Nat × Nat × Nat × Nat × Nat) := [(1, 11, 0, 1, 26), (1, 11, 1, 1, 30), (1, 11, 2, 0, 35), (1, 11, 3, 0, 40), (1, 11, 6, 1, 56), (1, 11, 7, 2, 60), (1, 11, 8, 3, 64), (1, 11, 9, 1, 69), (1, 11, 10, 4, 73), (1, 11, 11, 2, 78), (1, 11, 12, 0, 82), (1, 11, 13, 0, 86), (1, 11, 14, 0, 90), (1, 11, 15, 2, 94), (1, 11, 16, 0, 98), (1, 11, 17, 0, 102), (1, 11, 18, 1, 106), (1, 11, 19, 1, 110), (1, 11, 20, 0, 114), (1, 11, 21, 0, 118), (1, 11, 22, 0, 122), (1, 11, 23, 0, 126), (1, 11, 24, 0, 130), (1, 11, 25, 2, 134), (1, 11, 26, 0, 138), (1, 11, 27, 2, 142), (1, 11, 28, 1, 146), (1, 11, 29, 2, 150), (1, 11, 30, 1, 154), (1, 11, 31, 2, 158), (1, 11, 32, 0, 162), (1, 11, 33, 0, 166), (1, 11, 34, 2, 170), (1, 11, 35, 2, 174), (1, 11, 36, 0, 178), (1, 11, 37, 1, 182), (1, 11, 38, 0, 186), (1, 11, 39, 0, 190), (1, 11, 40, 0, 194), (1, 11, 41, 0, 198), (1, 11, 42, 0, 202), (1, 11, 43, 1, 206), (1, 11, 44, 1, 210), (1, 11, 45, 1, 214), (1, 12, 168, 0, 53), (1, 12, 175, 1, 29), (1, 12, 176, 1, 34), (1, 12, 184, 0, 39), (1, 12, 193, 0, 43), (1, 12, 199, 2, 49), (1, 12, 201, 2, 52), (1, 12, 202, 1, 59), (1, 12, 203, 2, 63), (1, 12, 204, 3, 68), (1, 12, 205, 1, 72), (1, 12, 206, 4, 77), (1, 12, 216, 2, 81), (1, 12, 218, 0, 85), (1, 12, 219, 0, 89), (1, 12, 220, 0, 93), (1, 12, 221, 2, 97), (1, 12, 222, 0, 101), (1, 12, 224, 0, 105), (1, 12, 225, 1, 109), (1, 12, 226, 1, 113), (1, 12, 227, 0, 117), (1, 12, 234, 0, 121), (1, 12, 235, 0, 125), (1, 12, 236, 0, 129), (1, 12, 238, 0, 133), (1, 12, 239, 2, 137), (1, 12, 240, 0, 141), (1, 12, 241, 2, 145), (1, 12, 242, 1, 149), (1, 12, 243, 2, 153), (1, 12, 244, 1, 157), (1, 12, 245, 2, 161), (1, 12, 246, 0, 165), (1, 12, 248, 0, 169), (1, 12, 250, 2, 173), (1, 12, 251, 2, 177), (1, 12, 252, 0, 181), (1, 12, 254, 1, 185), (1, 12, 255, 0, 189), (1, 12, 257, 0, 193), (1, 12, 259, 0, 197), (1, 12, 263, 0, 201), (1, 12, 264, 0, 205), (1, 12, 266, 1, 209), (1, 12, 267, 1, 213), (1, 12, 268, 1, 217), (1, 12, 269, 1, 221)]
set_option maxRecDepth 100000 in
theorem zcallV_RL_0 : zCallV RL (1, 11, 0, 1, 26) := fun hd hn => sn_callV (idx := 26) (C := RX11) (T := TX11) (N := 18) rfl (by decide) cal_0 (pmt2 175 rfl (by decide +kernel)) (pmt2 176 rfl (by decide +kernel)) (pmt2 177 rfl (by decide +kernel)) hd hn
set_option maxRecDepth 100000 in
theorem zcallV_RL_1 : zCallV RL (1, 11, 1, 1, 30) := fun hd hn => sn_callV (idx := 30) (C := RX11) (T := TX11) (N := 18) rfl (by decide) cal_1 (pmt2 183 rfl (by decide +kernel)) (pmt2 184 rfl (by decide +kernel)) (pmt2 185 rfl (by decide +kernel)) hd hn
set_option maxRecDepth 100000 in
theorem zcallV_RL_2 : zCallV RL (1, 11, 2, 0, 35) := fun hd hn => sn_callV (idx := 35) (C := RX11) (T := TX11) (N := 18) rfl (by decide) cal_2 (pmt2 191 rfl (by decide +kernel)) (pmt2 192 rfl (by decide +kernel)) (pmt2 193 rfl (by decide +kernel)) hd hn
set_option maxRecDepth 100000 in
theorem zcallV_RL_3 : zCallV RL (1, 11, 3, 0, 40) := fun hd hn => sn_callV (idx := 40) (C := RX11) (T := TX11) (N := 18) rfl (by decide) cal_3 (pmt3 84 rfl (by decide +kernel)) (pmt3 85 rfl (by decide +kernel)) (pmt3 86 rfl (by decide +kernel)) hd hn
set_option maxRecDepth 100000 in
theorem zcallV_RL_4 : zCallV RL (1, 11, 6, 1, 56) := fun hd hn => sn_callV (idx := 56) (C := RX11) (T := TX11) (N := 18) rfl (by decide) cal_6 (pmt3 219 rfl (by decide +kernel)) (pmt3 220 rfl (by decide +kernel)) (pmt3 221 rfl (by decide +kernel)) hd hn
set_option maxRecDepth 100000 in
theorem zcallV_RL_5 : zCallV RL (1, 11, 7, 2, 60) := fun hd hn => sn_callV (idx := 60) (C := RX11) (T := TX11) (N := 18) rfl (by decide) cal_7 (pmt3 223 rfl (by decide +kernel)) (pmt3 224 rfl (by decide +kernel)) (pmt3 225 rfl (by decide +kernel)) hd hn
set_option maxRecDepth 100000 in
theorem zcallV_RL_6 : zCallV RL (1, 11, 8, 3, 64) := fun hd hn => sn_callV (idx := 64) (C := RX11) (T := TX11) (N := 18) rfl (by decide) cal_8 (pmt3 232 rfl (by decide +kernel)) (pmt3 233 rfl (by decide +kernel)) (pmt3 234 rfl (by decide +kernel)) hd hn
set_option maxRecDepth 100000 in
theorem zcallV_RL_7 : zCallV RL (1, 11, 9, 1, 69) := fun hd hn => sn_callV (idx := 69) (C := RX11) (T := TX11) (N := 18) rfl (by decide) cal_9 (pmt3 237 rfl (by decide +kernel)) (pmt3 238 rfl (by decide +kernel)) (pmt3 239 rfl (by decide +kernel)) hd hn
set_option maxRecDepth 100000 in
theorem zcallV_RL_8 : zCallV RL (1, 11, 10, 4, 73) := fun hd hn => sn_callV (idx := 73) (C := RX11) (T := TX11) (N := 18) rfl (by decide) cal_10 (pmt4 1 rfl (by decide +kernel)) (pmt4 2 rfl (by decide +kernel)) (pmt4 3 rfl (by decide +kernel)) hd hn
set_option maxRecDepth 100000 in
theorem zcallV_RL_9 : zCallV RL (1, 11, 11, 2, 78) := fun hd hn => sn_callV (idx := 78) (C := RX11) (T := TX11) (N := 18) rfl (by decide) cal_11 (pmt4 11 rfl (by decide +kernel)) (pmt4 12 rfl (by decide +kernel)) (pmt4 13 rfl (by decide +kernel)) hd hn
set_option maxRecDepth 100000 in
theorem zcallV_RL_10 : zCallV RL (1, 11, 12, 0, 82) := fun hd hn => sn_callV (idx := 82) (C := RX11) (T := TX11) (N := 18) rfl (by decide) cal_12 (pmt4 52 rfl (by decide +kernel)) (pmt4 53 rfl (by decide +kernel)) (pmt4 54 rfl (by decide +kernel)) hd hn
set_option maxRecDepth 100000 in
theorem zcallV_RL_11 : zCallV RL (1, 11, 13, 0, 86) := fun hd hn => sn_callV (idx := 86) (C := RX11) (T := TX11) (N := 18) rfl (by decide) cal_13 (pmt4 93 rfl (by decide +kernel)) (pmt4 94 rfl (by decide +kernel)) (pmt4 95 rfl (by decide +kernel)) hd hn
set_option maxRecDepth 100000 in
theorem zcallV_RL_12 : zCallV RL (1, 11, 14, 0, 90) := fun hd hn => sn_callV (idx := 90) (C := RX11) (T := TX11) (N := 18) rfl (by decide) cal_14 (pmt4 123 rfl (by decide +kernel)) (pmt4 124 rfl (by decide +kernel)) (pmt4 125 rfl (by decide +kernel)) hd hn
set_option maxRecDepth 100000 in
theorem zcallV_RL_13 : zCallV RL (1, 11, 15, 2, 94) := fun hd hn => sn_callV (idx := 94) (C := RX11) (T := TX11) (N := 18) rfl (by decide) cal_15 (pmt4 127 rfl (by decide +kernel)) (pmt4 128 rfl (by decide +kernel)) (pmt4 129 rfl (by decide +kernel)) hd hn
set_option maxRecDepth 100000 in
theorem zcallV_RL_14 : zCallV RL (1, 11, 16, 0, 98) := fun hd hn => sn_callV (idx := 98) (C := RX11) (T := TX11) (N := 18) rfl (by decide) cal_16 (pmt4 132 rfl (by decide +kernel)) (pmt4 133 rfl (by decide +kernel)) (pmt4 134 rfl (by decide +kernel)) hd hn
set_option maxRecDepth 100000 in
theorem zcallV_RL_15 : zCallV RL (1, 11, 17, 0, 102) := fun hd hn => sn_callV (idx := 102) (C := RX11) (T := TX11) (N := 18) rfl (by decide) cal_17 (pmt4 136 rfl (by decide +kernel)) (pmt4 137 rfl (by decide +kernel)) (pmt4 138 rfl (by decide +kernel)) hd hn
set_option maxRecDepth 100000 in
theorem zcallV_RL_16 : zCallV RL (1, 11, 18, 1, 106) := fun hd hn => sn_callV (idx := 106) (C := RX11) (T := TX11) (N := 18) rfl (by decide) cal_18 (pmt4 148 rfl (by decide +kernel)) (pmt4 149 rfl (by decide +kernel)) (pmt4 150 rfl (by decide +kernel)) hd hn
set_option maxRecDepth 100000 in
theorem zcallV_RL_17 : zCallV RL (1, 11, 19, 1, 110) := fun hd hn => sn_callV (idx := 110) (C := RX11) (T := TX11) (N := 18) rfl (by decide) cal_19 (pmt4 162 rfl (by decide +kernel)) (pmt4 163 rfl (by decide +kernel)) (pmt4 164 rfl (by decide +kernel)) hd hn
set_option maxRecDepth 100000 in
theorem zcallV_RL_18 : zCallV RL (1, 11, 20, 0, 114) := fun hd hn => sn_callV (idx := 114) (C := RX11) (T := TX11) (N := 18) rfl (by decide) cal_20 (pmt4 170 rfl (by decide +kernel)) (pmt4 171 rfl (by decide +kernel)) (pmt4 172 rfl (by decide +kernel)) hd hn
set_option maxRecDepth 100000 in
theorem zcallV_RL_19 : zCallV RL (1, 11, 21, 0, 118) := fun hd hn => sn_callV (idx := 118) (C := RX11) (T := TX11) (N := 18) rfl (by decide) cal_21 (pmt4 174 rfl (by decide +kernel)) (pmt4 175 rfl (by decide +kernel)) (pmt4 176 rfl (by decide +kernel)) hd hn
set_option maxRecDepth 100000 in
theorem zcallV_RL_20 : zCallV RL (1, 11, 22, 0, 122) := fun hd hn => sn_callV (idx := 122) (C := RX11) (T := TX11) (N := 18) rfl (by decide) cal_22 (pmt4 221 rfl (by decide +kernel)) (pmt4 222 rfl (by decide +kernel)) (pmt4 223 rfl (by decide +kernel)) hd hn
set_option maxRecDepth 100000 in
theorem zcallV_RL_21 : zCallV RL (1, 11, 23, 0, 126) := fun hd hn => sn_callV (idx := 126) (C := RX11) (T := TX11) (N := 18) rfl (by decide) cal_23 (pmt5 8 rfl (by decide +kernel)) (pmt5 9 rfl (by decide +kernel)) (pmt5 10 rfl (by decide +kernel)) hd hn
set_option maxRecDepth 100000 in
theorem zcallV_RL_22 : zCallV RL (1, 11, 24, 0, 130) := fun hd hn => sn_callV (idx := 130) (C := RX11) (T := TX11) (N := 18) rfl (by decide) cal_24 (pmt5 16 rfl (by decide +kernel)) (pmt5 17 rfl (by decide +kernel)) (pmt5 18 rfl (by decide +kernel)) hd hn
set_option maxRecDepth 100000 in
theorem zcallV_RL_23 : zCallV RL (1, 11, 25, 2, 134) := fun hd hn => sn_callV (idx := 134) (C := RX11) (T := TX11) (N := 18) rfl (by decide) cal_25 (pmt5 29 rfl (by decide +kernel)) (pmt5 30 rfl (by decide +kernel)) (pmt5 31 rfl (by decide +kernel)) hd hn
set_option maxRecDepth 100000 in
theorem zcallV_RL_24 : zCallV RL (1, 11, 26, 0, 138) := fun hd hn => sn_callV (idx := 138) (C := RX11) (T := TX11) (N := 18) rfl (by decide) cal_26 (pmt5 33 rfl (by decide +kernel)) (pmt5 34 rfl (by decide +kernel)) (pmt5 35 rfl (by decide +kernel)) hd hn
set_option maxRecDepth 100000 in
theorem zcallV_RL_25 : zCallV RL (1, 11, 27, 2, 142) := fun hd hn => sn_callV (idx := 142) (C := RX11) (T := TX11) (N := 18) rfl (by decide) cal_27 (pmt5 41 rfl (by decide +kernel)) (pmt5 42 rfl (by decide +kernel)) (pmt5 43 rfl (by decide +kernel)) hd hn
set_option maxRecDepth 100000 in
theorem zcallV_RL_26 : zCallV RL (1, 11, 28, 1, 146) := fun hd hn => sn_callV (idx := 146) (C := RX11) (T := TX11) (N := 18) rfl (by decide) cal_28 (pmt5 56 rfl (by decide +kernel)) (pmt5 57 rfl (by decide +kernel)) (pmt5 58 rfl (by decide +kernel)) hd hn
set_option maxRecDepth 100000 in
theorem zcallV_RL_27 : zCallV RL (1, 11, 29, 2, 150) := fun hd hn => sn_callV (idx := 150) (C := RX11) (T := TX11) (N := 18) rfl (by decide) cal_29 (pmt5 69 rfl (by decide +kernel)) (pmt5 70 rfl (by decide +kernel)) (pmt5 71 rfl (by decide +kernel)) hd hn
set_option maxRecDepth 100000 in
theorem zcallV_RL_28 : zCallV RL (1, 11, 30, 1, 154) := fun hd hn => sn_callV (idx := 154) (C := RX11) (T := TX11) (N := 18) rfl (by decide) cal_30 (pmt5 73 rfl (by decide +kernel)) (pmt5 74 rfl (by decide +kernel)) (pmt5 75 rfl (by decide +kernel)) hd hn
set_option maxRecDepth 100000 in
theorem zcallV_RL_29 : zCallV RL (1, 11, 31, 2, 158) := fun hd hn => sn_callV (idx := 158) (C := RX11) (T := TX11) (N := 18) rfl (by decide) cal_31 (pmt5 77 rfl (by decide +kernel)) (pmt5 78 rfl (by decide +kernel)) (pmt5 79 rfl (by decide +kernel)) hd hn
set_option maxRecDepth 100000 in
theorem zcallV_RL_30 : zCallV RL (1, 11, 32, 0, 162) := fun hd hn => sn_callV (idx := 162) (C := RX11) (T := TX11) (N := 18) rfl (by decide) cal_32 (pmt5 86 rfl (by decide +kernel)) (pmt5 87 rfl (by decide +kernel)) (pmt5 88 rfl (by decide +kernel)) hd hn
set_option maxRecDepth 100000 in
theorem zcallV_RL_31 : zCallV RL (1, 11, 33, 0, 166) := fun hd hn => sn_callV (idx := 166) (C := RX11) (T := TX11) (N := 18) rfl (by decide) cal_33 (pmt5 96 rfl (by decide +kernel)) (pmt5 97 rfl (by decide +kernel)) (pmt5 98 rfl (by decide +kernel)) hd hn
set_option maxRecDepth 100000 in
theorem zcallV_RL_32 : zCallV RL (1, 11, 34, 2, 170) := fun hd hn => sn_callV (idx := 170) (C := RX11) (T := TX11) (N := 18) rfl (by decide) cal_34 (pmt5 100 rfl (by decide +kernel)) (pmt5 101 rfl (by decide +kernel)) (pmt5 102 rfl (by decide +kernel)) hd hn
set_option maxRecDepth 100000 in
theorem zcallV_RL_33 : zCallV RL (1, 11, 35, 2, 174) := fun hd hn => sn_callV (idx := 174) (C := RX11) (T := TX11) (N := 18) rfl (by decide) cal_35 (pmt5 109 rfl (by decide +kernel)) (pmt5 110 rfl (by decide +kernel)) (pmt5 111 rfl (by decide +kernel)) hd hn
set_option maxRecDepth 100000 in
theorem zcallV_RL_34 : zCallV RL (1, 11, 36, 0, 178) := fun hd hn => sn_callV (idx := 178) (C := RX11) (T := TX11) (N := 18) rfl (by decide) cal_36 (pmt5 113 rfl (by decide +kernel)) (pmt5 114 rfl (by decide +kernel)) (pmt5 115 rfl (by decide +kernel)) hd hn
set_option maxRecDepth 100000 in
theorem zcallV_RL_35 : zCallV RL (1, 11, 37, 1, 182) := fun hd hn => sn_callV (idx := 182) (C := RX11) (T := TX11) (N := 18) rfl (by decide) cal_37 (pmt5 125 rfl (by decide +kernel)) (pmt5 126 rfl (by decide +kernel)) (pmt5 127 rfl (by decide +kernel)) hd hn
set_option maxRecDepth 100000 in
theorem zcallV_RL_36 : zCallV RL (1, 11, 38, 0, 186) := fun hd hn => sn_callV (idx := 186) (C := RX11) (T := TX11) (N := 18) rfl (by decide) cal_38 (pmt5 134 rfl (by decide +kernel)) (pmt5 135 rfl (by decide +kernel)) (pmt5 136 rfl (by decide +kernel)) hd hn
set_option maxRecDepth 100000 in
theorem zcallV_RL_37 : zCallV RL (1, 11, 39, 0, 190) := fun hd hn => sn_callV (idx := 190) (C := RX11) (T := TX11) (N := 18) rfl (by decide) cal_39 (pmt5 142 rfl (by decide +kernel)) (pmt5 143 rfl (by decide +kernel)) (pmt5 144 rfl (by decide +kernel)) hd hn
set_option maxRecDepth 100000 in
theorem zcallV_RL_38 : zCallV RL (1, 11, 40, 0, 194) := fun hd hn => sn_callV (idx := 194) (C := RX11) (T := TX11) (N := 18) rfl (by decide) cal_40 (pmt5 150 rfl (by decide +kernel)) (pmt5 151 rfl (by decide +kernel)) (pmt5 152 rfl (by decide +kernel)) hd hn
set_option maxRecDepth 100000 in
theorem zcallV_RL_39 : zCallV RL (1, 11, 41, 0, 198) := fun hd hn => sn_callV (idx := 198) (C := RX11) (T := TX11) (N := 18) rfl (by decide) cal_41 (pmt5 172 rfl (by decide +kernel)) (pmt5 173 rfl (by decide +kernel)) (pmt5 174 rfl (by decide +kernel)) hd hn
set_option maxRecDepth 100000 in
theorem zcallV_RL_40 : zCallV RL (1, 11, 42, 0, 202) := fun hd hn => sn_callV (idx := 202) (C := RX11) (T := TX11) (N := 18) rfl (by decide) cal_42 (pmt5 237 rfl (by decide +kernel)) (pmt5 238 rfl (by decide +kernel)) (pmt5 239 rfl (by decide +kernel)) hd hn
set_option maxRecDepth 100000 in
theorem zcallV_RL_41 : zCallV RL (1, 11, 43, 1, 206) := fun hd hn => sn_callV (idx := 206) (C := RX11) (T := TX11) (N := 18) rfl (by decide) cal_43 (pmt6 10 rfl (by decide +kernel)) (pmt6 11 rfl (by decide +kernel)) (pmt6 12 rfl (by decide +kernel)) hd hn
set_option maxRecDepth 100000 in
theorem zcallV_RL_42 : zCallV RL (1, 11, 44, 1, 210) := fun hd hn => sn_callV (idx := 210) (C := RX11) (T := TX11) (N := 18) rfl (by decide) cal_44 (pmt6 23 rfl (by decide +kernel)) (pmt6 24 rfl (by decide +kernel)) (pmt6 25 rfl (by decide +kernel)) hd hn
set_option maxRecDepth 100000 in
theorem zcallV_RL_43 : zCallV RL (1, 11, 45, 1, 214) := fun hd hn => sn_callV (idx := 214) (C := RX11) (T := TX11) (N := 18) rfl (by decide) cal_45 (pmt6 31 rfl (by decide +kernel)) (pmt6 32 rfl (by decide +kernel)) (pmt6 33 rfl (by decide +kernel)) hd hn
set_option maxRecDepth 100000 in
theorem zcallV_RL_44 : zCallV RL (1, 12, 168, 0, 53) := fun hd hn => sn_callV (idx := 53) (C := RX12) (T := TX12) (N := 56) rfl (by decide) cal_168 (pmt7 69 rfl (by decide +kernel)) (pmt7 70 rfl (by decide +kernel)) (pmt7 71 rfl (by decide +kernel)) hd hn
set_option maxRecDepth 100000 in
theorem zcallV_RL_45 : zCallV RL (1, 12, 175, 1, 29) := fun hd hn => sn_callV (idx := 29) (C := RX12) (T := TX12) (N := 56) rfl (by decide) cal_175 (pmt7 73 rfl (by decide +kernel)) (pmt7 74 rfl (by decide +kernel)) (pmt7 75 rfl (by decide +kernel)) hd hn
set_option maxRecDepth 100000 in
theorem zcallV_RL_46 : zCallV RL (1, 12, 176, 1, 34) := fun hd hn => sn_callV (idx := 34) (C := RX12) (T := TX12) (N := 56) rfl (by decide) cal_176 (pmt7 77 rfl (by decide +kernel)) (pmt7 78 rfl (by decide +kernel)) (pmt7 79 rfl (by decide +kernel)) hd hn
set_option maxRecDepth 100000 in
theorem zcallV_RL_47 : zCallV RL (1, 12, 184, 0, 39) := fun hd hn => sn_callV (idx := 39) (C := RX12) (T := TX12) (N := 56) rfl (by decide) cal_184 (pmt7 84 rfl (by decide +kernel)) (pmt7 85 rfl (by decide +kernel)) (pmt7 86 rfl (by decide +kernel)) hd hn
set_option maxRecDepth 100000 in
theorem zcallV_RL_48 : zCallV RL (1, 12, 193, 0, 43) := fun hd hn => sn_callV (idx := 43) (C := RX12) (T := TX12) (N := 56) rfl (by decide) cal_193 (pmt7 128 rfl (by decide +kernel)) (pmt7 129 rfl (by decide +kernel)) (pmt7 130 rfl (by decide +kernel)) hd hn
set_option maxRecDepth 100000 in
theorem zcallV_RL_49 : zCallV RL (1, 12, 199, 2, 49) := fun hd hn => sn_callV (idx := 49) (C := RX12) (T := TX12) (N := 56) rfl (by decide) cal_199 (pmt7 164 rfl (by decide +kernel)) (pmt7 165 rfl (by decide +kernel)) (pmt7 166 rfl (by decide +kernel)) hd hn
set_option maxRecDepth 100000 in
theorem zcallV_RL_50 : zCallV RL (1, 12, 201, 2, 52) := fun hd hn => sn_callV (idx := 52) (C := RX12) (T := TX12) (N := 56) rfl (by decide) cal_201 (pmt7 180 rfl (by decide +kernel)) (pmt7 181 rfl (by decide +kernel)) (pmt7 182 rfl (by decide +kernel)) hd hn
set_option maxRecDepth 100000 in
theorem zcallV_RL_51 : zCallV RL (1, 12, 202, 1, 59) := fun hd hn => sn_callV (idx := 59) (C := RX12) (T := TX12) (N := 56) rfl (by decide) cal_202 (pmt7 198 rfl (by decide +kernel)) (pmt7 199 rfl (by decide +kernel)) (pmt7 200 rfl (by decide +kernel)) hd hn
set_option maxRecDepth 100000 in
theorem zcallV_RL_52 : zCallV RL (1, 12, 203, 2, 63) := fun hd hn => sn_callV (idx := 63) (C := RX12) (T := TX12) (N := 56) rfl (by decide) cal_203 (pmt7 202 rfl (by decide +kernel)) (pmt7 203 rfl (by decide +kernel)) (pmt7 204 rfl (by decide +kernel)) hd hn
set_option maxRecDepth 100000 in
theorem zcallV_RL_53 : zCallV RL (1, 12, 204, 3, 68) := fun hd hn => sn_callV (idx := 68) (C := RX12) (T := TX12) (N := 56) rfl (by decide) cal_204 (pmt7 206 rfl (by decide +kernel)) (pmt7 207 rfl (by decide +kernel)) (pmt7 208 rfl (by decide +kernel)) hd hn
set_option maxRecDepth 100000 in
theorem zcallV_RL_54 : zCallV RL (1, 12, 205, 1, 72) := fun hd hn => sn_callV (idx := 72) (C := RX12) (T := TX12) (N := 56) rfl (by decide) cal_205 (pmt7 210 rfl (by decide +kernel)) (pmt7 211 rfl (by decide +kernel)) (pmt7 212 rfl (by decide +kernel)) hd hn
set_option maxRecDepth 100000 in
theorem zcallV_RL_55 : zCallV RL (1, 12, 206, 4, 77) := fun hd hn => sn_callV (idx := 77) (C := RX12) (T := TX12) (N := 56) rfl (by decide) cal_206 (pmt7 214 rfl (by decide +kernel)) (pmt7 215 rfl (by decide +kernel)) (pmt7 216 rfl (by decide +kernel)) hd hn
set_option maxRecDepth 100000 in
theorem zcallV_RL_56 : zCallV RL (1, 12, 216, 2, 81) := fun hd hn => sn_callV (idx := 81) (C := RX12) (T := TX12) (N := 56) rfl (by decide) cal_216 (pmt7 218 rfl (by decide +kernel)) (pmt7 219 rfl (by decide +kernel)) (pmt7 220 rfl (by decide +kernel)) hd hn
set_option maxRecDepth 100000 in
theorem zcallV_RL_57 : zCallV RL (1, 12, 218, 0, 85) := fun hd hn => sn_callV (idx := 85) (C := RX12) (T := TX12) (N := 56) rfl (by decide) cal_218 (pmt8 3 rfl (by decide +kernel)) (pmt8 4 rfl (by decide +kernel)) (pmt8 5 rfl (by decide +kernel)) hd hn
set_option maxRecDepth 100000 in
theorem zcallV_RL_58 : zCallV RL (1, 12, 219, 0, 89) := fun hd hn => sn_callV (idx := 89) (C := RX12) (T := TX12) (N := 56) rfl (by decide) cal_219 (pmt8 28 rfl (by decide +kernel)) (pmt8 29 rfl (by decide +kernel)) (pmt8 30 rfl (by decide +kernel)) hd hn
set_option maxRecDepth 100000 in
theorem zcallV_RL_59 : zCallV RL (1, 12, 220, 0, 93) := fun hd hn => sn_callV (idx := 93) (C := RX12) (T := TX12) (N := 56) rfl (by decide) cal_220 (pmt8 32 rfl (by decide +kernel)) (pmt8 33 rfl (by decide +kernel)) (pmt8 34 rfl (by decide +kernel)) hd hn
set_option maxRecDepth 100000 in
theorem zcallV_RL_60 : zCallV RL (1, 12, 221, 2, 97) := fun hd hn => sn_callV (idx := 97) (C := RX12) (T := TX12) (N := 56) rfl (by decide) cal_221 (pmt8 36 rfl (by decide +kernel)) (pmt8 37 rfl (by decide +kernel)) (pmt8 38 rfl (by decide +kernel)) hd hn
set_option maxRecDepth 100000 in
theorem zcallV_RL_61 : zCallV RL (1, 12, 222, 0, 101) := fun hd hn => sn_callV (idx := 101) (C := RX12) (T := TX12) (N := 56) rfl (by decide) cal_222 (pmt8 40 rfl (by decide +kernel)) (pmt8 41 rfl (by decide +kernel)) (pmt8 42 rfl (by decide +kernel)) hd hn
set_option maxRecDepth 100000 in
theorem zcallV_RL_62 : zCallV RL (1, 12, 224, 0, 105) := fun hd hn => sn_callV (idx := 105) (C := RX12) (T := TX12) (N := 56) rfl (by decide) cal_224 (pmt8 44 rfl (by decide +kernel)) (pmt8 45 rfl (by decide +kernel)) (pmt8 46 rfl (by decide +kernel)) hd hn
set_option maxRecDepth 100000 in
theorem zcallV_RL_63 : zCallV RL (1, 12, 225, 1, 109) := fun hd hn => sn_callV (idx := 109) (C := RX12) (T := TX12) (N := 56) rfl (by decide) cal_225 (pmt8 52 rfl (by decide +kernel)) (pmt8 53 rfl (by decide +kernel)) (pmt8 54 rfl (by decide +kernel)) hd hn
set_option maxRecDepth 100000 in
theorem zcallV_RL_64 : zCallV RL (1, 12, 226, 1, 113) := fun hd hn => sn_callV (idx := 113) (C := RX12) (T := TX12) (N := 56) rfl (by decide) cal_226 (pmt8 56 rfl (by decide +kernel)) (pmt8 57 rfl (by decide +kernel)) (pmt8 58 rfl (by decide +kernel)) hd hn
set_option maxRecDepth 100000 in
theorem zcallV_RL_65 : zCallV RL (1, 12, 227, 0, 117) := fun hd hn => sn_callV (idx := 117) (C := RX12) (T := TX12) (N := 56) rfl (by decide) cal_227 (pmt8 60 rfl (by decide +kernel)) (pmt8 61 rfl (by decide +kernel)) (pmt8 62 rfl (by decide +kernel)) hd hn
set_option maxRecDepth 100000 in
theorem zcallV_RL_66 : zCallV RL (1, 12, 234, 0, 121) := fun hd hn => sn_callV (idx := 121) (C := RX12) (T := TX12) (N := 56) rfl (by decide) cal_234 (pmt8 64 rfl (by decide +kernel)) (pmt8 65 rfl (by decide +kernel)) (pmt8 66 rfl (by decide +kernel)) hd hn
set_option maxRecDepth 100000 in
theorem zcallV_RL_67 : zCallV RL (1, 12, 235, 0, 125) := fun hd hn => sn_callV (idx := 125) (C := RX12) (T := TX12) (N := 56) rfl (by decide) cal_235 (pmt8 92 rfl (by decide +kernel)) (pmt8 93 rfl (by decide +kernel)) (pmt8 94 rfl (by decide +kernel)) hd hn
set_option maxRecDepth 100000 in
theorem zcallV_RL_68 : zCallV RL (1, 12, 236, 0, 129) := fun hd hn => sn_callV (idx := 129) (C := RX12) (T := TX12) (N := 56) rfl (by decide) cal_236 (pmt8 100 rfl (by decide +kernel)) (pmt8 101 rfl (by decide +kernel)) (pmt8 102 rfl (by decide +kernel)) hd hn
set_option maxRecDepth 100000 in
theorem zcallV_RL_69 : zCallV RL (1, 12, 238, 0, 133) := fun hd hn => sn_callV (idx := 133) (C := RX12) (T := TX12) (N := 56) rfl (by decide) cal_238 (pmt8 104 rfl (by decide +kernel)) (pmt8 105 rfl (by decide +kernel)) (pmt8 106 rfl (by decide +kernel)) hd hn
set_option maxRecDepth 100000 in
theorem zcallV_RL_70 : zCallV RL (1, 12, 239, 2, 137) := fun hd hn => sn_callV (idx := 137) (C := RX12) (T := TX12) (N := 56) rfl (by decide) cal_239 (pmt8 116 rfl (by decide +kernel)) (pmt8 117 rfl (by decide +kernel)) (pmt8 118 rfl (by decide +kernel)) hd hn
set_option maxRecDepth 100000 in
theorem zcallV_RL_71 : zCallV RL (1, 12, 240, 0, 141) := fun hd hn => sn_callV (idx := 141) (C := RX12) (T := TX12) (N := 56) rfl (by decide) cal_240 (pmt8 120 rfl (by decide +kernel)) (pmt8 121 rfl (by decide +kernel)) (pmt8 122 rfl (by decide +kernel)) hd hn
set_option maxRecDepth 100000 in
theorem zcallV_RL_72 : zCallV RL (1, 12, 241, 2, 145) := fun hd hn => sn_callV (idx := 145) (C := RX12) (T := TX12) (N := 56) rfl (by decide) cal_241 (pmt8 124 rfl (by decide +kernel)) (pmt8 125 rfl (by decide +kernel)) (pmt8 126 rfl (by decide +kernel)) hd hn
set_option maxRecDepth 100000 in
theorem zcallV_RL_73 : zCallV RL (1, 12, 242, 1, 149) := fun hd hn => sn_callV (idx := 149) (C := RX12) (T := TX12) (N := 56) rfl (by decide) cal_242 (pmt8 128 rfl (by decide +kernel)) (pmt8 129 rfl (by decide +kernel)) (pmt8 130 rfl (by decide +kernel)) hd hn
set_option maxRecDepth 100000 in
theorem zcallV_RL_74 : zCallV RL (1, 12, 243, 2, 153) := fun hd hn => sn_callV (idx := 153) (C := RX12) (T := TX12) (N := 56) rfl (by decide) cal_243 (pmt8 132 rfl (by decide +kernel)) (pmt8 133 rfl (by decide +kernel)) (pmt8 134 rfl (by decide +kernel)) hd hn
set_option maxRecDepth 100000 in
theorem zcallV_RL_75 : zCallV RL (1, 12, 244, 1, 157) := fun hd hn => sn_callV (idx := 157) (C := RX12) (T := TX12) (N := 56) rfl (by decide) cal_244 (pmt8 136 rfl (by decide +kernel)) (pmt8 137 rfl (by decide +kernel)) (pmt8 138 rfl (by decide +kernel)) hd hn
set_option maxRecDepth 100000 in
theorem zcallV_RL_76 : zCallV RL (1, 12, 245, 2, 161) := fun hd hn => sn_callV (idx := 161) (C := RX12) (T := TX12) (N := 56) rfl (by decide) cal_245 (pmt8 140 rfl (by decide +kernel)) (pmt8 141 rfl (by decide +kernel)) (pmt8 142 rfl (by decide +kernel)) hd hn
set_option maxRecDepth 100000 in
theorem zcallV_RL_77 : zCallV RL (1, 12, 246, 0, 165) := fun hd hn => sn_callV (idx := 165) (C := RX12) (T := TX12) (N := 56) rfl (by decide) cal_246 (pmt8 144 rfl (by decide +kernel)) (pmt8 145 rfl (by decide +kernel)) (pmt8 146 rfl (by decide +kernel)) hd hn
set_option maxRecDepth 100000 in
theorem zcallV_RL_78 : zCallV RL (1, 12, 248, 0, 169) := fun hd hn => sn_callV (idx := 169) (C := RX12) (T := TX12) (N := 56) rfl (by decide) cal_248 (pmt8 152 rfl (by decide +kernel)) (pmt8 153 rfl (by decide +kernel)) (pmt8 154 rfl (by decide +kernel)) hd hn
set_option maxRecDepth 100000 in
theorem zcallV_RL_79 : zCallV RL (1, 12, 250, 2, 173) := fun hd hn => sn_callV (idx := 173) (C := RX12) (T := TX12) (N := 56) rfl (by decide) cal_250 (pmt8 160 rfl (by decide +kernel)) (pmt8 161 rfl (by decide +kernel)) (pmt8 162 rfl (by decide +kernel)) hd hn
set_option maxRecDepth 100000 in
theorem zcallV_RL_80 : zCallV RL (1, 12, 251, 2, 177) := fun hd hn => sn_callV (idx := 177) (C := RX12) (T := TX12) (N := 56) rfl (by decide) cal_251 (pmt8 164 rfl (by decide +kernel)) (pmt8 165 rfl (by decide +kernel)) (pmt8 166 rfl (by decide +kernel)) hd hn
set_option maxRecDepth 100000 in
theorem zcallV_RL_81 : zCallV RL (1, 12, 252, 0, 181) := fun hd hn => sn_callV (idx := 181) (C := RX12) (T := TX12) (N := 56) rfl (by decide) cal_252 (pmt8 168 rfl (by decide +kernel)) (pmt8 169 rfl (by decide +kernel)) (pmt8 170 rfl (by decide +kernel)) hd hn
set_option maxRecDepth 100000 in
theorem zcallV_RL_82 : zCallV RL (1, 12, 254, 1, 185) := fun hd hn => sn_callV (idx := 185) (C := RX12) (T := TX12) (N := 56) rfl (by decide) cal_254 (pmt8 172 rfl (by decide +kernel)) (pmt8 173 rfl (by decide +kernel)) (pmt8 174 rfl (by decide +kernel)) hd hn
set_option maxRecDepth 100000 in
theorem zcallV_RL_83 : zCallV RL (1, 12, 255, 0, 189) := fun hd hn => sn_callV (idx := 189) (C := RX12) (T := TX12) (N := 56) rfl (by decide) cal_255 (pmt8 180 rfl (by decide +kernel)) (pmt8 181 rfl (by decide +kernel)) (pmt8 182 rfl (by decide +kernel)) hd hn
set_option maxRecDepth 100000 in
theorem zcallV_RL_84 : zCallV RL (1, 12, 257, 0, 193) := fun hd hn => sn_callV (idx := 193) (C := RX12) (T := TX12) (N := 56) rfl (by decide) cal_257 (pmt8 184 rfl (by decide +kernel)) (pmt8 185 rfl (by decide +kernel)) (pmt8 186 rfl (by decide +kernel)) hd hn
set_option maxRecDepth 100000 in
theorem zcallV_RL_85 : zCallV RL (1, 12, 259, 0, 197) := fun hd hn => sn_callV (idx := 197) (C := RX12) (T := TX12) (N := 56) rfl (by decide) cal_259 (pmt8 192 rfl (by decide +kernel)) (pmt8 193 rfl (by decide +kernel)) (pmt8 194 rfl (by decide +kernel)) hd hn
set_option maxRecDepth 100000 in
theorem zcallV_RL_86 : zCallV RL (1, 12, 263, 0, 201) := fun hd hn => sn_callV (idx := 201) (C := RX12) (T := TX12) (N := 56) rfl (by decide) cal_263 (pmt8 200 rfl (by decide +kernel)) (pmt8 201 rfl (by decide +kernel)) (pmt8 202 rfl (by decide +kernel)) hd hn
set_option maxRecDepth 100000 in
theorem zcallV_RL_87 : zCallV RL (1, 12, 264, 0, 205) := fun hd hn => sn_callV (idx := 205) (C := RX12) (T := TX12) (N := 56) rfl (by decide) cal_264 (pmt8 216 rfl (by decide +kernel)) (pmt8 217 rfl (by decide +kernel)) (pmt8 218 rfl (by decide +kernel)) hd hn
set_option maxRecDepth 100000 in
theorem zcallV_RL_88 : zCallV RL (1, 12, 266, 1, 209) := fun hd hn => sn_callV (idx := 209) (C := RX12) (T := TX12) (N := 56) rfl (by decide) cal_266 (pmt8 224 rfl (by decide +kernel)) (pmt8 225 rfl (by decide +kernel)) (pmt8 226 rfl (by decide +kernel)) hd hn
set_option maxRecDepth 100000 in
theorem zcallV_RL_89 : zCallV RL (1, 12, 267, 1, 213) := fun hd hn => sn_callV (idx := 213) (C := RX12) (T := TX12) (N := 56) rfl (by decide) cal_267 (pmt8 228 rfl (by decide +kernel)) (pmt8 229 rfl (by decide +kernel)) (pmt8 230 rfl (by decide +kernel)) hd hn
set_option maxRecDepth 100000 in
theorem zcallV_RL_90 : zCallV RL (1, 12, 268, 1, 217) := fun hd hn => sn_callV (idx := 217) (C := RX12) (T := TX12) (N := 56) rfl (by decide) cal_268 (pmt8 232 rfl (by decide +kernel)) (pmt8 233 rfl (by decide +kernel)) (pmt8 234 rfl (by decide +kernel)) hd hn
set_option maxRecDepth 100000 in
theorem zcallV_RL_91 : zCallV RL (1, 12, 269, 1, 221) := fun hd hn => sn_callV (idx := 221) (C := RX12) (T := TX12) (N := 56) rfl (by decide) cal_269 (pmt8 236 rfl (by decide +kernel)) (pmt8 237 rfl (by decide +kernel)) (pmt8 238 rfl (by decide +kernel)) hd hn
theorem zcallV_RL_ok : ∀ q ∈ zcallV_RL, zCallV RL q := List.forall_mem_cons.mpr ⟨zcallV_RL_0, List.forall_mem_cons.mpr ⟨zcallV_RL_1, List.forall_mem_cons.mpr ⟨zcallV_RL_2, List.forall_mem_cons.mpr ⟨zcallV_RL_3, List.forall_mem_cons.mpr ⟨zcallV_RL_4, List.forall_mem_cons.mpr ⟨zcallV_RL_5, List.forall_mem_cons.mpr ⟨zcallV_RL_6, List.forall_mem_cons.mpr ⟨zcallV_RL_7, List.forall_mem_cons.mpr ⟨zcallV_RL_8, List.forall_mem_cons.mpr ⟨zcallV_RL_9, List.forall_mem_cons.mpr ⟨zcallV_RL_10, List.forall_mem_cons.mpr ⟨zcallV_RL_11, List.forall_mem_cons.mpr ⟨zcallV_RL_12, List.forall_mem_cons.mpr ⟨zcallV_RL_13, List.forall_mem_cons.mpr ⟨zcallV_RL_14, List.forall_mem_cons.mpr ⟨zcallV_RL_15, List.forall_mem_cons.mpr ⟨zcallV_RL_16, List.forall_mem_cons.mpr ⟨zcallV_RL_17, List.forall_mem_cons.mpr ⟨zcallV_RL_18, List.forall_mem_cons.mpr ⟨zcallV_RL_19, List.forall_mem_cons.mpr ⟨zcallV_RL_20, List.forall_mem_cons.mpr ⟨zcallV_RL_21, List.forall_mem_cons.mpr ⟨zcallV_RL_22, List.forall_mem_cons.mpr ⟨zcallV_RL_23, List.forall_mem_cons.mpr ⟨zcallV_RL_24, List.forall_mem_cons.mpr ⟨zcallV_RL_25, List.forall_mem_cons.mpr ⟨zcallV_RL_26, List.forall_mem_cons.mpr ⟨zcallV_RL_27, List.forall_mem_cons.mpr ⟨zcallV_RL_28, List.forall_mem_cons.mpr ⟨zcallV_RL_29, List.forall_mem_cons.mpr ⟨zcallV_RL_30, List.forall_mem_cons.mpr ⟨zcallV_RL_31, List.forall_mem_cons.mpr ⟨zcallV_RL_32, List.forall_mem_cons.mpr ⟨zcallV_RL_33, List.forall_mem_cons.mpr ⟨zcallV_RL_34, List.forall_mem_cons.mpr ⟨zcallV_RL_35, List.forall_mem_cons.mpr ⟨zcallV_RL_36, List.forall_mem_cons.mpr ⟨zcallV_RL_37, List.forall_mem_cons.mpr ⟨zcallV_RL_38, List.forall_mem_cons.mpr ⟨zcallV_RL_39, List.forall_mem_cons.mpr ⟨zcallV_RL_40, List.forall_mem_cons.mpr ⟨zcallV_RL_41, List.forall_mem_cons.mpr ⟨zcallV_RL_42, List.forall_mem_cons.mpr ⟨zcallV_RL_43, List.forall_mem_cons.mpr ⟨zcallV_RL_44, List.forall_mem_cons.mpr ⟨zcallV_RL_45, List.forall_mem_cons.mpr ⟨zcallV_RL_46, List.forall_mem_cons.mpr ⟨zcallV_RL_47, List.forall_mem_cons.mpr ⟨zcallV_RL_48, List.forall_mem_cons.mpr ⟨zcallV_RL_49, List.forall_mem_cons.mpr ⟨zcallV_RL_50, List.forall_mem_cons.mpr ⟨zcallV_RL_51, List.forall_mem_cons.mpr ⟨zcallV_RL_52, List.forall_mem_cons.mpr ⟨zcallV_RL_53, List.forall_mem_cons.mpr ⟨zcallV_RL_54, List.forall_mem_cons.mpr ⟨zcallV_RL_55, List.forall_mem_cons.mpr ⟨zcallV_RL_56, List.forall_mem_cons.mpr ⟨zcallV_RL_57, List.forall_mem_cons.mpr ⟨zcallV_RL_58, List.forall_mem_cons.mpr ⟨zcallV_RL_59, List.forall_mem_cons.mpr ⟨zcallV_RL_60, List.forall_mem_cons.mpr ⟨zcallV_RL_61, List.forall_mem_cons.mpr ⟨zcallV_RL_62, List.forall_mem_cons.mpr ⟨zcallV_RL_63, List.forall_mem_cons.mpr ⟨zcallV_RL_64, List.forall_mem_cons.mpr ⟨zcallV_RL_65, List.forall_mem_cons.mpr ⟨zcallV_RL_66, List.forall_mem_cons.mpr ⟨zcallV_RL_67, List.forall_mem_cons.mpr ⟨zcallV_RL_68, List.forall_mem_cons.mpr ⟨zcallV_RL_69, List.forall_mem_cons.mpr ⟨zcallV_RL_70, List.forall_mem_cons.mpr ⟨zcallV_RL_71, List.forall_mem_cons.mpr ⟨zcallV_RL_72, List.forall_mem_cons.mpr ⟨zcallV_RL_73, List.forall_mem_cons.mpr ⟨zcallV_RL_74, List.forall_mem_cons.mpr ⟨zcallV_RL_75, List.forall_mem_cons.mpr ⟨zcallV_RL_76, List.forall_mem_cons.mpr ⟨zcallV_RL_77, List.forall_mem_cons.mpr ⟨zcallV_RL_78, List.forall_mem_cons.mpr ⟨zcallV_RL_79, List.forall_mem_cons.mpr ⟨zcallV_RL_80, List.forall_mem_cons.mpr ⟨zcallV_RL_81, List.forall_mem_cons.mpr ⟨zcallV_RL_82, List.forall_mem_cons.mpr ⟨zcallV_RL_83, List.forall_mem_cons.mpr ⟨zcallV_RL_84, List.forall_mem_cons.mpr ⟨zcallV_RL_85, List.forall_mem_cons.mpr ⟨zcallV_RL_86, List.forall_mem_cons.mpr ⟨zcallV_RL_87, List.forall_mem_cons.mpr ⟨zcallV_RL_88, List.forall_mem_cons.mpr ⟨zcallV_RL_89, List.forall_mem_cons.mpr ⟨zcallV_RL_90, List.forall_mem_cons.mpr ⟨zcallV_RL_91, fun _ h => absurd h List.not_mem_nil⟩⟩⟩⟩⟩⟩⟩⟩⟩⟩⟩⟩⟩⟩⟩⟩⟩⟩⟩⟩⟩⟩⟩⟩⟩⟩⟩⟩⟩⟩⟩⟩⟩⟩⟩⟩⟩⟩⟩⟩⟩⟩⟩⟩⟩⟩⟩⟩⟩⟩⟩⟩⟩⟩⟩⟩⟩⟩⟩⟩⟩⟩⟩⟩⟩⟩⟩⟩⟩⟩⟩⟩⟩⟩⟩⟩⟩⟩⟩⟩⟩⟩⟩⟩⟩⟩⟩⟩⟩⟩⟩⟩
def zasmO : List (Option zI) → List pS → List pS
  | [], _ => []
  | some x :: l, F => x.1.1 :: zasmO l F
  | none :: l, f :: F => f :: zasmO l F
  | none :: _, [] => []
def zckO : Nat → Nat → List UInt8 → List Nat → List (Option zI) → Bool
  | _, _, _, _, [] => true
  | i, p, b, rs, some x :: l => x.1.2 [] [] zcallV_RL 7 ret lawPC i p (rs.headD 0) b && ((l.isEmpty || Nat.ble p (rs.headD 0)) && zckO (i + 1) (rs.headD 0) (b.drop (rs.headD 0 - p)) rs.tail l)
  | i, p, b, rs, none :: l => (l.isEmpty || Nat.ble p (rs.headD 0)) && zckO (i + 1) (rs.headD 0) (b.drop (rs.headD 0 - p)) rs.tail l
def zNonO (P : Nat → pS → Prop) : Nat → List (Option zI) → List pS → Prop
  | _, [], _ => True
  | i, some _ :: l, F => zNonO P (i + 1) l F
  | i, none :: l, f :: F => P i f ∧ zNonO P (i + 1) l F
  | _, none :: _, [] => True
theorem zallL_ (L : Nat) (xs : Nat → Int32) (D : List (Option zI)) : ∀ (i p : Nat) (b : List UInt8) (rs : List Nat) (F : List pS), p = lawPC.getD i 0 → b = code.data.toList.drop p → rs = lawPC.drop (i + 1) → zckO i p b rs D = true → zNonO (fun i f => pSndL L xs pyn pwk RL code 7 ret lawpc (lawpc i) f) i D F → pAllL L xs i (zasmO D F) := by
  induction D with
  | nil => intro i p b rs F _ _ _ _ _; exact trivial
  | cons e l ih =>
    intro i p b rs F hp hb hr h hn
    have eq : rs.headD 0 = lawPC.getD (i + 1) 0 := by rw [hr]; exact z_head lawPC (i + 1)
    have et : rs.tail = lawPC.drop (i + 1 + 1) := by rw [hr]; exact z_tail lawPC (i + 1)
    subst hp
    subst hb
    cases e with
    | some x =>
      have h : (x.1.2 [] [] zcallV_RL 7 ret lawPC i (lawPC.getD i 0) (rs.headD 0) (code.data.toList.drop (lawPC.getD i 0)) && ((l.isEmpty || Nat.ble (lawPC.getD i 0) (rs.headD 0)) && zckO (i + 1) (rs.headD 0) ((code.data.toList.drop (lawPC.getD i 0)).drop (rs.headD 0 - lawPC.getD i 0)) rs.tail l)) = true := h
      obtain ⟨h1, h⟩ := zand h
      obtain ⟨h2, h3⟩ := zand h
      rw [eq] at h1
      refine ⟨slw (x.2 RL [] [] zcallV_RL code 7 ret lawPC i (lawPC.getD i 0) (fun _ h => absurd h List.not_mem_nil) (fun _ h => absurd h List.not_mem_nil) zcallV_RL_ok h1), ?_⟩
      cases l with
      | nil => exact trivial
      | cons y l' => exact ih (i + 1) _ _ _ _ eq (z_drop h2) et h3 hn
    | none =>
      have h : ((l.isEmpty || Nat.ble (lawPC.getD i 0) (rs.headD 0)) && zckO (i + 1) (rs.headD 0) ((code.data.toList.drop (lawPC.getD i 0)).drop (rs.headD 0 - lawPC.getD i 0)) rs.tail l) = true := h
      obtain ⟨h2, h3⟩ := zand h
      cases F with
      | nil => exact trivial
      | cons f F' =>
        refine ⟨hn.1, ?_⟩
        cases l with
        | nil => exact trivial
        | cons y l' => exact ih (i + 1) _ _ _ _ eq (z_drop h2) et h3 hn.2
theorem zallL (L : Nat) (xs : Nat → Int32) {D : List (Option zI)} {i : Nat} {F : List pS} (h : zckO i (lawPC.getD i 0) (code.data.toList.drop (lawPC.getD i 0)) (lawPC.drop (i + 1)) D = true) (hn : zNonO (fun i f => pSndL L xs pyn pwk RL code 7 ret lawpc (lawpc i) f) i D F) : pAllL L xs i (zasmO D F) := zallL_ L xs D i _ _ _ F rfl rfl rfl h hn
def lawp_0 (L : Nat) (xs : Nat → Int32) : List pS := [s_none, s_dup 2, s_none, s_ast 1 4, s_none, s_dup 6, s_none, s_ast 2 8, s_push (.inl (1)) 9, s_none, s_ast 3 11, s_push (.inl (0)) 12, s_ist 4 13, s_ild 4 14, s_ald 0 15, s_lln L 16, s_push (.inl (5)) 17, s_bin (fun x y => x - y) 18, s_if2 (fun x y => lt32 y x) (fun _ _ => inferInstance) 796 19, s_ald 0 20, s_ild 4 21, s_lld L xs 22, s_push (.inl (63)) 23, s_bin jand 24, s_sw [(0, 25), (1, 42), (2, 59), (3, 66), (4, 73), (5, 101), (6, 146), (7, 163), (8, 190), (9, 227), (10, 244), (11, 291), (12, 318), (13, 325), (14, 332), (15, 339), (16, 366), (17, 373), (18, 380), (19, 397), (20, 414), (21, 421), (22, 428), (23, 435), (24, 442), (25, 449), (26, 476), (27, 483), (28, 510), (29, 527), (30, 554), (31, 571), (32, 598), (33, 605), (34, 612), (35, 639), (36, 666), (37, 673), (38, 690), (39, 697), (40, 704), (41, 711), (42, 718), (43, 725), (44, 742), (45, 759), (46, 776)] 794, s_ald 1 26, s_ald 0 27, s_ild 4 28, s_push (.inl (1)) 29, s_bin (fun x y => x + y) 30, s_lld L xs 31, s_callV 1 11 0 1 32, s_pop 33, s_ald 2 34, s_ald 0 35, s_ild 4 36, s_push (.inl (1)) 37, s_bin (fun x y => x + y) 38, s_lld L xs 39, s_callV 1 12 175 1 40]
def ZL_0 : List (Option zI) := [none, some (zodup 2), none, none, none, some (zodup 6), none, none, some (zic1 9), none, none, some (zic0 12), some (zist 4 13), some (zild 4 14), some (zald0 15), none, some (zic5 17), some (zosub 18), some (zicgt 796 19), some (zald0 20), some (zild 4 21), none, some (zbi (63) 23), some (zoand 24), none, some (zald1 26), some (zald0 27), some (zild 4 28), some (zic1 29), some (zoadd 30), none, some (zcallV 1 11 0 1 32 26), some (zopop 33), some (zald2 34), some (zald0 35), some (zild 4 36), some (zic1 37), some (zoadd 38), none, some (zcallV 1 12 175 1 40 29)]
set_option maxRecDepth 100000 in
set_option maxHeartbeats 4000000 in
theorem SL_0 (L : Nat) (xs : Nat → Int32) : pAllL L xs 0 (lawp_0 L xs) := zallL L xs (D := ZL_0) (F := [s_none, s_none, s_ast 1 4, s_none, s_none, s_ast 2 8, s_none, s_ast 3 11, s_lln L 16, s_lld L xs 22, s_sw [(0, 25), (1, 42), (2, 59), (3, 66), (4, 73), (5, 101), (6, 146), (7, 163), (8, 190), (9, 227), (10, 244), (11, 291), (12, 318), (13, 325), (14, 332), (15, 339), (16, 366), (17, 373), (18, 380), (19, 397), (20, 414), (21, 421), (22, 428), (23, 435), (24, 442), (25, 449), (26, 476), (27, 483), (28, 510), (29, 527), (30, 554), (31, 571), (32, 598), (33, 605), (34, 612), (35, 639), (36, 666), (37, 673), (38, 690), (39, 697), (40, 704), (41, 711), (42, 718), (43, 725), (44, 742), (45, 759), (46, 776)] 794, s_lld L xs 31, s_lld L xs 39]) (by decide +kernel)
  ⟨slw (sn_none),
   slw (sn_none),
   slw (sn_astore_n (k := 1) (dX_astore_1 (by decide +kernel)) rfl (by decide) (by decide +kernel)),
   slw (sn_none),
   slw (sn_none),
   slw (sn_astore_n (k := 2) (dX_astore_2 (by decide +kernel)) rfl (by decide) (by decide +kernel)),
   slw (sn_none),
   slw (sn_astore_n (k := 3) (dX_astore_3 (by decide +kernel)) rfl (by decide) (by decide +kernel)),
   sl_len (dX_arraylength (by decide +kernel)) (by decide +kernel),
   sl_ild (dX_iaload (by decide +kernel)) (by decide +kernel),
   slw (sn_sw (dflt := 1353) (lo := 0) (hi := 46) (offs := #[201, 226, 251, 264, 277, 317, 385, 410, 447, 496, 521, 582, 619, 632, 645, 658, 695, 708, 721, 746, 771, 784, 797, 810, 823, 836, 873, 886, 923, 948, 985, 1010, 1047, 1060, 1073, 1110, 1147, 1160, 1185, 1198, 1211, 1224, 1237, 1250, 1275, 1300, 1325]) (len := 201) (by decide +kernel) (by decide) (by decide +kernel) (p_sw_all (by decide +kernel)) (by decide +kernel)),
   sl_ild (dX_iaload (by decide +kernel)) (by decide +kernel),
   sl_ild (dX_iaload (by decide +kernel)) (by decide +kernel), trivial⟩
def lawp_1 (L : Nat) (xs : Nat → Int32) : List pS := [s_pop 41, s_goto 794, s_ald 1 43, s_ald 0 44, s_ild 4 45, s_push (.inl (1)) 46, s_bin (fun x y => x + y) 47, s_lld L xs 48, s_callV 1 11 1 1 49, s_pop 50, s_ald 2 51, s_ald 0 52, s_ild 4 53, s_push (.inl (1)) 54, s_bin (fun x y => x + y) 55, s_lld L xs 56, s_callV 1 12 176 1 57, s_pop 58, s_goto 794, s_ald 1 60, s_callV 1 11 2 0 61, s_pop 62, s_ald 2 63, s_callV 1 12 184 0 64, s_pop 65, s_goto 794, s_ald 1 67, s_callV 1 11 3 0 68, s_pop 69, s_ald 2 70, s_callV 1 12 193 0 71, s_pop 72, s_goto 794, s_ald 1 74, s_ald 0 75, s_ild 4 76, s_push (.inl (1)) 77, s_bin (fun x y => x + y) 78, s_lld L xs 79, s_ald 0 80]
def ZL_1 : List (Option zI) := [some (zopop 41), some (zgo 794), some (zald1 43), some (zald0 44), some (zild 4 45), some (zic1 46), some (zoadd 47), none, some (zcallV 1 11 1 1 49 30), some (zopop 50), some (zald2 51), some (zald0 52), some (zild 4 53), some (zic1 54), some (zoadd 55), none, some (zcallV 1 12 176 1 57 34), some (zopop 58), some (zgo 794), some (zald1 60), some (zcallV 1 11 2 0 61 35), some (zopop 62), some (zald2 63), some (zcallV 1 12 184 0 64 39), some (zopop 65), some (zgo 794), some (zald1 67), some (zcallV 1 11 3 0 68 40), some (zopop 69), some (zald2 70), some (zcallV 1 12 193 0 71 43), some (zopop 72), some (zgo 794), some (zald1 74), some (zald0 75), some (zild 4 76), some (zic1 77), some (zoadd 78), none, some (zald0 80)]
set_option maxRecDepth 100000 in
set_option maxHeartbeats 4000000 in
theorem SL_1 (L : Nat) (xs : Nat → Int32) : pAllL L xs 40 (lawp_1 L xs) := zallL L xs (D := ZL_1) (F := [s_lld L xs 48, s_lld L xs 56, s_lld L xs 79]) (by decide +kernel)
  ⟨sl_ild (dX_iaload (by decide +kernel)) (by decide +kernel),
   sl_ild (dX_iaload (by decide +kernel)) (by decide +kernel),
   sl_ild (dX_iaload (by decide +kernel)) (by decide +kernel), trivial⟩
def lawp_2 (L : Nat) (xs : Nat → Int32) : List pS := [s_ild 4 81, s_push (.inl (2)) 82, s_bin (fun x y => x + y) 83, s_lld L xs 84, s_ald 3 85, s_none, s_ist 5 87, s_ald 2 88, s_ald 0 89, s_ild 4 90, s_push (.inl (1)) 91, s_bin (fun x y => x + y) 92, s_lld L xs 93, s_ald 0 94, s_ild 4 95, s_push (.inl (2)) 96, s_bin (fun x y => x + y) 97, s_lld L xs 98, s_callV 1 12 199 2 99, s_ist 6 100, s_goto 794, s_ald 1 102, s_ald 0 103, s_ild 4 104, s_push (.inl (1)) 105, s_bin (fun x y => x + y) 106, s_lld L xs 107, s_ald 0 108, s_ild 4 109, s_push (.inl (2)) 110, s_bin (fun x y => x + y) 111, s_lld L xs 112, s_ald 3 113, s_none, s_ist 5 115, s_ald 2 116, s_ald 0 117, s_ild 4 118, s_push (.inl (1)) 119, s_bin (fun x y => x + y) 120]
def ZL_2 : List (Option zI) := [some (zild 4 81), some (zic2 82), some (zoadd 83), none, some (zald3 85), none, some (zist 5 87), some (zald2 88), some (zald0 89), some (zild 4 90), some (zic1 91), some (zoadd 92), none, some (zald0 94), some (zild 4 95), some (zic2 96), some (zoadd 97), none, some (zcallV 1 12 199 2 99 49), some (zist 6 100), some (zgo 794), some (zald1 102), some (zald0 103), some (zild 4 104), some (zic1 105), some (zoadd 106), none, some (zald0 108), some (zild 4 109), some (zic2 110), some (zoadd 111), none, some (zald3 113), none, some (zist 5 115), some (zald2 116), some (zald0 117), some (zild 4 118), some (zic1 119), some (zoadd 120)]
set_option maxRecDepth 100000 in
set_option maxHeartbeats 4000000 in
theorem SL_2 (L : Nat) (xs : Nat → Int32) : pAllL L xs 80 (lawp_2 L xs) := zallL L xs (D := ZL_2) (F := [s_lld L xs 84, s_none, s_lld L xs 93, s_lld L xs 98, s_lld L xs 107, s_lld L xs 112, s_none]) (by decide +kernel)
  ⟨sl_ild (dX_iaload (by decide +kernel)) (by decide +kernel),
   slw (sn_none),
   sl_ild (dX_iaload (by decide +kernel)) (by decide +kernel),
   sl_ild (dX_iaload (by decide +kernel)) (by decide +kernel),
   sl_ild (dX_iaload (by decide +kernel)) (by decide +kernel),
   sl_ild (dX_iaload (by decide +kernel)) (by decide +kernel),
   slw (sn_none), trivial⟩
def lawp_3 (L : Nat) (xs : Nat → Int32) : List pS := [s_lld L xs 121, s_ald 0 122, s_ild 4 123, s_push (.inl (2)) 124, s_bin (fun x y => x + y) 125, s_lld L xs 126, s_callV 1 12 201 2 127, s_ist 6 128, s_ald 2 129, s_callV 1 12 168 0 130, s_ild 5 131, s_if2 (fun x y => eq32 x y) (fun _ _ => inferInstance) 134 132, s_push (.inl (0)) 133, s_zret, s_ild 5 135, s_if (fun x => ¬ eq32 x 0) (fun _ => inferInstance) 145 136, s_lout 6 145 143, s_push (.inl (0)) 138, s_none, s_ild 6 140, s_none, s_none, s_if (fun x => eq32 x 0) (fun _ => inferInstance) 145 143, s_push (.inl (0)) 144, s_zret, s_goto 794, s_ald 1 147, s_ald 0 148, s_ild 4 149, s_push (.inl (1)) 150, s_bin (fun x y => x + y) 151, s_lld L xs 152, s_callV 1 11 6 1 153, s_pop 154, s_ald 2 155, s_ald 0 156, s_ild 4 157, s_push (.inl (1)) 158, s_bin (fun x y => x + y) 159, s_lld L xs 160]
def ZL_3 : List (Option zI) := [none, some (zald0 122), some (zild 4 123), some (zic2 124), some (zoadd 125), none, some (zcallV 1 12 201 2 127 52), some (zist 6 128), some (zald2 129), some (zcallV 1 12 168 0 130 53), some (zild 5 131), some (ziceq 134 132), some (zic0 133), none, some (zild 5 135), some (zifne 145 136), none, some (zic0 138), none, some (zild 6 140), none, none, some (zifeq 145 143), some (zic0 144), none, some (zgo 794), some (zald1 147), some (zald0 148), some (zild 4 149), some (zic1 150), some (zoadd 151), none, some (zcallV 1 11 6 1 153 56), some (zopop 154), some (zald2 155), some (zald0 156), some (zild 4 157), some (zic1 158), some (zoadd 159), none]
set_option maxRecDepth 100000 in
set_option maxHeartbeats 4000000 in
theorem SL_3 (L : Nat) (xs : Nat → Int32) : pAllL L xs 120 (lawp_3 L xs) := zallL L xs (D := ZL_3) (F := [s_lld L xs 121, s_lld L xs 126, s_zret, s_lout 6 145 143, s_none, s_none, s_none, s_zret, s_lld L xs 152, s_lld L xs 160]) (by decide +kernel)
  ⟨sl_ild (dX_iaload (by decide +kernel)) (by decide +kernel),
   sl_ild (dX_iaload (by decide +kernel)) (by decide +kernel),
   slw (sn_zret (Or.inl rfl) (dX_ireturn (by decide +kernel))),
   sl_out (off := 5) (dX_aload_3 (by decide +kernel)) (dX_iconst_0 (by decide +kernel)) (dX_laload (by decide +kernel)) (dX_iload (by decide +kernel)) (dX_i2l (by decide +kernel)) (dX_lcmp (by decide +kernel)) (dX_ifeq (by decide +kernel)) (by decide +kernel) rfl,
   slw (sn_none),
   slw (sn_none),
   slw (sn_none),
   slw (sn_zret (Or.inl rfl) (dX_ireturn (by decide +kernel))),
   sl_ild (dX_iaload (by decide +kernel)) (by decide +kernel),
   sl_ild (dX_iaload (by decide +kernel)) (by decide +kernel), trivial⟩
def lawp_4 (L : Nat) (xs : Nat → Int32) : List pS := [s_callV 1 12 202 1 161, s_pop 162, s_goto 794, s_ald 1 164, s_ald 0 165, s_ild 4 166, s_push (.inl (1)) 167, s_bin (fun x y => x + y) 168, s_lld L xs 169, s_ald 0 170, s_ild 4 171, s_push (.inl (2)) 172, s_bin (fun x y => x + y) 173, s_lld L xs 174, s_callV 1 11 7 2 175, s_pop 176, s_ald 2 177, s_ald 0 178, s_ild 4 179, s_push (.inl (1)) 180, s_bin (fun x y => x + y) 181, s_lld L xs 182, s_ald 0 183, s_ild 4 184, s_push (.inl (2)) 185, s_bin (fun x y => x + y) 186, s_lld L xs 187, s_callV 1 12 203 2 188, s_pop 189, s_goto 794, s_ald 1 191, s_ald 0 192, s_ild 4 193, s_push (.inl (1)) 194, s_bin (fun x y => x + y) 195, s_lld L xs 196, s_ald 0 197, s_ild 4 198, s_push (.inl (2)) 199, s_bin (fun x y => x + y) 200]
def ZL_4 : List (Option zI) := [some (zcallV 1 12 202 1 161 59), some (zopop 162), some (zgo 794), some (zald1 164), some (zald0 165), some (zild 4 166), some (zic1 167), some (zoadd 168), none, some (zald0 170), some (zild 4 171), some (zic2 172), some (zoadd 173), none, some (zcallV 1 11 7 2 175 60), some (zopop 176), some (zald2 177), some (zald0 178), some (zild 4 179), some (zic1 180), some (zoadd 181), none, some (zald0 183), some (zild 4 184), some (zic2 185), some (zoadd 186), none, some (zcallV 1 12 203 2 188 63), some (zopop 189), some (zgo 794), some (zald1 191), some (zald0 192), some (zild 4 193), some (zic1 194), some (zoadd 195), none, some (zald0 197), some (zild 4 198), some (zic2 199), some (zoadd 200)]
set_option maxRecDepth 100000 in
set_option maxHeartbeats 4000000 in
theorem SL_4 (L : Nat) (xs : Nat → Int32) : pAllL L xs 160 (lawp_4 L xs) := zallL L xs (D := ZL_4) (F := [s_lld L xs 169, s_lld L xs 174, s_lld L xs 182, s_lld L xs 187, s_lld L xs 196]) (by decide +kernel)
  ⟨sl_ild (dX_iaload (by decide +kernel)) (by decide +kernel),
   sl_ild (dX_iaload (by decide +kernel)) (by decide +kernel),
   sl_ild (dX_iaload (by decide +kernel)) (by decide +kernel),
   sl_ild (dX_iaload (by decide +kernel)) (by decide +kernel),
   sl_ild (dX_iaload (by decide +kernel)) (by decide +kernel), trivial⟩
def lawp_5 (L : Nat) (xs : Nat → Int32) : List pS := [s_lld L xs 201, s_ald 0 202, s_ild 4 203, s_push (.inl (3)) 204, s_bin (fun x y => x + y) 205, s_lld L xs 206, s_callV 1 11 8 3 207, s_pop 208, s_ald 2 209, s_ald 0 210, s_ild 4 211, s_push (.inl (1)) 212, s_bin (fun x y => x + y) 213, s_lld L xs 214, s_ald 0 215, s_ild 4 216, s_push (.inl (2)) 217, s_bin (fun x y => x + y) 218, s_lld L xs 219, s_ald 0 220, s_ild 4 221, s_push (.inl (3)) 222, s_bin (fun x y => x + y) 223, s_lld L xs 224, s_callV 1 12 204 3 225, s_pop 226, s_goto 794, s_ald 1 228, s_ald 0 229, s_ild 4 230, s_push (.inl (1)) 231, s_bin (fun x y => x + y) 232, s_lld L xs 233, s_callV 1 11 9 1 234, s_pop 235, s_ald 2 236, s_ald 0 237, s_ild 4 238, s_push (.inl (1)) 239, s_bin (fun x y => x + y) 240]
def ZL_5 : List (Option zI) := [none, some (zald0 202), some (zild 4 203), some (zic3 204), some (zoadd 205), none, some (zcallV 1 11 8 3 207 64), some (zopop 208), some (zald2 209), some (zald0 210), some (zild 4 211), some (zic1 212), some (zoadd 213), none, some (zald0 215), some (zild 4 216), some (zic2 217), some (zoadd 218), none, some (zald0 220), some (zild 4 221), some (zic3 222), some (zoadd 223), none, some (zcallV 1 12 204 3 225 68), some (zopop 226), some (zgo 794), some (zald1 228), some (zald0 229), some (zild 4 230), some (zic1 231), some (zoadd 232), none, some (zcallV 1 11 9 1 234 69), some (zopop 235), some (zald2 236), some (zald0 237), some (zild 4 238), some (zic1 239), some (zoadd 240)]
set_option maxRecDepth 100000 in
set_option maxHeartbeats 4000000 in
theorem SL_5 (L : Nat) (xs : Nat → Int32) : pAllL L xs 200 (lawp_5 L xs) := zallL L xs (D := ZL_5) (F := [s_lld L xs 201, s_lld L xs 206, s_lld L xs 214, s_lld L xs 219, s_lld L xs 224, s_lld L xs 233]) (by decide +kernel)
  ⟨sl_ild (dX_iaload (by decide +kernel)) (by decide +kernel),
   sl_ild (dX_iaload (by decide +kernel)) (by decide +kernel),
   sl_ild (dX_iaload (by decide +kernel)) (by decide +kernel),
   sl_ild (dX_iaload (by decide +kernel)) (by decide +kernel),
   sl_ild (dX_iaload (by decide +kernel)) (by decide +kernel),
   sl_ild (dX_iaload (by decide +kernel)) (by decide +kernel), trivial⟩
def lawp_6 (L : Nat) (xs : Nat → Int32) : List pS := [s_lld L xs 241, s_callV 1 12 205 1 242, s_pop 243, s_goto 794, s_ald 1 245, s_ald 0 246, s_ild 4 247, s_push (.inl (1)) 248, s_bin (fun x y => x + y) 249, s_lld L xs 250, s_ald 0 251, s_ild 4 252, s_push (.inl (2)) 253, s_bin (fun x y => x + y) 254, s_lld L xs 255, s_ald 0 256, s_ild 4 257, s_push (.inl (3)) 258, s_bin (fun x y => x + y) 259, s_lld L xs 260, s_ald 0 261, s_ild 4 262, s_push (.inl (4)) 263, s_bin (fun x y => x + y) 264, s_lld L xs 265, s_callV 1 11 10 4 266, s_pop 267, s_ald 2 268, s_ald 0 269, s_ild 4 270, s_push (.inl (1)) 271, s_bin (fun x y => x + y) 272, s_lld L xs 273, s_ald 0 274, s_ild 4 275, s_push (.inl (2)) 276, s_bin (fun x y => x + y) 277, s_lld L xs 278, s_ald 0 279, s_ild 4 280]
def ZL_6 : List (Option zI) := [none, some (zcallV 1 12 205 1 242 72), some (zopop 243), some (zgo 794), some (zald1 245), some (zald0 246), some (zild 4 247), some (zic1 248), some (zoadd 249), none, some (zald0 251), some (zild 4 252), some (zic2 253), some (zoadd 254), none, some (zald0 256), some (zild 4 257), some (zic3 258), some (zoadd 259), none, some (zald0 261), some (zild 4 262), some (zic4 263), some (zoadd 264), none, some (zcallV 1 11 10 4 266 73), some (zopop 267), some (zald2 268), some (zald0 269), some (zild 4 270), some (zic1 271), some (zoadd 272), none, some (zald0 274), some (zild 4 275), some (zic2 276), some (zoadd 277), none, some (zald0 279), some (zild 4 280)]
set_option maxRecDepth 100000 in
set_option maxHeartbeats 4000000 in
theorem SL_6 (L : Nat) (xs : Nat → Int32) : pAllL L xs 240 (lawp_6 L xs) := zallL L xs (D := ZL_6) (F := [s_lld L xs 241, s_lld L xs 250, s_lld L xs 255, s_lld L xs 260, s_lld L xs 265, s_lld L xs 273, s_lld L xs 278]) (by decide +kernel)
  ⟨sl_ild (dX_iaload (by decide +kernel)) (by decide +kernel),
   sl_ild (dX_iaload (by decide +kernel)) (by decide +kernel),
   sl_ild (dX_iaload (by decide +kernel)) (by decide +kernel),
   sl_ild (dX_iaload (by decide +kernel)) (by decide +kernel),
   sl_ild (dX_iaload (by decide +kernel)) (by decide +kernel),
   sl_ild (dX_iaload (by decide +kernel)) (by decide +kernel),
   sl_ild (dX_iaload (by decide +kernel)) (by decide +kernel), trivial⟩
def lawp_7 (L : Nat) (xs : Nat → Int32) : List pS := [s_push (.inl (3)) 281, s_bin (fun x y => x + y) 282, s_lld L xs 283, s_ald 0 284, s_ild 4 285, s_push (.inl (4)) 286, s_bin (fun x y => x + y) 287, s_lld L xs 288, s_callV 1 12 206 4 289, s_pop 290, s_goto 794, s_ald 1 292, s_ald 0 293, s_ild 4 294, s_push (.inl (1)) 295, s_bin (fun x y => x + y) 296, s_lld L xs 297, s_ald 0 298, s_ild 4 299, s_push (.inl (2)) 300, s_bin (fun x y => x + y) 301, s_lld L xs 302, s_callV 1 11 11 2 303, s_pop 304, s_ald 2 305, s_ald 0 306, s_ild 4 307, s_push (.inl (1)) 308, s_bin (fun x y => x + y) 309, s_lld L xs 310, s_ald 0 311, s_ild 4 312, s_push (.inl (2)) 313, s_bin (fun x y => x + y) 314, s_lld L xs 315, s_callV 1 12 216 2 316, s_pop 317, s_goto 794, s_ald 1 319, s_callV 1 11 12 0 320]
def ZL_7 : List (Option zI) := [some (zic3 281), some (zoadd 282), none, some (zald0 284), some (zild 4 285), some (zic4 286), some (zoadd 287), none, some (zcallV 1 12 206 4 289 77), some (zopop 290), some (zgo 794), some (zald1 292), some (zald0 293), some (zild 4 294), some (zic1 295), some (zoadd 296), none, some (zald0 298), some (zild 4 299), some (zic2 300), some (zoadd 301), none, some (zcallV 1 11 11 2 303 78), some (zopop 304), some (zald2 305), some (zald0 306), some (zild 4 307), some (zic1 308), some (zoadd 309), none, some (zald0 311), some (zild 4 312), some (zic2 313), some (zoadd 314), none, some (zcallV 1 12 216 2 316 81), some (zopop 317), some (zgo 794), some (zald1 319), some (zcallV 1 11 12 0 320 82)]
set_option maxRecDepth 100000 in
set_option maxHeartbeats 4000000 in
theorem SL_7 (L : Nat) (xs : Nat → Int32) : pAllL L xs 280 (lawp_7 L xs) := zallL L xs (D := ZL_7) (F := [s_lld L xs 283, s_lld L xs 288, s_lld L xs 297, s_lld L xs 302, s_lld L xs 310, s_lld L xs 315]) (by decide +kernel)
  ⟨sl_ild (dX_iaload (by decide +kernel)) (by decide +kernel),
   sl_ild (dX_iaload (by decide +kernel)) (by decide +kernel),
   sl_ild (dX_iaload (by decide +kernel)) (by decide +kernel),
   sl_ild (dX_iaload (by decide +kernel)) (by decide +kernel),
   sl_ild (dX_iaload (by decide +kernel)) (by decide +kernel),
   sl_ild (dX_iaload (by decide +kernel)) (by decide +kernel), trivial⟩
def lawp_8 (L : Nat) (xs : Nat → Int32) : List pS := [s_pop 321, s_ald 2 322, s_callV 1 12 218 0 323, s_pop 324, s_goto 794, s_ald 1 326, s_callV 1 11 13 0 327, s_pop 328, s_ald 2 329, s_callV 1 12 219 0 330, s_pop 331, s_goto 794, s_ald 1 333, s_callV 1 11 14 0 334, s_pop 335, s_ald 2 336, s_callV 1 12 220 0 337, s_pop 338, s_goto 794, s_ald 1 340, s_ald 0 341, s_ild 4 342, s_push (.inl (1)) 343, s_bin (fun x y => x + y) 344, s_lld L xs 345, s_ald 0 346, s_ild 4 347, s_push (.inl (2)) 348, s_bin (fun x y => x + y) 349, s_lld L xs 350, s_callV 1 11 15 2 351, s_pop 352, s_ald 2 353, s_ald 0 354, s_ild 4 355, s_push (.inl (1)) 356, s_bin (fun x y => x + y) 357, s_lld L xs 358, s_ald 0 359, s_ild 4 360]
def ZL_8 : List (Option zI) := [some (zopop 321), some (zald2 322), some (zcallV 1 12 218 0 323 85), some (zopop 324), some (zgo 794), some (zald1 326), some (zcallV 1 11 13 0 327 86), some (zopop 328), some (zald2 329), some (zcallV 1 12 219 0 330 89), some (zopop 331), some (zgo 794), some (zald1 333), some (zcallV 1 11 14 0 334 90), some (zopop 335), some (zald2 336), some (zcallV 1 12 220 0 337 93), some (zopop 338), some (zgo 794), some (zald1 340), some (zald0 341), some (zild 4 342), some (zic1 343), some (zoadd 344), none, some (zald0 346), some (zild 4 347), some (zic2 348), some (zoadd 349), none, some (zcallV 1 11 15 2 351 94), some (zopop 352), some (zald2 353), some (zald0 354), some (zild 4 355), some (zic1 356), some (zoadd 357), none, some (zald0 359), some (zild 4 360)]
set_option maxRecDepth 100000 in
set_option maxHeartbeats 4000000 in
theorem SL_8 (L : Nat) (xs : Nat → Int32) : pAllL L xs 320 (lawp_8 L xs) := zallL L xs (D := ZL_8) (F := [s_lld L xs 345, s_lld L xs 350, s_lld L xs 358]) (by decide +kernel)
  ⟨sl_ild (dX_iaload (by decide +kernel)) (by decide +kernel),
   sl_ild (dX_iaload (by decide +kernel)) (by decide +kernel),
   sl_ild (dX_iaload (by decide +kernel)) (by decide +kernel), trivial⟩
def lawp_9 (L : Nat) (xs : Nat → Int32) : List pS := [s_push (.inl (2)) 361, s_bin (fun x y => x + y) 362, s_lld L xs 363, s_callV 1 12 221 2 364, s_pop 365, s_goto 794, s_ald 1 367, s_callV 1 11 16 0 368, s_pop 369, s_ald 2 370, s_callV 1 12 222 0 371, s_pop 372, s_goto 794, s_ald 1 374, s_callV 1 11 17 0 375, s_pop 376, s_ald 2 377, s_callV 1 12 224 0 378, s_pop 379, s_goto 794, s_ald 1 381, s_ald 0 382, s_ild 4 383, s_push (.inl (1)) 384, s_bin (fun x y => x + y) 385, s_lld L xs 386, s_callV 1 11 18 1 387, s_pop 388, s_ald 2 389, s_ald 0 390, s_ild 4 391, s_push (.inl (1)) 392, s_bin (fun x y => x + y) 393, s_lld L xs 394, s_callV 1 12 225 1 395, s_pop 396, s_goto 794, s_ald 1 398, s_ald 0 399, s_ild 4 400]
def ZL_9 : List (Option zI) := [some (zic2 361), some (zoadd 362), none, some (zcallV 1 12 221 2 364 97), some (zopop 365), some (zgo 794), some (zald1 367), some (zcallV 1 11 16 0 368 98), some (zopop 369), some (zald2 370), some (zcallV 1 12 222 0 371 101), some (zopop 372), some (zgo 794), some (zald1 374), some (zcallV 1 11 17 0 375 102), some (zopop 376), some (zald2 377), some (zcallV 1 12 224 0 378 105), some (zopop 379), some (zgo 794), some (zald1 381), some (zald0 382), some (zild 4 383), some (zic1 384), some (zoadd 385), none, some (zcallV 1 11 18 1 387 106), some (zopop 388), some (zald2 389), some (zald0 390), some (zild 4 391), some (zic1 392), some (zoadd 393), none, some (zcallV 1 12 225 1 395 109), some (zopop 396), some (zgo 794), some (zald1 398), some (zald0 399), some (zild 4 400)]
set_option maxRecDepth 100000 in
set_option maxHeartbeats 4000000 in
theorem SL_9 (L : Nat) (xs : Nat → Int32) : pAllL L xs 360 (lawp_9 L xs) := zallL L xs (D := ZL_9) (F := [s_lld L xs 363, s_lld L xs 386, s_lld L xs 394]) (by decide +kernel)
  ⟨sl_ild (dX_iaload (by decide +kernel)) (by decide +kernel),
   sl_ild (dX_iaload (by decide +kernel)) (by decide +kernel),
   sl_ild (dX_iaload (by decide +kernel)) (by decide +kernel), trivial⟩
def lawp_10 (L : Nat) (xs : Nat → Int32) : List pS := [s_push (.inl (1)) 401, s_bin (fun x y => x + y) 402, s_lld L xs 403, s_callV 1 11 19 1 404, s_pop 405, s_ald 2 406, s_ald 0 407, s_ild 4 408, s_push (.inl (1)) 409, s_bin (fun x y => x + y) 410, s_lld L xs 411, s_callV 1 12 226 1 412, s_pop 413, s_goto 794, s_ald 1 415, s_callV 1 11 20 0 416, s_pop 417, s_ald 2 418, s_callV 1 12 227 0 419, s_pop 420, s_goto 794, s_ald 1 422, s_callV 1 11 21 0 423, s_pop 424, s_ald 2 425, s_callV 1 12 234 0 426, s_pop 427, s_goto 794, s_ald 1 429, s_callV 1 11 22 0 430, s_pop 431, s_ald 2 432, s_callV 1 12 235 0 433, s_pop 434, s_goto 794, s_ald 1 436, s_callV 1 11 23 0 437, s_pop 438, s_ald 2 439, s_callV 1 12 236 0 440]
def ZL_10 : List (Option zI) := [some (zic1 401), some (zoadd 402), none, some (zcallV 1 11 19 1 404 110), some (zopop 405), some (zald2 406), some (zald0 407), some (zild 4 408), some (zic1 409), some (zoadd 410), none, some (zcallV 1 12 226 1 412 113), some (zopop 413), some (zgo 794), some (zald1 415), some (zcallV 1 11 20 0 416 114), some (zopop 417), some (zald2 418), some (zcallV 1 12 227 0 419 117), some (zopop 420), some (zgo 794), some (zald1 422), some (zcallV 1 11 21 0 423 118), some (zopop 424), some (zald2 425), some (zcallV 1 12 234 0 426 121), some (zopop 427), some (zgo 794), some (zald1 429), some (zcallV 1 11 22 0 430 122), some (zopop 431), some (zald2 432), some (zcallV 1 12 235 0 433 125), some (zopop 434), some (zgo 794), some (zald1 436), some (zcallV 1 11 23 0 437 126), some (zopop 438), some (zald2 439), some (zcallV 1 12 236 0 440 129)]
set_option maxRecDepth 100000 in
set_option maxHeartbeats 4000000 in
theorem SL_10 (L : Nat) (xs : Nat → Int32) : pAllL L xs 400 (lawp_10 L xs) := zallL L xs (D := ZL_10) (F := [s_lld L xs 403, s_lld L xs 411]) (by decide +kernel)
  ⟨sl_ild (dX_iaload (by decide +kernel)) (by decide +kernel),
   sl_ild (dX_iaload (by decide +kernel)) (by decide +kernel), trivial⟩
def lawp_11 (L : Nat) (xs : Nat → Int32) : List pS := [s_pop 441, s_goto 794, s_ald 1 443, s_callV 1 11 24 0 444, s_pop 445, s_ald 2 446, s_callV 1 12 238 0 447, s_pop 448, s_goto 794, s_ald 1 450, s_ald 0 451, s_ild 4 452, s_push (.inl (1)) 453, s_bin (fun x y => x + y) 454, s_lld L xs 455, s_ald 0 456, s_ild 4 457, s_push (.inl (2)) 458, s_bin (fun x y => x + y) 459, s_lld L xs 460, s_callV 1 11 25 2 461, s_pop 462, s_ald 2 463, s_ald 0 464, s_ild 4 465, s_push (.inl (1)) 466, s_bin (fun x y => x + y) 467, s_lld L xs 468, s_ald 0 469, s_ild 4 470, s_push (.inl (2)) 471, s_bin (fun x y => x + y) 472, s_lld L xs 473, s_callV 1 12 239 2 474, s_pop 475, s_goto 794, s_ald 1 477, s_callV 1 11 26 0 478, s_pop 479, s_ald 2 480]
def ZL_11 : List (Option zI) := [some (zopop 441), some (zgo 794), some (zald1 443), some (zcallV 1 11 24 0 444 130), some (zopop 445), some (zald2 446), some (zcallV 1 12 238 0 447 133), some (zopop 448), some (zgo 794), some (zald1 450), some (zald0 451), some (zild 4 452), some (zic1 453), some (zoadd 454), none, some (zald0 456), some (zild 4 457), some (zic2 458), some (zoadd 459), none, some (zcallV 1 11 25 2 461 134), some (zopop 462), some (zald2 463), some (zald0 464), some (zild 4 465), some (zic1 466), some (zoadd 467), none, some (zald0 469), some (zild 4 470), some (zic2 471), some (zoadd 472), none, some (zcallV 1 12 239 2 474 137), some (zopop 475), some (zgo 794), some (zald1 477), some (zcallV 1 11 26 0 478 138), some (zopop 479), some (zald2 480)]
set_option maxRecDepth 100000 in
set_option maxHeartbeats 4000000 in
theorem SL_11 (L : Nat) (xs : Nat → Int32) : pAllL L xs 440 (lawp_11 L xs) := zallL L xs (D := ZL_11) (F := [s_lld L xs 455, s_lld L xs 460, s_lld L xs 468, s_lld L xs 473]) (by decide +kernel)
  ⟨sl_ild (dX_iaload (by decide +kernel)) (by decide +kernel),
   sl_ild (dX_iaload (by decide +kernel)) (by decide +kernel),
   sl_ild (dX_iaload (by decide +kernel)) (by decide +kernel),
   sl_ild (dX_iaload (by decide +kernel)) (by decide +kernel), trivial⟩
def lawp_12 (L : Nat) (xs : Nat → Int32) : List pS := [s_callV 1 12 240 0 481, s_pop 482, s_goto 794, s_ald 1 484, s_ald 0 485, s_ild 4 486, s_push (.inl (1)) 487, s_bin (fun x y => x + y) 488, s_lld L xs 489, s_ald 0 490, s_ild 4 491, s_push (.inl (2)) 492, s_bin (fun x y => x + y) 493, s_lld L xs 494, s_callV 1 11 27 2 495, s_pop 496, s_ald 2 497, s_ald 0 498, s_ild 4 499, s_push (.inl (1)) 500, s_bin (fun x y => x + y) 501, s_lld L xs 502, s_ald 0 503, s_ild 4 504, s_push (.inl (2)) 505, s_bin (fun x y => x + y) 506, s_lld L xs 507, s_callV 1 12 241 2 508, s_pop 509, s_goto 794, s_ald 1 511, s_ald 0 512, s_ild 4 513, s_push (.inl (1)) 514, s_bin (fun x y => x + y) 515, s_lld L xs 516, s_callV 1 11 28 1 517, s_pop 518, s_ald 2 519, s_ald 0 520]
def ZL_12 : List (Option zI) := [some (zcallV 1 12 240 0 481 141), some (zopop 482), some (zgo 794), some (zald1 484), some (zald0 485), some (zild 4 486), some (zic1 487), some (zoadd 488), none, some (zald0 490), some (zild 4 491), some (zic2 492), some (zoadd 493), none, some (zcallV 1 11 27 2 495 142), some (zopop 496), some (zald2 497), some (zald0 498), some (zild 4 499), some (zic1 500), some (zoadd 501), none, some (zald0 503), some (zild 4 504), some (zic2 505), some (zoadd 506), none, some (zcallV 1 12 241 2 508 145), some (zopop 509), some (zgo 794), some (zald1 511), some (zald0 512), some (zild 4 513), some (zic1 514), some (zoadd 515), none, some (zcallV 1 11 28 1 517 146), some (zopop 518), some (zald2 519), some (zald0 520)]
set_option maxRecDepth 100000 in
set_option maxHeartbeats 4000000 in
theorem SL_12 (L : Nat) (xs : Nat → Int32) : pAllL L xs 480 (lawp_12 L xs) := zallL L xs (D := ZL_12) (F := [s_lld L xs 489, s_lld L xs 494, s_lld L xs 502, s_lld L xs 507, s_lld L xs 516]) (by decide +kernel)
  ⟨sl_ild (dX_iaload (by decide +kernel)) (by decide +kernel),
   sl_ild (dX_iaload (by decide +kernel)) (by decide +kernel),
   sl_ild (dX_iaload (by decide +kernel)) (by decide +kernel),
   sl_ild (dX_iaload (by decide +kernel)) (by decide +kernel),
   sl_ild (dX_iaload (by decide +kernel)) (by decide +kernel), trivial⟩
def lawp_13 (L : Nat) (xs : Nat → Int32) : List pS := [s_ild 4 521, s_push (.inl (1)) 522, s_bin (fun x y => x + y) 523, s_lld L xs 524, s_callV 1 12 242 1 525, s_pop 526, s_goto 794, s_ald 1 528, s_ald 0 529, s_ild 4 530, s_push (.inl (1)) 531, s_bin (fun x y => x + y) 532, s_lld L xs 533, s_ald 0 534, s_ild 4 535, s_push (.inl (2)) 536, s_bin (fun x y => x + y) 537, s_lld L xs 538, s_callV 1 11 29 2 539, s_pop 540, s_ald 2 541, s_ald 0 542, s_ild 4 543, s_push (.inl (1)) 544, s_bin (fun x y => x + y) 545, s_lld L xs 546, s_ald 0 547, s_ild 4 548, s_push (.inl (2)) 549, s_bin (fun x y => x + y) 550, s_lld L xs 551, s_callV 1 12 243 2 552, s_pop 553, s_goto 794, s_ald 1 555, s_ald 0 556, s_ild 4 557, s_push (.inl (1)) 558, s_bin (fun x y => x + y) 559, s_lld L xs 560]
def ZL_13 : List (Option zI) := [some (zild 4 521), some (zic1 522), some (zoadd 523), none, some (zcallV 1 12 242 1 525 149), some (zopop 526), some (zgo 794), some (zald1 528), some (zald0 529), some (zild 4 530), some (zic1 531), some (zoadd 532), none, some (zald0 534), some (zild 4 535), some (zic2 536), some (zoadd 537), none, some (zcallV 1 11 29 2 539 150), some (zopop 540), some (zald2 541), some (zald0 542), some (zild 4 543), some (zic1 544), some (zoadd 545), none, some (zald0 547), some (zild 4 548), some (zic2 549), some (zoadd 550), none, some (zcallV 1 12 243 2 552 153), some (zopop 553), some (zgo 794), some (zald1 555), some (zald0 556), some (zild 4 557), some (zic1 558), some (zoadd 559), none]
set_option maxRecDepth 100000 in
set_option maxHeartbeats 4000000 in
theorem SL_13 (L : Nat) (xs : Nat → Int32) : pAllL L xs 520 (lawp_13 L xs) := zallL L xs (D := ZL_13) (F := [s_lld L xs 524, s_lld L xs 533, s_lld L xs 538, s_lld L xs 546, s_lld L xs 551, s_lld L xs 560]) (by decide +kernel)
  ⟨sl_ild (dX_iaload (by decide +kernel)) (by decide +kernel),
   sl_ild (dX_iaload (by decide +kernel)) (by decide +kernel),
   sl_ild (dX_iaload (by decide +kernel)) (by decide +kernel),
   sl_ild (dX_iaload (by decide +kernel)) (by decide +kernel),
   sl_ild (dX_iaload (by decide +kernel)) (by decide +kernel),
   sl_ild (dX_iaload (by decide +kernel)) (by decide +kernel), trivial⟩
def lawp_14 (L : Nat) (xs : Nat → Int32) : List pS := [s_callV 1 11 30 1 561, s_pop 562, s_ald 2 563, s_ald 0 564, s_ild 4 565, s_push (.inl (1)) 566, s_bin (fun x y => x + y) 567, s_lld L xs 568, s_callV 1 12 244 1 569, s_pop 570, s_goto 794, s_ald 1 572, s_ald 0 573, s_ild 4 574, s_push (.inl (1)) 575, s_bin (fun x y => x + y) 576, s_lld L xs 577, s_ald 0 578, s_ild 4 579, s_push (.inl (2)) 580, s_bin (fun x y => x + y) 581, s_lld L xs 582, s_callV 1 11 31 2 583, s_pop 584, s_ald 2 585, s_ald 0 586, s_ild 4 587, s_push (.inl (1)) 588, s_bin (fun x y => x + y) 589, s_lld L xs 590, s_ald 0 591, s_ild 4 592, s_push (.inl (2)) 593, s_bin (fun x y => x + y) 594, s_lld L xs 595, s_callV 1 12 245 2 596, s_pop 597, s_goto 794, s_ald 1 599, s_callV 1 11 32 0 600]
def ZL_14 : List (Option zI) := [some (zcallV 1 11 30 1 561 154), some (zopop 562), some (zald2 563), some (zald0 564), some (zild 4 565), some (zic1 566), some (zoadd 567), none, some (zcallV 1 12 244 1 569 157), some (zopop 570), some (zgo 794), some (zald1 572), some (zald0 573), some (zild 4 574), some (zic1 575), some (zoadd 576), none, some (zald0 578), some (zild 4 579), some (zic2 580), some (zoadd 581), none, some (zcallV 1 11 31 2 583 158), some (zopop 584), some (zald2 585), some (zald0 586), some (zild 4 587), some (zic1 588), some (zoadd 589), none, some (zald0 591), some (zild 4 592), some (zic2 593), some (zoadd 594), none, some (zcallV 1 12 245 2 596 161), some (zopop 597), some (zgo 794), some (zald1 599), some (zcallV 1 11 32 0 600 162)]
set_option maxRecDepth 100000 in
set_option maxHeartbeats 4000000 in
theorem SL_14 (L : Nat) (xs : Nat → Int32) : pAllL L xs 560 (lawp_14 L xs) := zallL L xs (D := ZL_14) (F := [s_lld L xs 568, s_lld L xs 577, s_lld L xs 582, s_lld L xs 590, s_lld L xs 595]) (by decide +kernel)
  ⟨sl_ild (dX_iaload (by decide +kernel)) (by decide +kernel),
   sl_ild (dX_iaload (by decide +kernel)) (by decide +kernel),
   sl_ild (dX_iaload (by decide +kernel)) (by decide +kernel),
   sl_ild (dX_iaload (by decide +kernel)) (by decide +kernel),
   sl_ild (dX_iaload (by decide +kernel)) (by decide +kernel), trivial⟩
def lawp_15 (L : Nat) (xs : Nat → Int32) : List pS := [s_pop 601, s_ald 2 602, s_callV 1 12 246 0 603, s_pop 604, s_goto 794, s_ald 1 606, s_callV 1 11 33 0 607, s_pop 608, s_ald 2 609, s_callV 1 12 248 0 610, s_pop 611, s_goto 794, s_ald 1 613, s_ald 0 614, s_ild 4 615, s_push (.inl (1)) 616, s_bin (fun x y => x + y) 617, s_lld L xs 618, s_ald 0 619, s_ild 4 620, s_push (.inl (2)) 621, s_bin (fun x y => x + y) 622, s_lld L xs 623, s_callV 1 11 34 2 624, s_pop 625, s_ald 2 626, s_ald 0 627, s_ild 4 628, s_push (.inl (1)) 629, s_bin (fun x y => x + y) 630, s_lld L xs 631, s_ald 0 632, s_ild 4 633, s_push (.inl (2)) 634, s_bin (fun x y => x + y) 635, s_lld L xs 636, s_callV 1 12 250 2 637, s_pop 638, s_goto 794, s_ald 1 640]
def ZL_15 : List (Option zI) := [some (zopop 601), some (zald2 602), some (zcallV 1 12 246 0 603 165), some (zopop 604), some (zgo 794), some (zald1 606), some (zcallV 1 11 33 0 607 166), some (zopop 608), some (zald2 609), some (zcallV 1 12 248 0 610 169), some (zopop 611), some (zgo 794), some (zald1 613), some (zald0 614), some (zild 4 615), some (zic1 616), some (zoadd 617), none, some (zald0 619), some (zild 4 620), some (zic2 621), some (zoadd 622), none, some (zcallV 1 11 34 2 624 170), some (zopop 625), some (zald2 626), some (zald0 627), some (zild 4 628), some (zic1 629), some (zoadd 630), none, some (zald0 632), some (zild 4 633), some (zic2 634), some (zoadd 635), none, some (zcallV 1 12 250 2 637 173), some (zopop 638), some (zgo 794), some (zald1 640)]
set_option maxRecDepth 100000 in
set_option maxHeartbeats 4000000 in
theorem SL_15 (L : Nat) (xs : Nat → Int32) : pAllL L xs 600 (lawp_15 L xs) := zallL L xs (D := ZL_15) (F := [s_lld L xs 618, s_lld L xs 623, s_lld L xs 631, s_lld L xs 636]) (by decide +kernel)
  ⟨sl_ild (dX_iaload (by decide +kernel)) (by decide +kernel),
   sl_ild (dX_iaload (by decide +kernel)) (by decide +kernel),
   sl_ild (dX_iaload (by decide +kernel)) (by decide +kernel),
   sl_ild (dX_iaload (by decide +kernel)) (by decide +kernel), trivial⟩
def lawp_16 (L : Nat) (xs : Nat → Int32) : List pS := [s_ald 0 641, s_ild 4 642, s_push (.inl (1)) 643, s_bin (fun x y => x + y) 644, s_lld L xs 645, s_ald 0 646, s_ild 4 647, s_push (.inl (2)) 648, s_bin (fun x y => x + y) 649, s_lld L xs 650, s_callV 1 11 35 2 651, s_pop 652, s_ald 2 653, s_ald 0 654, s_ild 4 655, s_push (.inl (1)) 656, s_bin (fun x y => x + y) 657, s_lld L xs 658, s_ald 0 659, s_ild 4 660, s_push (.inl (2)) 661, s_bin (fun x y => x + y) 662, s_lld L xs 663, s_callV 1 12 251 2 664, s_pop 665, s_goto 794, s_ald 1 667, s_callV 1 11 36 0 668, s_pop 669, s_ald 2 670, s_callV 1 12 252 0 671, s_pop 672, s_goto 794, s_ald 1 674, s_ald 0 675, s_ild 4 676, s_push (.inl (1)) 677, s_bin (fun x y => x + y) 678, s_lld L xs 679, s_callV 1 11 37 1 680]
def ZL_16 : List (Option zI) := [some (zald0 641), some (zild 4 642), some (zic1 643), some (zoadd 644), none, some (zald0 646), some (zild 4 647), some (zic2 648), some (zoadd 649), none, some (zcallV 1 11 35 2 651 174), some (zopop 652), some (zald2 653), some (zald0 654), some (zild 4 655), some (zic1 656), some (zoadd 657), none, some (zald0 659), some (zild 4 660), some (zic2 661), some (zoadd 662), none, some (zcallV 1 12 251 2 664 177), some (zopop 665), some (zgo 794), some (zald1 667), some (zcallV 1 11 36 0 668 178), some (zopop 669), some (zald2 670), some (zcallV 1 12 252 0 671 181), some (zopop 672), some (zgo 794), some (zald1 674), some (zald0 675), some (zild 4 676), some (zic1 677), some (zoadd 678), none, some (zcallV 1 11 37 1 680 182)]
set_option maxRecDepth 100000 in
set_option maxHeartbeats 4000000 in
theorem SL_16 (L : Nat) (xs : Nat → Int32) : pAllL L xs 640 (lawp_16 L xs) := zallL L xs (D := ZL_16) (F := [s_lld L xs 645, s_lld L xs 650, s_lld L xs 658, s_lld L xs 663, s_lld L xs 679]) (by decide +kernel)
  ⟨sl_ild (dX_iaload (by decide +kernel)) (by decide +kernel),
   sl_ild (dX_iaload (by decide +kernel)) (by decide +kernel),
   sl_ild (dX_iaload (by decide +kernel)) (by decide +kernel),
   sl_ild (dX_iaload (by decide +kernel)) (by decide +kernel),
   sl_ild (dX_iaload (by decide +kernel)) (by decide +kernel), trivial⟩
def lawp_17 (L : Nat) (xs : Nat → Int32) : List pS := [s_pop 681, s_ald 2 682, s_ald 0 683, s_ild 4 684, s_push (.inl (1)) 685, s_bin (fun x y => x + y) 686, s_lld L xs 687, s_callV 1 12 254 1 688, s_pop 689, s_goto 794, s_ald 1 691, s_callV 1 11 38 0 692, s_pop 693, s_ald 2 694, s_callV 1 12 255 0 695, s_pop 696, s_goto 794, s_ald 1 698, s_callV 1 11 39 0 699, s_pop 700, s_ald 2 701, s_callV 1 12 257 0 702, s_pop 703, s_goto 794, s_ald 1 705, s_callV 1 11 40 0 706, s_pop 707, s_ald 2 708, s_callV 1 12 259 0 709, s_pop 710, s_goto 794, s_ald 1 712, s_callV 1 11 41 0 713, s_pop 714, s_ald 2 715, s_callV 1 12 263 0 716, s_pop 717, s_goto 794, s_ald 1 719, s_callV 1 11 42 0 720]
def ZL_17 : List (Option zI) := [some (zopop 681), some (zald2 682), some (zald0 683), some (zild 4 684), some (zic1 685), some (zoadd 686), none, some (zcallV 1 12 254 1 688 185), some (zopop 689), some (zgo 794), some (zald1 691), some (zcallV 1 11 38 0 692 186), some (zopop 693), some (zald2 694), some (zcallV 1 12 255 0 695 189), some (zopop 696), some (zgo 794), some (zald1 698), some (zcallV 1 11 39 0 699 190), some (zopop 700), some (zald2 701), some (zcallV 1 12 257 0 702 193), some (zopop 703), some (zgo 794), some (zald1 705), some (zcallV 1 11 40 0 706 194), some (zopop 707), some (zald2 708), some (zcallV 1 12 259 0 709 197), some (zopop 710), some (zgo 794), some (zald1 712), some (zcallV 1 11 41 0 713 198), some (zopop 714), some (zald2 715), some (zcallV 1 12 263 0 716 201), some (zopop 717), some (zgo 794), some (zald1 719), some (zcallV 1 11 42 0 720 202)]
set_option maxRecDepth 100000 in
set_option maxHeartbeats 4000000 in
theorem SL_17 (L : Nat) (xs : Nat → Int32) : pAllL L xs 680 (lawp_17 L xs) := zallL L xs (D := ZL_17) (F := [s_lld L xs 687]) (by decide +kernel)
  ⟨sl_ild (dX_iaload (by decide +kernel)) (by decide +kernel), trivial⟩
def lawp_18 (L : Nat) (xs : Nat → Int32) : List pS := [s_pop 721, s_ald 2 722, s_callV 1 12 264 0 723, s_pop 724, s_goto 794, s_ald 1 726, s_ald 0 727, s_ild 4 728, s_push (.inl (1)) 729, s_bin (fun x y => x + y) 730, s_lld L xs 731, s_callV 1 11 43 1 732, s_pop 733, s_ald 2 734, s_ald 0 735, s_ild 4 736, s_push (.inl (1)) 737, s_bin (fun x y => x + y) 738, s_lld L xs 739, s_callV 1 12 266 1 740, s_pop 741, s_goto 794, s_ald 1 743, s_ald 0 744, s_ild 4 745, s_push (.inl (1)) 746, s_bin (fun x y => x + y) 747, s_lld L xs 748, s_callV 1 11 44 1 749, s_pop 750, s_ald 2 751, s_ald 0 752, s_ild 4 753, s_push (.inl (1)) 754, s_bin (fun x y => x + y) 755, s_lld L xs 756, s_callV 1 12 267 1 757, s_pop 758, s_goto 794, s_ald 1 760]
def ZL_18 : List (Option zI) := [some (zopop 721), some (zald2 722), some (zcallV 1 12 264 0 723 205), some (zopop 724), some (zgo 794), some (zald1 726), some (zald0 727), some (zild 4 728), some (zic1 729), some (zoadd 730), none, some (zcallV 1 11 43 1 732 206), some (zopop 733), some (zald2 734), some (zald0 735), some (zild 4 736), some (zic1 737), some (zoadd 738), none, some (zcallV 1 12 266 1 740 209), some (zopop 741), some (zgo 794), some (zald1 743), some (zald0 744), some (zild 4 745), some (zic1 746), some (zoadd 747), none, some (zcallV 1 11 44 1 749 210), some (zopop 750), some (zald2 751), some (zald0 752), some (zild 4 753), some (zic1 754), some (zoadd 755), none, some (zcallV 1 12 267 1 757 213), some (zopop 758), some (zgo 794), some (zald1 760)]
set_option maxRecDepth 100000 in
set_option maxHeartbeats 4000000 in
theorem SL_18 (L : Nat) (xs : Nat → Int32) : pAllL L xs 720 (lawp_18 L xs) := zallL L xs (D := ZL_18) (F := [s_lld L xs 731, s_lld L xs 739, s_lld L xs 748, s_lld L xs 756]) (by decide +kernel)
  ⟨sl_ild (dX_iaload (by decide +kernel)) (by decide +kernel),
   sl_ild (dX_iaload (by decide +kernel)) (by decide +kernel),
   sl_ild (dX_iaload (by decide +kernel)) (by decide +kernel),
   sl_ild (dX_iaload (by decide +kernel)) (by decide +kernel), trivial⟩
def lawp_19 (L : Nat) (xs : Nat → Int32) : List pS := [s_ald 0 761, s_ild 4 762, s_push (.inl (1)) 763, s_bin (fun x y => x + y) 764, s_lld L xs 765, s_callV 1 11 45 1 766, s_pop 767, s_ald 2 768, s_ald 0 769, s_ild 4 770, s_push (.inl (1)) 771, s_bin (fun x y => x + y) 772, s_lld L xs 773, s_callV 1 12 268 1 774, s_pop 775, s_goto 794, s_ald 1 777, s_ald 0 778, s_ild 4 779, s_push (.inl (1)) 780, s_bin (fun x y => x + y) 781, s_lld L xs 782, s_ald 3 783, s_none, s_ist 5 785, s_ald 2 786, s_ald 0 787, s_ild 4 788, s_push (.inl (1)) 789, s_bin (fun x y => x + y) 790, s_lld L xs 791, s_callV 1 12 269 1 792, s_ist 6 793, s_goto 794, s_inc 4 (5) 795, s_goto 13, s_push (.inl (1)) 797, s_zret]
def ZL_19 : List (Option zI) := [some (zald0 761), some (zild 4 762), some (zic1 763), some (zoadd 764), none, some (zcallV 1 11 45 1 766 214), some (zopop 767), some (zald2 768), some (zald0 769), some (zild 4 770), some (zic1 771), some (zoadd 772), none, some (zcallV 1 12 268 1 774 217), some (zopop 775), some (zgo 794), some (zald1 777), some (zald0 778), some (zild 4 779), some (zic1 780), some (zoadd 781), none, some (zald3 783), none, some (zist 5 785), some (zald2 786), some (zald0 787), some (zild 4 788), some (zic1 789), some (zoadd 790), none, some (zcallV 1 12 269 1 792 221), some (zist 6 793), some (zgo 794), some (zinc 4 (5) 795), some (zgo 13), some (zic1 797), none]
set_option maxRecDepth 100000 in
set_option maxHeartbeats 4000000 in
theorem SL_19 (L : Nat) (xs : Nat → Int32) : pAllL L xs 760 (lawp_19 L xs) := zallL L xs (D := ZL_19) (F := [s_lld L xs 765, s_lld L xs 773, s_lld L xs 782, s_none, s_lld L xs 791, s_zret]) (by decide +kernel)
  ⟨sl_ild (dX_iaload (by decide +kernel)) (by decide +kernel),
   sl_ild (dX_iaload (by decide +kernel)) (by decide +kernel),
   sl_ild (dX_iaload (by decide +kernel)) (by decide +kernel),
   slw (sn_none),
   sl_ild (dX_iaload (by decide +kernel)) (by decide +kernel),
   slw (sn_zret (Or.inl rfl) (dX_ireturn (by decide +kernel))), trivial⟩
theorem pAll_app {P : Nat → pS → Prop} : ∀ {a b : List pS} {i : Nat}, pAll P i a → pAll P (i + a.length) b → pAll P i (a ++ b)
  | [], _, _, _, h => h
  | f :: fs, b, i, h, h2 => ⟨h.1, pAll_app h.2 (by rw [show i + 1 + fs.length = i + (f :: fs).length by simp; omega]; exact h2)⟩
set_option maxRecDepth 100000 in
theorem lawp_eq (L : Nat) (xs : Nat → Int32) : lawp L xs = lawp_0 L xs ++ (lawp_1 L xs ++ (lawp_2 L xs ++ (lawp_3 L xs ++ (lawp_4 L xs ++ (lawp_5 L xs ++ (lawp_6 L xs ++ (lawp_7 L xs ++ (lawp_8 L xs ++ (lawp_9 L xs ++ (lawp_10 L xs ++ (lawp_11 L xs ++ (lawp_12 L xs ++ (lawp_13 L xs ++ (lawp_14 L xs ++ (lawp_15 L xs ++ (lawp_16 L xs ++ (lawp_17 L xs ++ (lawp_18 L xs ++ (lawp_19 L xs))))))))))))))))))) := rfl
set_option maxRecDepth 100000 in
theorem SL_all (L : Nat) (xs : Nat → Int32) : pAllL L xs 0 (lawp L xs) := by rw [lawp_eq]; exact pAll_app (SL_0 L xs) (pAll_app (SL_1 L xs) (pAll_app (SL_2 L xs) (pAll_app (SL_3 L xs) (pAll_app (SL_4 L xs) (pAll_app (SL_5 L xs) (pAll_app (SL_6 L xs) (pAll_app (SL_7 L xs) (pAll_app (SL_8 L xs) (pAll_app (SL_9 L xs) (pAll_app (SL_10 L xs) (pAll_app (SL_11 L xs) (pAll_app (SL_12 L xs) (pAll_app (SL_13 L xs) (pAll_app (SL_14 L xs) (pAll_app (SL_15 L xs) (pAll_app (SL_16 L xs) (pAll_app (SL_17 L xs) (pAll_app (SL_18 L xs) (SL_19 L xs)))))))))))))))))))
theorem lawc_snd (L : Nat) (xs : Nat → Int32) : ∀ i, pSndL L xs pyn pwk RL code 7 ret lawpc (lawpc i) (lawc L xs i) := by
  intro i
  unfold lawc
  cases hi : (lawp L xs)[i]? with
  | none => rw [List.getD_eq_getElem?_getD, hi]; exact slw sn_none
  | some f =>
    rw [List.getD_eq_getElem?_getD, hi]
    have h2 := pAll_get (SL_all L xs) hi
    rw [Nat.zero_add] at h2
    exact h2
