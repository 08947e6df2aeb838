/-! the steps of the interval machine, and that they are right -/
theorem aUn_ok {x : aV} {zx : Int} (c : Nat) (hx : gR x zx) : gR (aUn c x) (fUn c zx) ∧ (aUn c x).2.2.2.1 = 0 := by
  unfold aUn fUn
  split
  · show gR (bif Nat.beq x.1 0 then aR (-x.2.2.1) (-x.2.1) else aOne) (-zx) ∧ (bif Nat.beq x.1 0 then aR (-x.2.2.1) (-x.2.1) else aOne).2.2.2.1 = 0
    cases h : Nat.beq x.1 0 with
    | true =>
      have e : x.1 = 0 := Nat.eq_of_beq_eq_true h
      rw [cond_true]
      rcases hx with g | g | g
      · exact ⟨aR_ok (by omega) (by omega), rfl⟩
      · omega
      · omega
    | false => exact ⟨one_ok, rfl⟩
  · have r : -128 ≤ jb zx ∧ jb zx ≤ 127 := by
      unfold jb
      rw [Int8.toInt_toInt32]
      have h1 := (iI zx).toInt8.le_toInt
      have h2 := (iI zx).toInt8.toInt_lt
      omega
    cases h : (Nat.beq x.1 0 && decide (-128 ≤ x.2.1) && decide (x.2.2.1 ≤ 127)) with
    | true =>
      simp only [Bool.and_eq_true, decide_eq_true_eq] at h
      have e : x.1 = 0 := Nat.eq_of_beq_eq_true h.1.1
      rw [cond_true]
      rcases hx with g | g | g
      · have e2 : jb zx = zx := by
          unfold jb
          rw [Int8.toInt_toInt32]
          show (Int8.ofInt (Int32.ofInt zx).toInt).toInt = zx
          rw [show (Int32.ofInt zx).toInt = zx from iv_id (by omega) (by omega), Int8.toInt_ofInt, show Int8.size = 256 from rfl]
          exact Int.bmod_eq_of_le (by omega) (by omega)
        rw [e2]
        exact ⟨aR_ok (by omega) (by omega), rfl⟩
      · omega
      · omega
    | false => exact ⟨aR_ok r.1 r.2, rfl⟩
  · have r : -32768 ≤ js zx ∧ js zx ≤ 32767 := by
      unfold js
      rw [Int16.toInt_toInt32]
      have h1 := (iI zx).toInt16.le_toInt
      have h2 := (iI zx).toInt16.toInt_lt
      omega
    exact ⟨aR_ok r.1 r.2, rfl⟩
  · have e0 : jc zx = (((iI zx).toUInt32 % 65536).toNat : Int) := by
      unfold jc
      have h9 : ((iI zx).toUInt32 % 65536).toNat < 65536 := by
        rw [UInt32.toNat_mod]
        exact Nat.mod_lt _ (by decide)
      exact iv_nn (x := ((iI zx).toUInt32 % 65536).toInt32) (n := ((iI zx).toUInt32 % 65536).toNat) rfl (by omega)
    have e1 : ((iI zx).toUInt32 % 65536).toNat = (iI zx).toBitVec.toNat % 65536 := UInt32.toNat_mod _ _
    rw [e0, e1]
    have r : (iI zx).toBitVec.toNat % 65536 < 65536 := Nat.mod_lt _ (by decide)
    cases h : (Nat.beq x.1 0 && decide (0 ≤ x.2.1) && decide (x.2.2.1 ≤ 65535)) with
    | true =>
      simp only [Bool.and_eq_true, decide_eq_true_eq] at h
      have e : x.1 = 0 := Nat.eq_of_beq_eq_true h.1.1
      rw [cond_true]
      rcases hx with g | g | g
      · rw [iv_bv (by omega) (by omega)]
        exact ⟨aR_ok (by omega) (by omega), rfl⟩
      · omega
      · omega
    | false => exact ⟨aR_ok (by omega) (by omega), rfl⟩
def cov (w wr : List (Nat × Nat)) : Bool := w.all fun q => wr.any fun p => Nat.beq p.1 q.1 && (Nat.beq p.2 999 || Nat.beq p.2 q.2)
theorem cov_ok {w wr : List (Nat × Nat)} (h : cov w wr = true) {M M' : pM} (f : Fr w M M') : Fr wr M M' := by
  intro o k q
  refine f o k ?_
  cases hq : wOK w o k with
  | false => rfl
  | true =>
    exfalso
    unfold wOK at hq
    rw [List.any_eq_true] at hq
    obtain ⟨x, hx, hx2⟩ := hq
    unfold cov at h
    rw [List.all_eq_true] at h
    have h2 := h x hx
    rw [List.any_eq_true] at h2
    obtain ⟨p, hp, hp2⟩ := h2
    simp only [Bool.and_eq_true, Bool.or_eq_true, Nat.beq_eq] at hx2 hp2
    have : wOK wr o k = true := by
      unfold wOK
      rw [List.any_eq_true]
      refine ⟨p, hp, ?_⟩
      simp only [Bool.and_eq_true, Bool.or_eq_true, Nat.beq_eq]
      omega
    rw [this] at q
    cases q
theorem Fr_pset {M : pM} {o k : Nat} {z : Int} : Fr [(o, k)] M (pset M o k z) := by
  intro o' k' h
  unfold pset
  split
  · rename_i e
    exfalso
    rw [e.1, e.2] at h
    simp [wOK] at h
  · rfl
theorem Fr_pset9 {M : pM} {o k : Nat} {z : Int} : Fr [(o, 999)] M (pset M o k z) := by
  intro o' k' h
  unfold pset
  split
  · rename_i e
    exfalso
    rw [e.1] at h
    simp [wOK] at h
  · rfl
theorem Fr_loc {w : List (Nat × Nat)} {s : Nat → Int} {ls : List pV} {M M' : pM} (f : Fr w M M') {as : List aV} {vs : List pV} (h : aF2 (fun a v => gW a v ∧ gY s a v ∧ gO ls M a v) as vs) : aF2 (fun a v => gW a v ∧ gY s a v ∧ gO ls M' a v) (as.map (clM w)) vs := by
  refine aF2_map ?_ h
  intro a v q
  unfold clM
  cases hb : (Nat.ble 64 a.2.2.2.2.2 && wOK w ((a.2.2.2.2.2 - 64) / 64) ((a.2.2.2.2.2 - 64) % 64)) with
  | true => exact ⟨q.1, q.2.1, Or.inl rfl⟩
  | false =>
    show gW a v ∧ gY s a v ∧ gO ls M' a v
    refine ⟨q.1, q.2.1, ?_⟩
    rcases q.2.2 with h1 | h1 | h1
    · exact Or.inl h1
    · exact Or.inr (Or.inl h1)
    · refine Or.inr (Or.inr ⟨h1.1, ?_⟩)
      rw [Bool.and_eq_false_iff] at hb
      rcases hb with hb | hb
      · rw [Nat.ble_eq_true_of_le h1.1] at hb; cases hb
      · rw [f _ _ hb]; exact h1.2
theorem Fr_ov {w : List (Nat × Nat)} {s : Nat → Int} {M M' : pM} (f : Fr w M M') {ov : aP} (h : gP s ov M) : gP s (dlW ov w) M' := by
  intro e he
  obtain ⟨h1, h2⟩ := List.mem_filter.mp he
  have h3 : wOK w e.1 e.2.1 = false := by
    cases q : wOK w e.1 e.2.1 with
    | false => rfl
    | true => rw [q] at h2; cases h2
  rw [f _ _ h3]
  exact h e h1
section STEPS
variable {E : aE}
theorem out1 {s : Nat → Int} {A0 ls : List pV} {M : pM} {X : pX} {q : Option pR} {pc : Nat} {S' : eS} {ls' st' : List pV} {M' : pM} (hF : Fr E.2.2.2 M M') (e : q = X pc ls' st' M') (g : gS E s A0 S' ls' st' M') : aOut E [.inr (pc, S')] s A0 ls M X q := ⟨_, List.mem_singleton.mpr rfl, M', hF, Or.inr ⟨pc, S', ls', st', rfl, e, g⟩⟩
theorem loc_at {R : aV → pV → Prop} {as : List aV} {vs : List pV} {i : Nat} (h : aF2 R as vs) (hk : (as.getD i aN).1 ≤ 3) : R (as.getD i aN) (vs.getD i (.inr 0)) := by
  rcases Nat.lt_or_ge i as.length with q | q
  · exact aF2_at i h q
  · exfalso
    have e : as.getD i aN = aN := by rw [List.getD_eq_getElem?_getD, List.getElem?_eq_none q]; rfl
    rw [e] at hk
    exact absurd hk (by decide)
def aGo (nx : Nat) (S : eS) : Option (List aO) := some [.inr (nx, S)]
def a_none : aF := fun _ => none
theorem as_none : aSnd E s_none a_none := fun _ _ h => by cases h
def a_push (z : Int) (nx : Nat) : aF := fun S => aGo nx (S.1, aR z z :: S.2.1, S.2.2)
theorem as_push {z : Int} {nx : Nat} : aSnd E (s_push (.inl z) nx) (a_push z nx) := by
  intro S outs h s A0 ls st M g X Y hY
  cases h
  exact out1 Fr_rfl rfl ⟨g.1, ⟨⟨Or.inl ⟨z, rfl, aR_ok (Int.le_refl _) (Int.le_refl _)⟩, Or.inl rfl, Or.inl rfl⟩, g.2.1⟩, g.2.2⟩
def aRef (n : Nat) : aV := (3, (n : Int), 0, 0, 0, 0)
theorem aRef_ok {n : Nat} {s : Nat → Int} {ls : List pV} {M : pM} : gW (aRef n) (.inr n) ∧ gY s (aRef n) (.inr n) ∧ gO ls M (aRef n) (.inr n) := ⟨Or.inr (Or.inl ⟨rfl, by show (Sum.inr n : pV) = .inr ((n : Int)).toNat; rw [Int.toNat_natCast]⟩), Or.inl rfl, Or.inl rfl⟩
def a_pushr (n nx : Nat) : aF := fun S => aGo nx (S.1, aRef n :: S.2.1, S.2.2)
theorem as_pushr {n nx : Nat} : aSnd E (s_push (.inr n) nx) (a_pushr n nx) := by
  intro S outs h s A0 ls st M g X Y hY
  cases h
  exact out1 Fr_rfl rfl ⟨g.1, ⟨aRef_ok, g.2.1⟩, g.2.2⟩
def a_ild (i nx : Nat) : aF := fun S => let a := S.1.getD i aN
  bif Nat.ble a.1 2 && Nat.ble i 62 then aGo nx (S.1, (a.1, a.2.1, a.2.2.1, a.2.2.2.1, a.2.2.2.2.1, i + 1) :: S.2.1, S.2.2) else none
theorem as_ild {i nx : Nat} : aSnd E (s_ild i nx) (a_ild i nx) := by
  intro S outs h s A0 ls st M g X Y hY
  unfold a_ild at h
  dsimp only at h
  cases hb : (Nat.ble (S.1.getD i aN).1 2 && Nat.ble i 62) with
  | false => rw [hb] at h; cases h
  | true =>
    rw [hb, cond_true] at h
    cases h
    rw [Bool.and_eq_true] at hb
    have b1 := Nat.le_of_ble_eq_true hb.1
    have b2 := Nat.le_of_ble_eq_true hb.2
    have q := loc_at g.1 (i := i) (by omega)
    obtain ⟨z, e, r⟩ := gW_int q.1 b1
    refine out1 Fr_rfl (ls' := ls) (st' := .inl z :: st) (M' := M) (by unfold s_ild; rw [e]) ⟨g.1, ⟨⟨Or.inl ⟨z, rfl, r⟩, ?_, Or.inr (Or.inl ⟨Nat.le_add_left 1 i, show i + 1 < 64 by omega, e⟩)⟩, g.2.1⟩, g.2.2⟩
    rw [e] at q
    exact q.2.1
def a_ald (i nx : Nat) : aF := fun S => let a := S.1.getD i aN
  bif Nat.beq a.1 3 && decide (1 ≤ a.2.1) then aGo nx (S.1, aRef a.2.1.toNat :: S.2.1, S.2.2) else none
theorem as_ald {i nx : Nat} : aSnd E (s_ald i nx) (a_ald i nx) := by
  intro S outs h s A0 ls st M g X Y hY
  unfold a_ald at h
  dsimp only at h
  cases hb : (Nat.beq (S.1.getD i aN).1 3 && decide (1 ≤ (S.1.getD i aN).2.1)) with
  | false => rw [hb] at h; cases h
  | true =>
    rw [hb, cond_true] at h
    cases h
    rw [Bool.and_eq_true, decide_eq_true_eq] at hb
    have b1 := Nat.eq_of_beq_eq_true hb.1
    have q := loc_at g.1 (i := i) (by omega)
    have e := gW_ref q.1 b1
    obtain ⟨j, hj⟩ : ∃ j, (S.1.getD i aN).2.1.toNat = j + 1 := ⟨(S.1.getD i aN).2.1.toNat - 1, by omega⟩
    rw [hj] at e ⊢
    exact out1 Fr_rfl (ls' := ls) (st' := .inr (j + 1) :: st) (M' := M) (by unfold s_ald; rw [e]) ⟨g.1, ⟨aRef_ok, g.2.1⟩, g.2.2⟩
theorem set_org {s : Nat → Int} {ls : List pV} {M : pM} {i : Nat} {w : pV} {as : List aV} {vs : List pV} (h : aF2 (fun a v => gW a v ∧ gY s a v ∧ gO ls M a v) as vs) : aF2 (fun a v => gW a v ∧ gY s a v ∧ gO (ls.set i w) M a v) (as.map (clL i)) vs := by
  refine aF2_map ?_ h
  intro a v q
  unfold clL
  cases hb : Nat.beq a.2.2.2.2.2 (i + 1) with
  | true => exact ⟨q.1, q.2.1, Or.inl rfl⟩
  | false =>
    show gW a v ∧ gY s a v ∧ gO (ls.set i w) M a v
    refine ⟨q.1, q.2.1, ?_⟩
    rcases q.2.2 with h1 | h1 | h1
    · exact Or.inl h1
    · refine Or.inr (Or.inl ⟨h1.1, h1.2.1, ?_⟩)
      rw [← h1.2.2, List.getD_eq_getElem?_getD, List.getD_eq_getElem?_getD, List.getElem?_set_ne]
      intro e
      have := Nat.ne_of_beq_eq_false hb
      omega
    · exact Or.inr (Or.inr h1)
def a_ist (i nx : Nat) : aF := fun S => match S.2.1 with
  | a :: r => bif Nat.ble a.1 2 then aGo nx (S.1.set i (clS a), r.map (clL i), S.2.2) else none
  | [] => none
theorem as_ist {i nx : Nat} : aSnd E (s_ist i nx) (a_ist i nx) := by
  rintro ⟨L, K, ov⟩ outs h s A0 ls st M ⟨g1, g2, g3⟩ X Y hY
  unfold a_ist at h
  dsimp only at h g1 g2 g3
  split at h
  · rename_i a as
    obtain ⟨v, r, rfl, q, h1⟩ := aF2_cons g2
    cases hb : Nat.ble a.1 2 with
    | false => rw [hb] at h; cases h
    | true =>
      rw [hb, cond_true] at h
      cases h
      obtain ⟨z, rfl, rz⟩ := gW_int q.1 (Nat.le_of_ble_eq_true hb)
      exact out1 Fr_rfl rfl ⟨aF2_set i g1 ⟨q.1, q.2.1, Or.inl rfl⟩, set_org h1, g3⟩
  · cases h
def a_ast (i nx : Nat) : aF := fun S => match S.2.1 with
  | a :: r => bif Nat.beq a.1 3 && decide (1 ≤ a.2.1) then aGo nx (S.1.set i (aRef a.2.1.toNat), r.map (clL i), S.2.2) else none
  | [] => none
theorem as_ast {i nx : Nat} : aSnd E (s_ast i nx) (a_ast i nx) := by
  rintro ⟨L, K, ov⟩ outs h s A0 ls st M ⟨g1, g2, g3⟩ X Y hY
  unfold a_ast at h
  dsimp only at h g1 g2 g3
  split at h
  · rename_i a as
    obtain ⟨v, r, rfl, q, h1⟩ := aF2_cons g2
    cases hb : (Nat.beq a.1 3 && decide (1 ≤ a.2.1)) with
    | false => rw [hb] at h; cases h
    | true =>
      rw [hb, cond_true] at h
      cases h
      rw [Bool.and_eq_true, decide_eq_true_eq] at hb
      have e := gW_ref q.1 (Nat.eq_of_beq_eq_true hb.1)
      obtain ⟨j, hj⟩ : ∃ j, a.2.1.toNat = j + 1 := ⟨a.2.1.toNat - 1, by omega⟩
      rw [hj] at e ⊢
      subst e
      exact out1 Fr_rfl rfl ⟨aF2_set i g1 ⟨(aRef_ok (s := s) (ls := ls) (M := M)).1, Or.inl rfl, Or.inl rfl⟩, set_org h1, g3⟩
  · cases h
def a_bin (c nx : Nat) : aF := fun S => match S.2.1 with
  | y :: x :: r => bif Nat.ble x.1 2 && Nat.ble y.1 2 then aGo nx (S.1, clS (aBin c x y) :: r, S.2.2) else none
  | _ => none
theorem clS_ok {s : Nat → Int} {ls : List pV} {M : pM} {a : aV} {z : Int} (h1 : gR a z) (h2 : gY s a (.inl z)) : gW (clS a) (.inl z) ∧ gY s (clS a) (.inl z) ∧ gO ls M (clS a) (.inl z) := ⟨Or.inl ⟨z, rfl, h1⟩, h2, Or.inl rfl⟩
theorem as_bin {c nx : Nat} : aSnd E (s_bin (fBin c) nx) (a_bin c nx) := by
  rintro ⟨L, K, ov⟩ outs h s A0 ls st M ⟨g1, g2, g3⟩ X Y hY
  unfold a_bin at h
  dsimp only at h g1 g2 g3
  split at h
  · rename_i y x as
    obtain ⟨vy, r1, rfl, qy, h1⟩ := aF2_cons g2
    obtain ⟨vx, r, rfl, qx, h2⟩ := aF2_cons h1
    cases hb : (Nat.ble x.1 2 && Nat.ble y.1 2) with
    | false => rw [hb] at h; cases h
    | true =>
      rw [hb, cond_true] at h
      cases h
      rw [Bool.and_eq_true] at hb
      obtain ⟨zx, rfl, rx⟩ := gW_int qx.1 (Nat.le_of_ble_eq_true hb.1)
      obtain ⟨zy, rfl, ry⟩ := gW_int qy.1 (Nat.le_of_ble_eq_true hb.2)
      have := aBin_ok c rx ry qx.2.1
      exact out1 Fr_rfl rfl ⟨g1, ⟨clS_ok this.1 this.2, h2⟩, g3⟩
  · cases h
def a_div (c nx : Nat) : aF := fun S => match S.2.1 with
  | y :: x :: r => bif Nat.ble x.1 2 && Nat.ble y.1 2 && nz y then aGo nx (S.1, clS (aDiv c x y) :: r, S.2.2) else none
  | _ => none
theorem as_div {c nx : Nat} : aSnd E (s_div (fDiv c) nx) (a_div c nx) := by
  rintro ⟨L, K, ov⟩ outs h s A0 ls st M ⟨g1, g2, g3⟩ X Y hY
  unfold a_div at h
  dsimp only at h g1 g2 g3
  split at h
  · rename_i y x as
    obtain ⟨vy, r1, rfl, qy, h1⟩ := aF2_cons g2
    obtain ⟨vx, r, rfl, qx, h2⟩ := aF2_cons h1
    cases hb : (Nat.ble x.1 2 && Nat.ble y.1 2 && nz y) with
    | false => rw [hb] at h; cases h
    | true =>
      rw [hb, cond_true] at h
      cases h
      rw [Bool.and_eq_true, Bool.and_eq_true] at hb
      obtain ⟨zx, rfl, rx⟩ := gW_int qx.1 (Nat.le_of_ble_eq_true hb.1.1)
      obtain ⟨zy, rfl, ry⟩ := gW_int qy.1 (Nat.le_of_ble_eq_true hb.1.2)
      have := aDiv_ok c rx ry
      exact out1 Fr_rfl (if_neg (nz_ok hb.2 ry)) ⟨g1, ⟨clS_ok this.1 (Or.inl this.2), h2⟩, g3⟩
  · cases h
def a_un (c nx : Nat) : aF := fun S => match S.2.1 with
  | x :: r => bif Nat.ble x.1 2 then aGo nx (S.1, clS (aUn c x) :: r, S.2.2) else none
  | _ => none
theorem as_un {c nx : Nat} : aSnd E (s_un (fUn c) nx) (a_un c nx) := by
  rintro ⟨L, K, ov⟩ outs h s A0 ls st M ⟨g1, g2, g3⟩ X Y hY
  unfold a_un at h
  dsimp only at h g1 g2 g3
  split at h
  · rename_i x as
    obtain ⟨vx, r, rfl, qx, h1⟩ := aF2_cons g2
    cases hb : Nat.ble x.1 2 with
    | false => rw [hb] at h; cases h
    | true =>
      rw [hb, cond_true] at h
      cases h
      obtain ⟨zx, rfl, rx⟩ := gW_int qx.1 (Nat.le_of_ble_eq_true hb)
      have := aUn_ok c rx
      exact out1 Fr_rfl rfl ⟨g1, ⟨clS_ok this.1 (Or.inl this.2), h1⟩, g3⟩
  · cases h
def a_mm (c nx : Nat) : aF := fun S => match S.2.1 with
  | y :: x :: r => bif Nat.ble x.1 2 && Nat.ble y.1 2 && Nat.ble r.length 8 then aGo nx (S.1, clS (aMm c x y) :: r, S.2.2) else none
  | _ => none
theorem as_mm {c nx : Nat} : aSnd E (s_mm (fMm c) nx) (a_mm c nx) := by
  rintro ⟨L, K, ov⟩ outs h s A0 ls st M ⟨g1, g2, g3⟩ X Y hY
  unfold a_mm at h
  dsimp only at h g1 g2 g3
  split at h
  · rename_i y x as
    obtain ⟨vy, r1, rfl, qy, h1⟩ := aF2_cons g2
    obtain ⟨vx, r, rfl, qx, h2⟩ := aF2_cons h1
    cases hb : (Nat.ble x.1 2 && Nat.ble y.1 2 && Nat.ble as.length 8) with
    | false => rw [hb] at h; cases h
    | true =>
      rw [hb, cond_true] at h
      cases h
      rw [Bool.and_eq_true, Bool.and_eq_true] at hb
      obtain ⟨zx, rfl, rx⟩ := gW_int qx.1 (Nat.le_of_ble_eq_true hb.1.1)
      obtain ⟨zy, rfl, ry⟩ := gW_int qy.1 (Nat.le_of_ble_eq_true hb.1.2)
      have := aMm_ok c rx ry
      have hl := hb.2
      rw [aF2_len h2] at hl
      refine out1 Fr_rfl (ls' := ls) (st' := .inl (fMm c zx zy) :: r) (M' := M) ?_ ⟨g1, ⟨clS_ok this.1 (Or.inl this.2), h2⟩, g3⟩
      unfold s_mm
      dsimp only
      rw [hl, cond_true]
  · cases h
def a_inc (i : Nat) (c : Int) (nx : Nat) : aF := fun S => let a := S.1.getD i aN
  bif Nat.ble a.1 2 then aGo nx (S.1.set i (clS (aAdd a (aR c c))), S.2.1.map (clL i), S.2.2) else none
theorem as_inc {i nx : Nat} {c : Int} : aSnd E (s_inc i c nx) (a_inc i c nx) := by
  intro S outs h s A0 ls st M g X Y hY
  unfold a_inc at h
  dsimp only at h
  cases hb : Nat.ble (S.1.getD i aN).1 2 with
  | false => rw [hb] at h; cases h
  | true =>
    rw [hb, cond_true] at h
    cases h
    have b1 := Nat.le_of_ble_eq_true hb
    have q := loc_at g.1 (i := i) (by omega)
    obtain ⟨z, e, r⟩ := gW_int q.1 b1
    rw [e] at q
    have t := aAdd_ok (y := aR c c) (zy := c) r (aR_ok (Int.le_refl _) (Int.le_refl _)) q.2.1
    refine out1 Fr_rfl (ls' := ls.set i (.inl (z + c))) (st' := st) (M' := M) (by unfold s_inc; rw [e]) ⟨aF2_set i g.1 ⟨Or.inl ⟨_, rfl, t.1⟩, t.2, Or.inl rfl⟩, set_org g.2.1, g.2.2⟩
def aBr (E : aE) (c : Nat) (x y : aV) (S : eS) (pc : Nat) : List aO := match rfn c x y with
  | none => []
  | some q => [.inr (pc, aUpd E.1 (aUpd E.1 S x.2.2.2.2.2 q.1) y.2.2.2.2.2 q.2)]
theorem aBr_ok (hE : aWF E) {s : Nat → Int} {A0 ls st : List pV} {M : pM} {S : eS} {X : pX} {q : Option pR} {c pc : Nat} {x y : aV} {zx zy : Int} (g : gS E s A0 S ls st M) (rx : gR x zx) (ry : gR y zy) (ox : gO ls M x (.inl zx)) (oy : gO ls M y (.inl zy)) (h : cmp c zx zy) (e : q = X pc ls st M) {l : List aO} (hl : ∀ o, o ∈ aBr E c x y S pc → o ∈ l) : aOut E l s A0 ls M X q := by
  obtain ⟨x', y', e1, r1, r2⟩ := rfn_ok rx ry h
  have hm : (.inr (pc, aUpd E.1 (aUpd E.1 S x.2.2.2.2.2 x') y.2.2.2.2.2 y') : aO) ∈ l := hl _ (by unfold aBr; rw [e1]; exact List.mem_singleton.mpr rfl)
  exact ⟨_, hm, M, Fr_rfl, Or.inr ⟨_, _, ls, st, rfl, e, aUpd_ok hE (aUpd_ok hE g ox r1) oy r2⟩⟩
def a_if (E : aE) (c tgt nx : Nat) : aF := fun S => match S.2.1 with
  | x :: r => bif Nat.ble x.1 2 && Nat.ble c 5 then some (aBr E c x (aR 0 0) (S.1, r, S.2.2) tgt ++ aBr E (cng c) x (aR 0 0) (S.1, r, S.2.2) nx) else none
  | _ => none
theorem as_if (hE : aWF E) {P : Int → Prop} {dP : DecidablePred P} {c tgt nx : Nat} (hP : ∀ z, P z ↔ cmp c z 0) : aSnd E (s_if P dP tgt nx) (a_if E c tgt nx) := by
  rintro ⟨L, K, ov⟩ outs h s A0 ls st M ⟨g1, g2, g3⟩ X Y hY
  unfold a_if at h
  dsimp only at h g1 g2 g3
  split at h
  · rename_i x as
    obtain ⟨vx, r, rfl, qx, h1⟩ := aF2_cons g2
    cases hb : (Nat.ble x.1 2 && Nat.ble c 5) with
    | false => rw [hb] at h; cases h
    | true =>
      rw [hb, cond_true] at h
      cases h
      rw [Bool.and_eq_true] at hb
      obtain ⟨zx, rfl, rx⟩ := gW_int qx.1 (Nat.le_of_ble_eq_true hb.1)
      have hc := Nat.le_of_ble_eq_true hb.2
      have r0 : gR (aR 0 0) 0 := aR_ok (by decide) (by decide)
      by_cases p : P zx
      · exact aBr_ok hE (S := (L, as, ov)) ⟨g1, h1, g3⟩ rx r0 qx.2.2 (Or.inl rfl) ((hP zx).mp p) (if_pos p) (fun o ho => List.mem_append_left _ ho)
      · exact aBr_ok hE (S := (L, as, ov)) ⟨g1, h1, g3⟩ rx r0 qx.2.2 (Or.inl rfl) (cng_ok (by omega) (fun w => p ((hP zx).mpr w))) (if_neg p) (fun o ho => List.mem_append_right _ ho)
  · cases h
/-- both are so far from one symbol: then the answer is known -/
def symNo (c : Nat) (x y : aV) : Bool := aIn x && aIn y && !(Nat.beq x.2.2.2.1 0) && Nat.beq x.2.2.2.1 y.2.2.2.1 && Nat.ble (x.2.2.2.1 + 1) 1000000 && !(match c with
  | 0 => decide (x.2.2.2.2.1 = y.2.2.2.2.1)
  | 1 => !(decide (x.2.2.2.2.1 = y.2.2.2.2.1))
  | 2 => decide (x.2.2.2.2.1 < y.2.2.2.2.1)
  | 3 => decide (x.2.2.2.2.1 ≤ y.2.2.2.2.1)
  | 4 => decide (y.2.2.2.2.1 < x.2.2.2.2.1)
  | _ => decide (y.2.2.2.2.1 ≤ x.2.2.2.2.1))
theorem symNo_ok {c : Nat} {s : Nat → Int} {x y : aV} {zx zy : Int} (hx : gR x zx) (hy : gR y zy) (yx : gY s x (.inl zx)) (yy : gY s y (.inl zy)) (h : cmp c zx zy) : symNo c x y = false := by
  cases hb : symNo c x y with
  | false => rfl
  | true =>
    exfalso
    unfold symNo at hb
    simp only [Bool.and_eq_true] at hb
    obtain ⟨⟨⟨⟨⟨b1, b2⟩, b3⟩, b4⟩, b5⟩, b6⟩ := hb
    have qx := gR_in b1 hx
    have qy := gR_in b2 hy
    have e := Nat.eq_of_beq_eq_true b4
    have l := Nat.le_of_ble_eq_true b5
    have n0 : x.2.2.2.1 ≠ 0 := fun z => by rw [z] at b3; cases b3
    have ex : zx = s x.2.2.2.1 + x.2.2.2.2.1 := by
      rcases yx with y1 | ⟨-, y1⟩ | ⟨y1, -⟩
      · exact absurd y1 n0
      · exact Sum.inl.inj y1
      · omega
    have ey : zy = s x.2.2.2.1 + y.2.2.2.2.1 := by
      rcases yy with y1 | ⟨-, y1⟩ | ⟨y1, -⟩
      · omega
      · rw [e]; exact Sum.inl.inj y1
      · omega
    unfold cmp at h
    split at h
    · rw [iv_eq (by omega) (by omega) (by omega) (by omega)] at h
      have : x.2.2.2.2.1 = y.2.2.2.2.1 := by omega
      simp [this] at b6
    · rw [iv_eq (by omega) (by omega) (by omega) (by omega)] at h
      have : ¬ x.2.2.2.2.1 = y.2.2.2.2.1 := by omega
      simp [this] at b6
    · rw [iv_lt (by omega) (by omega) (by omega) (by omega)] at h
      have : x.2.2.2.2.1 < y.2.2.2.2.1 := by omega
      simp [this] at b6
    · rw [iv_le (by omega) (by omega) (by omega) (by omega)] at h
      have : x.2.2.2.2.1 ≤ y.2.2.2.2.1 := by omega
      simp [this] at b6
    · rw [iv_lt (by omega) (by omega) (by omega) (by omega)] at h
      have : y.2.2.2.2.1 < x.2.2.2.2.1 := by omega
      simp [this] at b6
    · rw [iv_le (by omega) (by omega) (by omega) (by omega)] at h
      have : y.2.2.2.2.1 ≤ x.2.2.2.2.1 := by omega
      simp [this] at b6
    · exact h
def brS (E : aE) (c : Nat) (x y : aV) (S : eS) (pc : Nat) : List aO := bif symNo c x y then [] else aBr E c x y S pc
def a_if2 (E : aE) (c tgt nx : Nat) : aF := fun S => match S.2.1 with
  | y :: x :: r => bif Nat.ble x.1 2 && Nat.ble y.1 2 && Nat.ble c 5 then some (brS E c x y (S.1, r, S.2.2) tgt ++ brS E (cng c) x y (S.1, r, S.2.2) nx) else none
  | _ => none
theorem as_if2 (hE : aWF E) {P : Int → Int → Prop} {dP : ∀ x y, Decidable (P x y)} {c tgt nx : Nat} (hP : ∀ x y, P x y ↔ cmp c x y) : aSnd E (s_if2 P dP tgt nx) (a_if2 E c tgt nx) := by
  rintro ⟨L, K, ov⟩ outs h s A0 ls st M ⟨g1, g2, g3⟩ X Y hY
  unfold a_if2 at h
  dsimp only at h g1 g2 g3
  split at h
  · rename_i y x as
    obtain ⟨vy, r1, rfl, qy, h1⟩ := aF2_cons g2
    obtain ⟨vx, r, rfl, qx, h2⟩ := aF2_cons h1
    cases hb : (Nat.ble x.1 2 && Nat.ble y.1 2 && Nat.ble c 5) with
    | false => rw [hb] at h; cases h
    | true =>
      rw [hb, cond_true] at h
      cases h
      rw [Bool.and_eq_true, Bool.and_eq_true] at hb
      obtain ⟨zx, rfl, rx⟩ := gW_int qx.1 (Nat.le_of_ble_eq_true hb.1.1)
      obtain ⟨zy, rfl, ry⟩ := gW_int qy.1 (Nat.le_of_ble_eq_true hb.1.2)
      have hc := Nat.le_of_ble_eq_true hb.2
      by_cases p : P zx zy
      · have hp := (hP zx zy).mp p
        exact aBr_ok hE (S := (L, as, ov)) ⟨g1, h2, g3⟩ rx ry qx.2.2 qy.2.2 hp (if_pos p) (fun o ho => List.mem_append_left _ (by unfold brS; rw [symNo_ok rx ry qx.2.1 qy.2.1 hp]; exact ho))
      · have hp := cng_ok (c := c) (x := zx) (y := zy) (by omega) (fun w => p ((hP zx zy).mpr w))
        exact aBr_ok hE (S := (L, as, ov)) ⟨g1, h2, g3⟩ rx ry qx.2.2 qy.2.2 hp (if_neg p) (fun o ho => List.mem_append_right _ (by unfold brS; rw [symNo_ok rx ry qx.2.1 qy.2.1 hp]; exact ho))
  · cases h
def a_goto (tgt : Nat) : aF := fun S => aGo tgt S
theorem as_goto {tgt : Nat} : aSnd E (s_goto tgt) (a_goto tgt) := by
  intro S outs h s A0 ls st M g X Y hY
  cases h
  exact out1 Fr_rfl rfl g
def a_dup (nx : Nat) : aF := fun S => match S.2.1 with
  | a :: r => aGo nx (S.1, a :: a :: r, S.2.2)
  | _ => none
theorem as_dup {nx : Nat} : aSnd E (s_dup nx) (a_dup nx) := by
  rintro ⟨L, K, ov⟩ outs h s A0 ls st M ⟨g1, g2, g3⟩ X Y hY
  unfold a_dup at h
  dsimp only at h g1 g2 g3
  split at h
  · obtain ⟨v, r, rfl, q, h1⟩ := aF2_cons g2
    cases h
    exact out1 Fr_rfl rfl ⟨g1, ⟨q, q, h1⟩, g3⟩
  · cases h
def a_dup2 (nx : Nat) : aF := fun S => match S.2.1 with
  | a :: b :: r => aGo nx (S.1, a :: b :: a :: b :: r, S.2.2)
  | _ => none
theorem as_dup2 {nx : Nat} : aSnd E (s_dup2 nx) (a_dup2 nx) := by
  rintro ⟨L, K, ov⟩ outs h s A0 ls st M ⟨g1, g2, g3⟩ X Y hY
  unfold a_dup2 at h
  dsimp only at h g1 g2 g3
  split at h
  · obtain ⟨v, r1, rfl, q, h1⟩ := aF2_cons g2
    obtain ⟨v2, r, rfl, q2, h2⟩ := aF2_cons h1
    cases h
    exact out1 Fr_rfl rfl ⟨g1, ⟨q, q2, q, q2, h2⟩, g3⟩
  · cases h
def a_dupx1 (nx : Nat) : aF := fun S => match S.2.1 with
  | a :: b :: r => aGo nx (S.1, a :: b :: a :: r, S.2.2)
  | _ => none
theorem as_dupx1 {nx : Nat} : aSnd E (s_dupx1 nx) (a_dupx1 nx) := by
  rintro ⟨L, K, ov⟩ outs h s A0 ls st M ⟨g1, g2, g3⟩ X Y hY
  unfold a_dupx1 at h
  dsimp only at h g1 g2 g3
  split at h
  · obtain ⟨v, r1, rfl, q, h1⟩ := aF2_cons g2
    obtain ⟨v2, r, rfl, q2, h2⟩ := aF2_cons h1
    cases h
    exact out1 Fr_rfl rfl ⟨g1, ⟨q, q2, q, h2⟩, g3⟩
  · cases h
def a_pop (nx : Nat) : aF := fun S => match S.2.1 with
  | _ :: r => aGo nx (S.1, r, S.2.2)
  | _ => none
theorem as_pop {nx : Nat} : aSnd E (s_pop nx) (a_pop nx) := by
  rintro ⟨L, K, ov⟩ outs h s A0 ls st M ⟨g1, g2, g3⟩ X Y hY
  unfold a_pop at h
  dsimp only at h g1 g2 g3
  split at h
  · obtain ⟨v, r, rfl, q, h1⟩ := aF2_cons g2
    cases h
    exact out1 Fr_rfl rfl ⟨g1, h1, g3⟩
  · cases h
def a_ifnull (tgt nx : Nat) : aF := fun S => match S.2.1 with
  | a :: r => bif Nat.beq a.1 3 && decide (1 ≤ a.2.1) then aGo (bif Nat.beq a.2.1.toNat 1 then tgt else nx) (S.1, r, S.2.2) else none
  | _ => none
theorem as_ifnull {tgt nx : Nat} : aSnd E (s_ifnull tgt nx) (a_ifnull tgt nx) := by
  rintro ⟨L, K, ov⟩ outs h s A0 ls st M ⟨g1, g2, g3⟩ X Y hY
  unfold a_ifnull at h
  dsimp only at h g1 g2 g3
  split at h
  · rename_i a as
    obtain ⟨v, r, rfl, q, h1⟩ := aF2_cons g2
    cases hb : (Nat.beq a.1 3 && decide (1 ≤ a.2.1)) with
    | false => rw [hb] at h; cases h
    | true =>
      rw [hb, cond_true] at h
      rw [Bool.and_eq_true, decide_eq_true_eq] at hb
      have e := gW_ref q.1 (Nat.eq_of_beq_eq_true hb.1)
      obtain ⟨j, hj⟩ : ∃ j, a.2.1.toNat = j + 1 := ⟨a.2.1.toNat - 1, by omega⟩
      rw [hj] at e h
      subst e
      cases j with
      | zero => cases h; exact out1 Fr_rfl rfl ⟨g1, h1, g3⟩
      | succ j => cases h; exact out1 Fr_rfl rfl ⟨g1, h1, g3⟩
  · cases h
end STEPS
